/-! What holds at the law's start. -/
section LWS
variable {s : State} {args : Array Value}
theorem vg_know (hts : ∀ w ∈ vg_T, w.before args s = true) {own : String} {index ci N : Nat} {fs : List Value} (h : vg_N own index ci N fs) : ∃ q : ClassId × (Nat → Nat), ∀ r, vwCl[ci]? = some r → u_Kn s r.1 r.2.1 r.2.2 q.1 q.2 := by
  obtain ⟨C, T, ty0, ⟨hc, hin, -, -⟩, -, hins, -, -⟩ := h
  obtain ⟨cC, iS, hk⟩ := u_known hts hin (hts _ hins)
  exact ⟨(cC, iS), fun r hr => by rw [hc] at hr; cases hr; exact hk⟩
theorem vg_knows (hts : ∀ w ∈ vg_T, w.before args s = true) : ∃ D : va_G, ∀ (k : Nat) (q : vw_C), vwCl[k]? = some q → u_Kn s q.1 q.2.1 q.2.2 (D.1 k) (D.2 k) := by
  have h0 : ∀ k : Nat, ∃ q : ClassId × (Nat → Nat), ∀ r, vwCl[k]? = some r → u_Kn s r.1 r.2.1 r.2.2 q.1 q.2 := by
    intro k
    match k with
    | 0 => exact vg_know hts fN_J1_1
    | 1 => exact vg_know hts fN_X10_9
    | 2 => exact vg_know hts fN_X10_23
    | 3 => exact vg_know hts fN_X9_9
    | 4 => exact vg_know hts fN_X8_9
    | 5 => exact vg_know hts fN_X6_30
    | 6 => exact vg_know hts fN_X3_10
    | 7 => exact vg_know hts fN_X5_19
    | 8 => exact vg_know hts fN_X10_128
    | 9 => exact vg_know hts fN_X5_64
    | 10 => exact vg_know hts fN_X10_119
    | 11 => exact vg_know hts fN_X10_16
    | 12 => exact vg_know hts fN_X10_30
    | 13 => exact vg_know hts fN_L_8
    | 14 => exact vg_know hts fN_L_35
    | k + 15 => exact ⟨(0, fun _ => 0), fun r hr => absurd (List.getElem?_eq_some_iff.mp hr).1 (by simp)⟩
  obtain ⟨f, hf⟩ := Classical.axiomOfChoice h0
  exact ⟨(fun k => (f k).1, fun k => (f k).2), fun k q hq => hf k q hq⟩
theorem vg_arrC {ty : FieldType} (h : (Cond.arrayClass ty).before args s = true) : ∃ cA : ClassId, ArrOfT s cA ty ∧ s.vm.findClass ("[" ++ ty.toString) = some cA := by
  obtain ⟨c, k, comp, h1, h2, h3⟩ := Cond.arrayClass_spec h
  exact ⟨c, fun n z => ⟨fun k h => (by cases h), k, h2, comp, h3⟩, h1⟩
theorem vg_arrO (h : (Cond.arrayOver (.object "java/lang/Object")).before args s = true) : ∃ cA : ClassId, ArrOfT s cA (.object "java/lang/Object") ∧ va_RA s cA (.object "java/lang/Object") := by
  obtain ⟨comp, c, k, h1, -, h3, h4, h5⟩ := Cond.arrayOver_spec h
  exact ⟨c, fun n z => ⟨fun k h => (by cases h), k, h3, comp, h4⟩, k, comp, h3, h4, h1, h5⟩
/-- a String from the start, and its letters -/
def StrA (s : State) (iS : Nat → Nat) (cS : ClassId) (a v : Nat) : Prop := ∃ cell : Cell, s.heap[a]? = some cell ∧ cell.vm ≠ .unknown ∧ cell.vm.isStatics = false ∧ cell.cls = cS ∧ cell.slots[iS 0]? = some (.ref v) ∧ cell.slots[iS 1]? = some (.int 0) ∧ (∃ h, cell.slots[iS 2]? = some h) ∧ ∃ z, cell.slots[iS 3]? = some z
def ByA (s : State) (v : Nat) (cs : List Nat) (kc : ClassId) : Prop := ∃ cell : Cell, s.heap[v]? = some cell ∧ cell.vm ≠ .unknown ∧ cell.vm.isStatics = false ∧ s.isArrayOf cell .byte ∧ cell.cls = kc ∧ cs.length ≤ cell.slots.size ∧ cell.slots.size.toInt32 = Int32.ofNat cs.length ∧ ∀ j, j < cs.length → cell.slots[j]? = some (.int (nI (cs.getD j 0)))
theorem st_stat {cell : Cell} (h : ∀ k, cell.vm ≠ .statics k) : cell.vm.isStatics = false := by
  cases hv : cell.vm with
  | statics k => exact absurd hv (h k)
  | _ => rfl
theorem str_of {tm : Term} {a : Nat} {cs : List Nat} {cS : ClassId} {iS : Nat → Nat} (hts : ∀ w ∈ vg_T, w.before args s = true) (hin : ∀ w ∈ u_ws RJ0 TJ0 4, w ∈ vg_T) (hK : u_Kn s RJ0 TJ0 4 cS iS) (hev : tm.eval args s none [] s = some (.ref a)) (hN : cs.length < 2 ^ 31)
    (hex : (Cond.exactly tm "java/lang/String").before args s = true) (hco : (Cond.eq (.field tm "java/lang/String" "coder" "B") (.int 0)).before args s = true) (har : (Cond.arrayOf (.field tm "java/lang/String" "value" "[B") .byte).before args s = true) (hle : (Cond.eq (.length (.field tm "java/lang/String" "value" "[B")) (.int (Int32.ofNat cs.length))).before args s = true)
    (hel : ∀ j : Nat, j < cs.length → (Cond.eq (.elem (.field tm "java/lang/String" "value" "[B") (.int (Int32.ofNat j))) (.int (nI (cs.getD j 0)))).before args s = true) : ∃ v kc, StrA s iS cS a v ∧ ByA s v cs kc := by
  obtain ⟨a', c, cA, kA, q1, q2, q3, q4, q5, q6, q7⟩ := Cond.exactly_spec (args := args) (first := s) (o := none) (s := s) (idx := []) (t := tm) (cls := "java/lang/String") hex
  have ea : a' = a := by
    have := q1.symm.trans hev
    cases this
    rfl
  subst ea
  obtain ⟨v, ht, hT⟩ := va_Tof (f := fun j => .int (nI (cs.getD j 0))) (A := fun _ => False) hN har (va_eqt hle) (fun j hj => va_eqt (hel j hj)) (fun _ _ h => h)
  obtain ⟨cf1, k1, i1, f1, cell1, g1, g2, g3, g4, g5, -⟩ := vk_OFof (A := fun _ => False) q1 (va_eqt hco) (fun _ _ h => h)
  obtain ⟨cf0, k0, i0, f0, cell0, e1, e2, e3, e4, e5, -⟩ := vk_OFof (A := fun _ => False) q1 ht (fun _ _ h => h)
  obtain ⟨hS, hfc, kC, hkC, hkind⟩ := hK
  cases q3.symm.trans g3
  cases q3.symm.trans e3
  have ec : c = cS := Option.some.inj (q2.symm.trans hfc)
  subst ec
  cases q4.symm.trans hkC
  have sz := q7 hkind
  have sl : ∀ k, k < 4 → ∃ h, cA.slots[iS k]? = some h := fun k hk => by
    obtain ⟨cf, kf, fi, fd, hi, hsl⟩ := hS k hk
    have h9 := (u_facts hfc hkC (u_lays hts hin hk) hi).2.2
    have h8 : fd.slot < kA.instanceTypes.size := (Array.getElem?_eq_some_iff.mp h9).1
    rw [← hsl]
    exact ⟨_, Array.getElem?_eq_getElem (by omega)⟩
  obtain ⟨cf, kf, fi, fd, hi, hsl⟩ := hS 0 (by decide)
  cases (show s.fieldFound? "java/lang/String" "value" "[B" = some (cf, kf, fi, fd) from hi).symm.trans e1
  obtain ⟨cf', kf', fi', fd', hi', hsl'⟩ := hS 1 (by decide)
  cases (show s.fieldFound? "java/lang/String" "coder" "B" = some (cf', kf', fi', fd') from hi').symm.trans g1
  obtain ⟨cv, t1, t2, t3, t4, t5, t6, -⟩ := hT
  exact ⟨v, cv.cls, ⟨cA, q3, e4, q5, q6, by rw [← hsl]; exact e5, by rw [← hsl']; exact g5, sl 2 (by decide), sl 3 (by decide)⟩, cv, t1, t3, st_stat t2.1, t2, rfl, t4, t5, t6⟩
def st_v (s : State) (a i : Nat) : Value := ((s.heap[a]?).bind (fun c : Cell => c.slots[i]?)).getD .null
def st_S (s : State) (iS : Nat → Nat) (a : Nat) : vg_E := .inr (0, [st_v s a (iS 0), st_v s a (iS 1), st_v s a (iS 2), st_v s a (iS 3)])
def st_n (s : State) (a : Nat) : Nat := (((s.heap[a]?).map (fun c : Cell => c.slots.size.toInt32)).getD 0).toNatClampNeg
def st_f (s : State) (a j : Nat) : Int32 := match st_v s a j with
  | .int x => x
  | _ => 0
def st_B (s : State) (a : Nat) : vg_E := .inl (0, st_n s a, .inl (st_f s a))
def st_E : vg_E := .inl (5, 0, .inr (.inr (.inr (.inr (fun _ => none)))))
def st_M (s : State) (iS : Nat → Nat) (S B : List Nat) (k : Nat) (K : Nat → Nat) : vg_M := (fun a => if a ∈ S then some (st_S s iS a) else if a ∈ B then some (st_B s a) else if a = k then some st_E else none, s.heap.size, s.heap.size, K)
theorem st_at {a i : Nat} {cell : Cell} {w : Value} (h : s.heap[a]? = some cell) (hi : cell.slots[i]? = some w) : st_v s a i = w := by
  unfold st_v
  rw [h, Option.bind_some, hi]
  rfl
theorem StrA.eq {iS : Nat → Nat} {cS : ClassId} {a v : Nat} (h : StrA s iS cS a v) : ∃ x z, st_S s iS a = .inr (0, [.ref v, .int 0, x, z]) := by
  obtain ⟨cell, h1, -, -, -, h5, h6, ⟨x, h7⟩, z, h8⟩ := h
  exact ⟨x, z, by unfold st_S; rw [st_at h1 h5, st_at h1 h6, st_at h1 h7, st_at h1 h8]⟩
theorem StrA.aw {D : va_G} {cy : Nat → ClassId} {a v : Nat} (h : StrA s (D.2 0) (D.1 0) a v) : vg_aw D cy a (st_S s (D.2 0) a) s.heap := by
  obtain ⟨cell, h1, h2, h3, h4, h5, h6, ⟨x, h7⟩, z, h8⟩ := h
  refine ⟨cell, h1, h2, h3, _, rfl, h4, fun k hk => ?_⟩
  have hk : k < 4 := hk
  match k, hk with
  | 0, _ => rw [h5]; exact congrArg some (st_at h1 h5).symm
  | 1, _ => rw [h6]; exact congrArg some (st_at h1 h6).symm
  | 2, _ => rw [h7]; exact congrArg some (st_at h1 h7).symm
  | 3, _ => rw [h8]; exact congrArg some (st_at h1 h8).symm
theorem ByA.n {v : Nat} {cs : List Nat} {kc : ClassId} (h : ByA s v cs kc) (hN : cs.length < 2 ^ 31) : st_n s v = cs.length := by
  obtain ⟨cell, h1, -, -, -, -, -, h7, -⟩ := h
  unfold st_n
  rw [h1, Option.map_some, Option.getD_some, h7]
  exact nI_clamp hN
theorem ByA.f {v j : Nat} {cs : List Nat} {kc : ClassId} (h : ByA s v cs kc) (hj : j < cs.length) : st_f s v j = nI (cs.getD j 0) := by
  obtain ⟨cell, h1, -, -, -, -, -, -, h8⟩ := h
  unfold st_f
  rw [st_at h1 (h8 j hj)]
theorem ByA.aw {D : va_G} {cy : Nat → ClassId} {v i : Nat} {cs : List Nat} {kc : ClassId} (h : ByA s v cs kc) (hN : cs.length < 2 ^ 31) (hc : kc = cy (200 + i)) : vg_aw D cy v (st_B s v) s.heap := by
  have hn := h.n hN
  have hf := fun j hj => h.f (j := j) hj
  obtain ⟨cell, h1, h2, h3, h4, h5, h6, h7, h8⟩ := h
  refine ⟨cell, h1, h2, h3, Or.inr ⟨rfl, i, h5.trans hc⟩, by show st_n s v ≤ _; rw [hn]; exact h6, by show _ = Int32.ofNat (st_n s v); rw [hn]; exact h7, fun j hj => ?_⟩
  have hj : j < st_n s v := hj
  show cell.slots[j]? = (vp_cell (cy 0) (st_n s v, .inl (st_f s v))).slots[j]?
  rw [vp_cell_i, arrV_read _ _ hj, hf j (by omega)]
  exact h8 j (by omega)
theorem st_ne {iS : Nat → Nat} {cS : ClassId} {a v : Nat} {C : String} {ty : FieldType} {cell : Cell} (h : StrA s iS cS a v) (hC : ClassAt s C cS) (h1 : s.heap[a]? = some cell) (h2 : s.isArrayOf cell ty) : False := by
  obtain ⟨c0, q1, -, -, q4, -⟩ := h
  cases q1.symm.trans h1
  obtain ⟨-, kC, hkC, hkind⟩ := hC
  obtain ⟨-, k, hk, comp, hkd⟩ := h2
  rw [q4] at hk
  cases hkC.symm.trans hk
  rw [hkind] at hkd
  cases hkd
theorem st_ne2 {v : Nat} {cs : List Nat} {kc : ClassId} {cell : Cell} {C : String} (h : ByA s v cs kc) (h1 : s.heap[v]? = some cell) (h2 : s.isArrayOf cell (.object C)) : False := by
  obtain ⟨c0, q1, -, -, q4, -⟩ := h
  cases q1.symm.trans h1
  obtain ⟨-, k, hk, comp, hkd⟩ := h2
  obtain ⟨-, k', hk', comp', hkd'⟩ := q4
  cases hk.symm.trans hk'
  rw [hkd] at hkd'
  cases hkd'
def cyF (c0 c1 c2 c3 c4 c5 : Nat) (ad : Nat → Nat) (p0 p1 p2 : Nat) (cv : Nat → Nat) : Nat → Nat := fun n => if n = 0 then c0 else if n = 1 then c1 else if n = 2 then c2 else if n = 3 then c3 else if n = 4 then c4 else if n = 5 then c5 else if n = 130 then p0 else if n = 131 then p1 else if n = 132 then p2 else if 200 ≤ n then cv (n - 200) else ad (n - 100)
theorem cyF_ad {c0 c1 c2 c3 c4 c5 p0 p1 p2 : Nat} {ad cv : Nat → Nat} {i : Nat} (h : i < 30) : cyF c0 c1 c2 c3 c4 c5 ad p0 p1 p2 cv (100 + i) = ad i := by
  unfold cyF
  rw [if_neg (by omega), if_neg (by omega), if_neg (by omega), if_neg (by omega), if_neg (by omega), if_neg (by omega), if_neg (by omega), if_neg (by omega), if_neg (by omega), if_neg (by omega), show 100 + i - 100 = i by omega]
theorem cyF_cv {c0 c1 c2 c3 c4 c5 p0 p1 p2 : Nat} {ad cv : Nat → Nat} {i : Nat} : cyF c0 c1 c2 c3 c4 c5 ad p0 p1 p2 cv (200 + i) = cv i := by
  unfold cyF
  rw [if_neg (by omega), if_neg (by omega), if_neg (by omega), if_neg (by omega), if_neg (by omega), if_neg (by omega), if_neg (by omega), if_neg (by omega), if_neg (by omega), if_pos (by omega), show 200 + i - 200 = i by omega]
/-- the memory at the start -/
theorem st_world {D : va_G} {cy : Nat → ClassId} {k5 : Nat} {cell5 : Cell} (hS0 : ClassAt s RJ0 (D.1 0)) (a v : Nat → Nat) (cs : Nat → List Nat) (kc : Nat → ClassId) (hs : ∀ i, i < 6 → StrA s (D.2 0) (D.1 0) (a i) (v i) ∧ ByA s (v i) (cs i) (kc i) ∧ (cs i).length ≤ 1000 ∧ (∀ c ∈ cs i, c < 128)) (hkc : ∀ i, i < 6 → kc i = cy (200 + i)) (h51 : s.heap[k5]? = some cell5) (h52 : cell5.vm ≠ .unknown) (h53 : s.isArrayOf cell5 (.object "java/lang/Object")) (h54 : cell5.cls = cy 5) (h55 : cell5.slots.size.toInt32 = Int32.ofNat 0) (hk5 : cy 131 = k5) (ha : cy 100 = a 0 ∧ cy 101 = a 1 ∧ cy 104 = a 2 ∧ cy 108 = a 3 ∧ cy 109 = a 4 ∧ cy 117 = a 5) (hc : cs 0 = [] ∧ cs 1 = [] ∧ cs 2 = [] ∧ cs 3 = [46] ∧ cs 4 = [46, 46] ∧ cs 5 = []) :
    ∃ g : pg_G, vg_H D cy s.heap g.1 s.heap ∧ pg_Wf g ∧ pg_C g ∧ ∀ b, g.2 b = 0 := by
  have hmS : ∀ x, x ∈ [a 0, a 1, a 2, a 3, a 4, a 5] → ∃ i, i < 6 ∧ x = a i := fun x hx => by
    simp only [List.mem_cons, List.not_mem_nil, or_false] at hx
    rcases hx with h | h | h | h | h | h
    · exact ⟨0, by decide, h⟩
    · exact ⟨1, by decide, h⟩
    · exact ⟨2, by decide, h⟩
    · exact ⟨3, by decide, h⟩
    · exact ⟨4, by decide, h⟩
    · exact ⟨5, by decide, h⟩
  have hmB : ∀ x, x ∈ [v 0, v 1, v 2, v 3, v 4, v 5] → ∃ i, i < 6 ∧ x = v i := fun x hx => by
    simp only [List.mem_cons, List.not_mem_nil, or_false] at hx
    rcases hx with h | h | h | h | h | h
    · exact ⟨0, by decide, h⟩
    · exact ⟨1, by decide, h⟩
    · exact ⟨2, by decide, h⟩
    · exact ⟨3, by decide, h⟩
    · exact ⟨4, by decide, h⟩
    · exact ⟨5, by decide, h⟩
  have hS : ∀ i, i < 6 → a i ∈ [a 0, a 1, a 2, a 3, a 4, a 5] := fun i hi => by
    match i, hi with
    | 0, _ => simp
    | 1, _ => simp
    | 2, _ => simp
    | 3, _ => simp
    | 4, _ => simp
    | 5, _ => simp
  have hB : ∀ i, i < 6 → v i ∈ [v 0, v 1, v 2, v 3, v 4, v 5] := fun i hi => by
    match i, hi with
    | 0, _ => simp
    | 1, _ => simp
    | 2, _ => simp
    | 3, _ => simp
    | 4, _ => simp
    | 5, _ => simp
  generalize [a 0, a 1, a 2, a 3, a 4, a 5] = LS at *
  generalize [v 0, v 1, v 2, v 3, v 4, v 5] = LB at *
  have nBS : ∀ i, i < 6 → v i ∉ LS := fun i hi hm => by
    obtain ⟨j, hj, e⟩ := hmS _ hm
    obtain ⟨-, ⟨cell, b1, -, -, b4, -⟩, -⟩ := hs i hi
    rw [e] at b1
    exact st_ne (hs j hj).1 hS0 b1 b4
  have n5S : k5 ∉ LS := fun hm => by
    obtain ⟨j, hj, e⟩ := hmS _ hm
    rw [e] at h51
    exact st_ne (hs j hj).1 hS0 h51 h53
  have n5B : k5 ∉ LB := fun hm => by
    obtain ⟨j, hj, e⟩ := hmB _ hm
    rw [e] at h51
    exact st_ne2 (hs j hj).2.1 h51 h53
  have mS : ∀ i, i < 6 → (st_M s (D.2 0) LS LB k5 (fun i => cy (100 + i))).1 (a i) = some (st_S s (D.2 0) (a i)) := fun i hi => if_pos (hS i hi)
  have mB : ∀ i, i < 6 → (st_M s (D.2 0) LS LB k5 (fun i => cy (100 + i))).1 (v i) = some (st_B s (v i)) := fun i hi => (if_neg (nBS i hi)).trans (if_pos (hB i hi))
  have m5 : (st_M s (D.2 0) LS LB k5 (fun i => cy (100 + i))).1 k5 = some st_E := (if_neg n5S).trans ((if_neg n5B).trans (if_pos rfl))
  have hcell : ∀ x e, (st_M s (D.2 0) LS LB k5 (fun i => cy (100 + i))).1 x = some e → vg_aw D cy x e s.heap := fun x e he => by
    have he : (if x ∈ LS then some (st_S s (D.2 0) x) else if x ∈ LB then some (st_B s x) else if x = k5 then some st_E else none) = some e := he
    by_cases h1 : x ∈ LS
    · rw [if_pos h1] at he
      cases he
      obtain ⟨i, hi, rfl⟩ := hmS x h1
      exact (hs i hi).1.aw
    · rw [if_neg h1] at he
      by_cases h2 : x ∈ LB
      · rw [if_pos h2] at he
        cases he
        obtain ⟨i, hi, rfl⟩ := hmB x h2
        exact (hs i hi).2.1.aw (Nat.lt_of_le_of_lt (hs i hi).2.2.1 (by decide)) (hkc i hi)
      · rw [if_neg h2] at he
        by_cases h3 : x = k5
        · rw [if_pos h3] at he
          cases he
          subst h3
          exact ⟨cell5, h51, h52, st_stat h53.1, Or.inl h54, Nat.zero_le _, h55, fun j hj => absurd hj (Nat.not_lt_zero _)⟩
        · rw [if_neg h3] at he
          cases he
  have hstr : ∀ i, i < 6 → ps_S (st_M s (D.2 0) LS LB k5 (fun i => cy (100 + i)), fun _ => 0) (a i) (cs i) := fun i hi => by
    obtain ⟨s1, s2, s3, s4⟩ := hs i hi
    obtain ⟨x, z, e⟩ := s1.eq
    have hN : (cs i).length < 2 ^ 31 := Nat.lt_of_le_of_lt s3 (by decide)
    refine ⟨v i, x, z, st_f s (v i), by show (st_M s (D.2 0) LS LB k5 (fun i => cy (100 + i))).1 (a i) = _; rw [mS i hi, e], by show (st_M s (D.2 0) LS LB k5 (fun i => cy (100 + i))).1 (v i) = _; rw [mB i hi, st_B, s2.n hN], fun j hj => s2.f hj, s4, s3, rfl, rfl⟩
  obtain ⟨a0, a1, a2, a3, a4, a5⟩ := ha
  obtain ⟨c0, c1, c2, c3, c4, c5⟩ := hc
  refine ⟨(st_M s (D.2 0) LS LB k5 (fun i => cy (100 + i)), fun _ => 0), ⟨rfl, rfl, Nat.le_refl _, fun x e he => ⟨hcell x e he, fun hx => ?_⟩, fun _ _ => rfl, fun i => rfl⟩, ⟨fun x hx => ?_, Nat.le_refl _, fun _ _ => rfl⟩, ?_, fun _ => rfl⟩
  · have := (hcell x e he).lt
    omega
  · have hx : s.heap.size ≤ x := hx
    show (st_M s (D.2 0) LS LB k5 (fun i => cy (100 + i))).1 x = none
    cases he : (st_M s (D.2 0) LS LB k5 (fun i => cy (100 + i))).1 x with
    | none => rfl
    | some e =>
      have := (hcell x e he).lt
      omega
  · have k0 := hstr 0 (by decide)
    have k1 := hstr 1 (by decide)
    have k2 := hstr 2 (by decide)
    have k3 := hstr 3 (by decide)
    have k4 := hstr 4 (by decide)
    have k5' := hstr 5 (by decide)
    rw [c0, ← a0] at k0
    rw [c1, ← a1] at k1
    rw [c2, ← a2] at k2
    rw [c3, ← a3] at k3
    rw [c4, ← a4] at k4
    rw [c5, ← a5] at k5'
    refine ⟨k0, k1, k2, k3, k4, k5', fun _ => none, ?_, rfl⟩
    show (st_M s (D.2 0) LS LB k5 (fun i => cy (100 + i))).1 (cy (100 + 31)) = _
    rw [show cy (100 + 31) = k5 from hk5, m5]
    rfl
end LWS
