/-! Nodes of the class. -/
def cn_O (g : pg_G) (a s c e : Nat) (pr : Option Nat) (isF pkg : Bool) : Prop := g.1.1 a = some (.inr (4, [.ref s, va_rf pr, .int (bI isF), .ref c, .ref e, .int (bI pkg)])) ∧ g.2 a = 100 + 3 * a
def cn_A (g : pg_G) (a e : Nat) (sn : Nat → Nat) : Prop := ∃ f, g.1.1 e = some (.inl (2, 6, .inl f)) ∧ g.2 e = 102 + 3 * a ∧ ∀ q, q < 6 → f q = nI (sn q)
/-- a node: its object, its list, its row of rounds belong to three owners of its own -/
def cn_N (g : pg_G) (a : Nat) (w : List Nat) (pr : Option Nat) (isF : Bool) (cs : List Nat) (pkg : Bool) (sn : Nat → Nat) : Prop := ∃ s c e, cn_O g a s c e pr isF pkg ∧ ps_S g s w ∧ pl_L g (101 + 3 * a) c 4 cs ∧ cn_A g a e sn
theorem cn_O.ext {W : Nat → Prop} {g g' : pg_G} {a s c e : Nat} {pr : Option Nat} {isF pkg : Bool} (h : cn_O g a s c e pr isF pkg) (hg : pg_Wf g) (he : pg_Ext W g g') (hw : ¬ W (100 + 3 * a)) : cn_O g' a s c e pr isF pkg := ⟨he.at hg h.1 (by rw [h.2]; exact hw), by rw [he.tag hg h.1, h.2]⟩
theorem cn_A.ext {W : Nat → Prop} {g g' : pg_G} {a e : Nat} {sn : Nat → Nat} (h : cn_A g a e sn) (hg : pg_Wf g) (he : pg_Ext W g g') (hw : ¬ W (102 + 3 * a)) : cn_A g' a e sn := by
  obtain ⟨f, h1, h2, h3⟩ := h
  exact ⟨f, he.at hg h1 (by rw [h2]; exact hw), by rw [he.tag hg h1, h2], h3⟩
theorem cn_N.ext {W : Nat → Prop} {g g' : pg_G} {a : Nat} {w : List Nat} {pr : Option Nat} {isF : Bool} {cs : List Nat} {pkg : Bool} {sn : Nat → Nat} (h : cn_N g a w pr isF cs pkg sn) (hg : pg_Wf g) (he : pg_Ext W g g') (h0 : ¬ W 0) (hw : ∀ i, i < 3 → ¬ W (100 + i + 3 * a)) : cn_N g' a w pr isF cs pkg sn := by
  obtain ⟨s, c, e, h1, h2, h3, h4⟩ := h
  exact ⟨s, c, e, h1.ext hg he (hw 0 (by decide)), h2.ext hg he h0, h3.ext hg he (by decide) (hw 1 (by decide)), h4.ext hg he (hw 2 (by decide))⟩
/-- an object of a node, with its name -/
def cn_nm (g : pg_G) (x : Nat) (w : List Nat) : Prop := ∃ s r, g.1.1 x = some (.inr (4, .ref s :: r)) ∧ ps_S g s w
section
variable {g : pg_G} {a b c : Nat} {w : List Nat} {pr : Option Nat} {isF pkg : Bool} {cs : List Nat} {sn : Nat → Nat} {Wn : Nat → List Nat}
theorem cn_N.nm (h : cn_N g a w pr isF cs pkg sn) : cn_nm g a w := by obtain ⟨s, c, e, h1, h2, -⟩ := h; exact ⟨s, _, h1.1, h2⟩
theorem cn_N.is (h : cn_N g a w pr isF cs pkg sn) : pg_is g a 4 := by obtain ⟨s, c, e, h1, h2, -⟩ := h; exact ⟨_, h1.1⟩
theorem pg_ckO {β : Type} {μ : vg_M} {a ci : Nat} {fs : List Value} {f : vg_R β} (h : μ.1 a = some (.inr (ci, fs))) : vg_ck μ (some a) ci f = f := by simp only [vg_ck, h, if_true]
theorem cn_childL {tl : Nat} {v1 v2 v4 v5 : Value} {v0 : Value} (ha : g.1.1 a = some (.inr (4, [v0, v1, v2, .ref c, v4, v5]))) (hl : pl_L g tl c 4 cs) (hW : ∀ x ∈ cs, cn_nm g x (Wn x)) (hs : ps_S g b w) : ∀ n i, i ≤ cs.length → cs.length < i + n → fX1_child_2 n a (some b) (nI i) g.1 = some ((cs.drop i).find? (fun x => decide (Wn x = w)), g.1, 0, 0) := by
  obtain ⟨fl, hlo⟩ := pl_is hl
  have hlen : cs.length ≤ 100 := by obtain ⟨e, md, q1, q2, q3, q4, -⟩ := hl; exact q4
  intro n
  induction n with
  | zero => intro i hi hn; omega
  | succ n ih =>
    intro i hi hn
    rw [fX1_child_2]
    simp only [pg_gR ha (k := 3) rfl, pg_o1, pg_cv hlo, pl_size hl, pg_b0]
    by_cases hie : i = cs.length
    · rw [if_pos (nI_le (by omega) (by omega)), hie, List.drop_length]; rfl
    · have hlt : i < cs.length := by omega
      obtain ⟨s, r, hx, hxs⟩ := hW (cs.getD i 0) (by rw [ls_get hlt]; exact List.getElem_mem hlt)
      obtain ⟨fs, hso⟩ := ps_o hxs
      rw [if_neg (nI_ge hlt (by omega)), pl_get hl hlt, pg_b0, pg_ckO hx, pg_o1, pg_gR hx (k := 0) rfl, pg_o1, pg_o1, pg_cv hso, ps_equals hxs hs, pg_b0, List.drop_eq_getElem_cons hlt, List.find?_cons, ← ls_get hlt]
      by_cases hw : Wn (cs.getD i 0) = w
      · rw [if_pos hw, if_neg (by decide), decide_eq_true hw, pg_gR ha (k := 3) rfl, pg_o1, pg_o1, pg_cv hlo, pl_get hl hlt, pg_b0, pg_ckO hx]; rfl
      · rw [if_neg hw, if_pos rfl, decide_eq_false hw, nI_1, ih (i + 1) (by omega) (by omega)]
theorem cn_child (h : cn_N g a w pr isF cs pkg sn) (hW : ∀ x ∈ cs, cn_nm g x (Wn x)) {u : List Nat} (hs : ps_S g b u) : fX1_child a (some b) g.1 = some (cs.find? (fun x => decide (Wn x = u)), g.1, 0, 0) := by
  obtain ⟨s, c, e, h1, h2, h3, h4⟩ := h
  have hlen : cs.length ≤ 100 := by obtain ⟨e, md, q1, q2, q3, q4, -⟩ := h3; exact q4
  have := cn_childL h1.1 h3 hW hs vg_fuel 0 (Nat.zero_le _) (by rw [ps_fuel]; omega)
  rw [nI_0, List.drop_zero] at this
  exact this
theorem nlt_cons {x y : Nat} {u v : List Nat} : nlt (x :: u) (y :: v) = (decide (x < y) || (decide (x = y) && nlt u v)) := rfl
theorem nlt_nil {u : List Nat} : nlt u [] = false := by cases u <;> rfl
theorem nlt_nil' {v : List Nat} (h : v ≠ []) : nlt [] v = true := by cases v with | nil => exact absurd rfl h | cons => rfl
theorem cn_befL {u v : List Nat} (hu : ps_S g a u) (hv : ps_S g b v) : ∀ n i, i ≤ u.length → i ≤ v.length → u.length < i + n → fX1_comesBefore_14 n (some a) (some b) (nI (min u.length v.length)) (nI i) g.1 = some (bI (nlt (u.drop i) (v.drop i)), g.1, 0, 0) := by
  obtain ⟨fu, huo⟩ := ps_o hu
  obtain ⟨fv, hvo⟩ := ps_o hv
  have hlu := ps_len hu
  have hlv := ps_len hv
  intro n
  induction n with
  | zero => intro i h1 h2 hn; omega
  | succ n ih =>
    intro i h1 h2 hn
    rw [fX1_comesBefore_14]
    simp only [pg_o1, pg_cv huo, pg_cv hvo, ps_length hu, ps_length hv, pg_b0, fX1_comesBefore_73, fX1_comesBefore_50, pg_z0, pg_z1, vu_ret]
    by_cases hie : min u.length v.length ≤ i
    · rw [if_pos (nI_le hie (by omega))]
      by_cases hc : v.length ≤ u.length
      · rw [if_pos (nI_le hc (by omega)), show i = v.length by omega, List.drop_length, nlt_nil]; rfl
      · rw [if_neg (nI_ge (by omega) (by omega)), show i = u.length by omega, List.drop_length, nlt_nil' (fun e => by have := congrArg List.length e; rw [List.length_drop, List.length_nil] at this; omega)]; rfl
    · have hiu : i < u.length := by omega
      have hiv : i < v.length := by omega
      have c1 := ps_get (ps_lt hu) i hiu
      have c2 := ps_get (ps_lt hv) i hiv
      rw [if_neg (nI_ge (by omega) (by omega)), ps_charAt hu hiu, pg_b0, pg_cv hvo, ps_charAt hv hiv, pg_b0, List.drop_eq_getElem_cons hiu, List.drop_eq_getElem_cons hiv, nlt_cons, ← ls_get hiu, ← ls_get hiv]
      by_cases he : u.getD i 0 = v.getD i 0
      · rw [if_pos (by rw [he]), nI_1, ih (i + 1) (by omega) (by omega) (by omega), decide_eq_false (by omega), decide_eq_true he, Bool.false_or, Bool.true_and]
      · rw [if_neg (fun h => he ((nI_eq (by omega) (by omega)).mp h)), decide_eq_false he, Bool.false_and, Bool.or_false, pg_cv huo, ps_charAt hu hiu, pg_b0, pg_cv hvo, ps_charAt hv hiv, pg_b0]
        by_cases hlt : u.getD i 0 < v.getD i 0
        · rw [if_neg (nI_ge hlt (by omega)), decide_eq_true hlt]; rfl
        · rw [if_pos (nI_le (by omega) (by omega)), decide_eq_false hlt]; rfl
theorem cn_bef {u v : List Nat} (hu : ps_S g a u) (hv : ps_S g b v) : fX1_comesBefore (some a) (some b) g.1 = some (bI (nlt u v), g.1, 0, 0) := by
  obtain ⟨fu, huo⟩ := ps_o hu
  obtain ⟨fv, hvo⟩ := ps_o hv
  have hlu := ps_len hu
  have hlv := ps_len hv
  simp only [fX1_comesBefore, pg_o1, pg_cv huo, pg_cv hvo, ps_length hu, ps_length hv, pg_b0]
  have e : (if nI v.length < nI u.length then nI v.length else nI u.length) = nI (min u.length v.length) := by
    by_cases h : v.length < u.length
    · rw [if_pos (nI_lt h (by omega)), show min u.length v.length = v.length by omega]
    · rw [if_neg (nI_nlt (by omega) (by omega)), show min u.length v.length = u.length by omega]
  have := cn_befL hu hv vg_fuel 0 (Nat.zero_le _) (Nat.zero_le _) (by rw [ps_fuel]; omega)
  rw [nI_0, List.drop_zero, List.drop_zero] at this
  rw [e, this]
/-- a row of zeros -/
theorem cn_fillL {e t : Nat} (ht : t ≠ 0) : ∀ n i (g : pg_G) (f : Nat → Int32), pg_Wf g → g.1.1 e = some (.inl (2, 6, .inl f)) → g.2 e = t → i ≤ 6 → 6 < i + n → (∀ j, j < i → f j = 0) → pg_T (fJ7_fill_53178_5 n (some e) 0 (nI i) (nI 6) g.1) 0 0 (fun t' => t' = t) g (fun _ g' => ∃ f', g'.1.1 e = some (.inl (2, 6, .inl f')) ∧ g'.2 e = t ∧ ∀ j, j < 6 → f' j = 0) := by
  intro n
  induction n with
  | zero => intro i g f hg h1 h2 hi hn; omega
  | succ n ih =>
    intro i g f hg h1 h2 hi hn hz
    rw [fJ7_fill_53178_5]
    by_cases hie : i = 6
    · rw [if_pos (nI_le (by omega) (by omega))]
      exact pg_T.ret hg ⟨f, h1, h2, fun j hj => hz j (by omega)⟩
    · rw [if_neg (nI_ge (by omega) (by decide)), pg_o1]
      refine pg_T.sI hg h1 (by omega) (by decide) (by rw [h2]; exact ht) h2 ?_
      rw [nI_1]
      refine ih (i + 1) _ _ (pg_put_wf hg h1) (pg_put_self _ _ _) h2 (by omega) (by omega) (fun j hj => ?_)
      show upd f i 0 j = 0
      by_cases hji : j = i
      · rw [hji, pk_us]
      · rw [pk_un hji]; exact hz j (by omega)
theorem cn_touch (hg : pg_Wf g) (h : cn_N g a w pr isF cs pkg sn) : pg_T (fX1_touch a g.1) 0 0 (fun t' => t' = 102 + 3 * a) g (fun _ g' => cn_N g' a w pr isF cs pkg (fun _ => 0)) := by
  obtain ⟨s, c, e, h1, h2, h3, f, h4, h5, h6⟩ := h
  simp only [fX1_touch, pg_gR h1.1 (k := 4) rfl, pg_o1, fJ7_fill_53178, pg_al h4 (show 2 < 6 by decide)]
  have key := cn_fillL (e := e) (t := 102 + 3 * a) (by omega) vg_fuel 0 g f hg h4 h5 (by decide) (by rw [ps_fuel]; omega) (fun j hj => absurd hj (Nat.not_lt_zero _))
  rw [nI_0] at key
  refine pg_T.b key (fun _ h => h) (by decide) (by decide) (fun r g1 hx hp => pg_T.ret hx.wf ?_)
  obtain ⟨f', p1, p2, p3⟩ := hp
  exact ⟨s, c, e, h1.ext hg hx (by omega), h2.ext hg hx (by omega), h3.ext hg hx (by decide) (by omega), f', p1, p2, fun q hq => p3 q hq⟩
theorem cn_init {s : Nat} (hg : pg_Wf g) (h1 : g.1.1 a = some (.inr (4, [.null, .null, .int 0, .null, .null, .int 0]))) (h2 : g.2 a = 100 + 3 * a) (hs : ps_S g s w) : pg_T (fX1_init a (some s) pr (bI isF) g.1) 2 9 (fun t' => t' = 100 + 3 * a ∨ t' = 101 + 3 * a) g (fun _ g' => cn_N g' a w pr isF [] false (fun _ => 0)) := by
  have hal := hg.lt h1
  unfold fX1_init
  refine pg_T.nO (t := 101 + 3 * a) hg (by decide) (by decide) ?_
  have x1 := pg_new_ext (W := fun _ => False) (t := 101 + 3 * a) (e := .inr (2, [.int 0, .null, .int 0])) hg
  have a1 := x1.at hg h1 (fun h => h)
  have t1 : (pg_new g (101 + 3 * a) (.inr (2, [.int 0, .null, .int 0]))).2 a = 100 + 3 * a := by rw [x1.tag hg h1]; exact h2
  have s1 := hs.ext hg x1 (fun h => h)
  have q1 := pg_new_self g (101 + 3 * a) (.inr (2, [.int 0, .null, .int 0]))
  have u1 := pg_new_tag g (101 + 3 * a) (.inr (2, [.int 0, .null, .int 0]))
  have w1 := x1.wf
  generalize pg_new g (101 + 3 * a) (.inr (2, [.int 0, .null, .int 0])) = g1 at *
  refine pg_T.b (pl_init (ci := 4) w1 q1 u1 (by omega)) (fun _ h => Or.inr h) (by decide) (by decide) (fun r g2 x2 l2 => ?_)
  have a2 := x2.at w1 a1 (by rw [t1]; omega)
  have t2 : g2.2 a = 100 + 3 * a := by rw [x2.tag w1 a1]; exact t1
  have s2 := s1.ext w1 x2 (by omega)
  have w2 := x2.wf
  refine pg_T.p w2 a2 (by simp) (by rw [t2]; omega) (Or.inl t2) ?_
  have x3 := pg_put_ext (W := fun t' => t' = 100 + 3 * a) (e := .inr (4, [.null, .null, .int 0, .null, .null, .int 0].set 3 (.ref g.1.2.1))) w2 a2 t2 (by simp [pg_kd])
  have a3 := pg_put_self g2 a (.inr (4, [.null, .null, .int 0, .null, .null, .int 0].set 3 (.ref g.1.2.1)))
  have t3 : (pg_put g2 a (.inr (4, [.null, .null, .int 0, .null, .null, .int 0].set 3 (.ref g.1.2.1)))).2 a = 100 + 3 * a := t2
  have s3 := s2.ext w2 x3 (by omega)
  have l3 := l2.ext w2 x3 (by decide) (by omega)
  have w3 := x3.wf
  generalize pg_put g2 a (.inr (4, [.null, .null, .int 0, .null, .null, .int 0].set 3 (.ref g.1.2.1))) = g3 at *
  rw [show (6 : Int32) = nI 6 from rfl, pg_lenN (by decide), pg_o1]
  refine pg_T.nA (t := 102 + 3 * a) w3 (by decide) (by decide) ?_
  have x4 := pg_new_ext (W := fun _ => False) (t := 102 + 3 * a) (e := .inl (2, 6, .inl (fun _ => 0))) w3
  have a4 := x4.at w3 a3 (fun h => h)
  have t4 : (pg_new g3 (102 + 3 * a) (.inl (2, 6, .inl (fun _ => 0)))).2 a = 100 + 3 * a := by rw [x4.tag w3 a3]; exact t3
  have s4 := s3.ext w3 x4 (fun h => h)
  have l4 := l3.ext w3 x4 (by decide) (fun h => h)
  have q4 : cn_A (pg_new g3 (102 + 3 * a) (.inl (2, 6, .inl (fun _ => 0)))) a g3.1.2.1 (fun _ => 0) := ⟨_, pg_new_self g3 (102 + 3 * a) (.inl (2, 6, .inl (fun _ => 0))), pg_new_tag g3 (102 + 3 * a) _, fun _ _ => rfl⟩
  have w4 := x4.wf
  generalize pg_new g3 (102 + 3 * a) (.inl (2, 6, .inl (fun _ => 0))) = g4 at *
  have put : ∀ (gz : pg_G) (fs : List Value) (k : Nat) (v : Value) (β : Type) (f : vg_M → vg_R β) (C N : Nat) (Q : β → pg_G → Prop), pg_Wf gz → gz.1.1 a = some (.inr (4, fs)) → gz.2 a = 100 + 3 * a → ps_S gz s w → pl_L gz (101 + 3 * a) g.1.2.1 4 [] → cn_A gz a g3.1.2.1 (fun _ => 0) → k < fs.length → (∀ gy, pg_Wf gy → gy.1.1 a = some (.inr (4, fs.set k v)) → gy.2 a = 100 + 3 * a → ps_S gy s w → pl_L gy (101 + 3 * a) g.1.2.1 4 [] → cn_A gy a g3.1.2.1 (fun _ => 0) → pg_T (f gy.1) C N (fun t' => t' = 100 + 3 * a ∨ t' = 101 + 3 * a) gy Q) → pg_T (vg_o (vg_p gz.1 a 4 k v) f) C N (fun t' => t' = 100 + 3 * a ∨ t' = 101 + 3 * a) gz Q := by
    intro gz fs k v β f C N Q hz z1 z2 z3 z4 z5 hk kk
    have xx := pg_put_ext (W := fun t' => t' = 100 + 3 * a) (e := .inr (4, fs.set k v)) hz z1 z2 (by simp [pg_kd])
    exact pg_T.p hz z1 hk (by rw [z2]; omega) (Or.inl z2) (kk _ xx.wf (pg_put_self _ _ _) z2 (z3.ext hz xx (by omega)) (z4.ext hz xx (by decide) (by omega)) (z5.ext hz xx (by omega)))
  refine put g4 _ _ _ _ _ _ _ _ w4 a4 t4 s4 l4 q4 (by simp) (fun g5 w5 a5 t5 s5 l5 q5 => ?_)
  refine put g5 _ _ _ _ _ _ _ _ w5 a5 t5 s5 l5 q5 (by simp) (fun g6 w6 a6 t6 s6 l6 q6 => ?_)
  refine put g6 _ _ _ _ _ _ _ _ w6 a6 t6 s6 l6 q6 (by simp) (fun g7 w7 a7 t7 s7 l7 q7 => ?_)
  rw [bI_z, pg_o1]
  refine put g7 _ _ _ _ _ _ _ _ w7 a7 t7 s7 l7 q7 (by simp) (fun g8 w8 a8 t8 s8 l8 q8 => ?_)
  exact pg_T.ret w8 ⟨s, _, _, ⟨a8, t8⟩, s8, l8, q8⟩
theorem cn_insL (Q : Nat → pg_G → Prop) {s0 e0 : Nat} {w0 wb : List Nat} (hg : pg_Wf g) (hC : pg_C g) (h1 : cn_O g a s0 c e0 pr isF pkg) (h2 : ps_S g s0 w0) (h3 : pl_L g (101 + 3 * a) c 4 cs) (h4 : cn_A g a e0 sn) (hW : ∀ x ∈ cs, cn_nm g x (Wn x)) (hb : cn_nm g b wb) (hlen : cs.length < 100) : ∀ n i, i ≤ cs.length → cs.length < i + n → (∀ x ∈ cs.take i, nlt (Wn x) wb = true) → pg_T (fX1_insert_2 n a (some b) (nI i) g.1) 1 210 (fun t' => t' = 101 + 3 * a ∨ t' = 102 + 3 * a) g (fun _ g' => cn_N g' a w0 pr isF (cs.takeWhile (fun x => nlt (Wn x) wb) ++ b :: cs.dropWhile (fun x => nlt (Wn x) wb)) pkg (fun _ => 0)) := by
  obtain ⟨fl, hlo⟩ := pl_is h3
  obtain ⟨sb, rb, hbo, hbs⟩ := hb
  have fin : ∀ i, i ≤ cs.length → (∀ x ∈ cs.take i, nlt (Wn x) wb = true) → (∀ y, (cs.drop i).head? = some y → nlt (Wn y) wb = false) → pg_T (fX1_insert_43 a (some b) (nI i) g.1) 1 210 (fun t' => t' = 101 + 3 * a ∨ t' = 102 + 3 * a) g (fun _ g' => cn_N g' a w0 pr isF (cs.takeWhile (fun x => nlt (Wn x) wb) ++ b :: cs.dropWhile (fun x => nlt (Wn x) wb)) pkg (fun _ => 0)) := by
    intro i hi ht hd
    have e1 : cs.takeWhile (fun x => nlt (Wn x) wb) = cs.take i ∧ cs.dropWhile (fun x => nlt (Wn x) wb) = cs.drop i := by
      have hsplit : cs = cs.take i ++ cs.drop i := (List.take_append_drop i cs).symm
      have ht2 : (cs.drop i).takeWhile (fun x => nlt (Wn x) wb) = [] ∧ (cs.drop i).dropWhile (fun x => nlt (Wn x) wb) = cs.drop i := by
        cases hdr : cs.drop i with
        | nil => exact ⟨rfl, rfl⟩
        | cons y l =>
          have := hd y (by rw [hdr]; rfl)
          rw [List.takeWhile_cons, List.dropWhile_cons, this]; exact ⟨rfl, rfl⟩
      constructor
      · conv => lhs; rw [hsplit]
        rw [List.takeWhile_append_of_pos ht, ht2.1, List.append_nil]
      · conv => lhs; rw [hsplit]
        rw [List.dropWhile_append_of_pos ht, ht2.2]
    rw [e1.1, e1.2]
    simp only [fX1_insert_43, pg_gR h1.1 (k := 3) rfl, pg_o1, pg_cv hlo]
    refine pg_T.b (pl_addAt (x := b) (i := i) hg hC (Or.inl rfl) h3 (by omega) ⟨_, hbo⟩ hlen hi) (fun _ h => Or.inl h) (by decide) (by omega) (fun r g1 hx hp => ?_)
    have n1 : cn_N g1 a w0 pr isF (cs.take i ++ b :: cs.drop i) pkg sn := ⟨s0, c, e0, h1.ext hg hx (by omega), h2.ext hg hx (by omega), hp, h4.ext hg hx (by omega)⟩
    obtain ⟨_, _, _, o1, -⟩ := id n1
    rw [pg_cv o1.1]
    refine pg_T.b (cn_touch hx.wf n1) (fun _ h => Or.inr h) (by omega) (by omega) (fun r g2 hx2 hp2 => pg_T.ret hx2.wf hp2)
  intro n
  induction n with
  | zero => intro i hi hn; omega
  | succ n ih =>
    intro i hi hn ht
    rw [fX1_insert_2]
    simp only [pg_gR h1.1 (k := 3) rfl, pg_o1, pg_cv hlo, pl_size h3, pg_b0]
    by_cases hie : i = cs.length
    · rw [if_pos (nI_le (by omega) (by omega))]
      exact fin i hi ht (fun y hy => by rw [hie, List.drop_length] at hy; cases hy)
    · have hlt : i < cs.length := by omega
      obtain ⟨s, r, hx, hxs⟩ := hW (cs.getD i 0) (by rw [ls_get hlt]; exact List.getElem_mem hlt)
      rw [if_neg (nI_ge hlt (by omega)), pl_get h3 hlt, pg_b0, pg_ckO hx, pg_o1, pg_gR hx (k := 0) rfl, pg_o1, pg_gR hbo (k := 0) rfl, pg_o1, cn_bef hxs hbs, pg_b0]
      cases hn : nlt (Wn (cs.getD i 0)) wb with
      | false =>
        rw [bI_f, if_pos rfl]
        refine fin i hi ht (fun y hy => ?_)
        rw [List.drop_eq_getElem_cons hlt, List.head?_cons] at hy
        cases hy
        rw [← ls_get hlt]; exact hn
      | true =>
        rw [bI_t, if_neg (by decide), nI_1]
        refine ih (i + 1) (by omega) (by omega) (fun x hx => ?_)
        rw [List.take_succ, List.getElem?_eq_getElem hlt] at hx
        rcases List.mem_append.mp hx with h | h
        · exact ht x h
        · have : x = cs[i] := by simpa using h
          rw [this, ← ls_get hlt]; exact hn
theorem cn_insert {wb : List Nat} (hg : pg_Wf g) (hC : pg_C g) (h : cn_N g a w pr isF cs pkg sn) (hW : ∀ x ∈ cs, cn_nm g x (Wn x)) (hb : cn_nm g b wb) (hlen : cs.length < 100) : pg_T (fX1_insert a (some b) g.1) 1 210 (fun t' => t' = 101 + 3 * a ∨ t' = 102 + 3 * a) g (fun _ g' => cn_N g' a w pr isF (cs.takeWhile (fun x => nlt (Wn x) wb) ++ b :: cs.dropWhile (fun x => nlt (Wn x) wb)) pkg (fun _ => 0)) := by
  obtain ⟨s, c, e, h1, h2, h3, h4⟩ := h
  have := cn_insL (fun _ _ => True) hg hC h1 h2 h3 h4 hW hb hlen vg_fuel 0 (Nat.zero_le _) (by rw [ps_fuel]; omega) (fun x hx => by rw [List.take_zero] at hx; cases hx)
  rw [nI_0] at this
  exact this
theorem cn_dropL {s0 e0 : Nat} {w0 : List Nat} (hg : pg_Wf g) (h1 : cn_O g a s0 c e0 pr isF pkg) (h2 : ps_S g s0 w0) (h3 : pl_L g (101 + 3 * a) c 4 cs) (h4 : cn_A g a e0 sn) : ∀ n i, i ≤ cs.length → cs.length < i + n → b ∈ cs.drop i → b ∉ cs.take i → pg_T (fX1_drop_2 n a (some b) (nI i) g.1) 0 0 (fun t' => t' = 101 + 3 * a ∨ t' = 102 + 3 * a) g (fun _ g' => cn_N g' a w0 pr isF (cs.erase b) pkg (fun _ => 0)) := by
  obtain ⟨fl, hlo⟩ := pl_is h3
  have hlen : cs.length ≤ 100 := by obtain ⟨e, md, q1, q2, q3, q4, -⟩ := h3; exact q4
  intro n
  induction n with
  | zero => intro i hi hn; omega
  | succ n ih =>
    intro i hi hn hm hnm
    rw [fX1_drop_2]
    simp only [pg_gR h1.1 (k := 3) rfl, pg_o1, pg_cv hlo, pl_size h3, pg_b0]
    by_cases hie : i = cs.length
    · rw [hie, List.drop_length] at hm; cases hm
    · have hlt : i < cs.length := by omega
      rw [if_neg (nI_ge hlt (by omega)), pl_get h3 hlt, pg_b0]
      by_cases hx : cs.getD i 0 = b
      · rw [if_pos (by rw [hx])]
        have e1 : cs.erase b = cs.eraseIdx i := by
          have hsplit : cs = cs.take i ++ b :: cs.drop (i + 1) := by
            conv => lhs; rw [← List.take_append_drop i cs, List.drop_eq_getElem_cons hlt, ← ls_get hlt, hx]
          rw [hsplit, List.erase_append_right _ hnm, List.erase_cons_head]
          have hl : (cs.take i).length = i := by rw [List.length_take]; omega
          rw [List.eraseIdx_append_of_length_le (by omega), hl, Nat.sub_self, List.eraseIdx_zero, List.tail_cons]
        rw [e1, pg_gR h1.1 (k := 3) rfl, pg_o1, pg_o1, pg_cv hlo]
        refine pg_T.b (pl_remove hg (Or.inl rfl) h3 (by omega) hlt) (fun _ h => Or.inl h) (by omega) (by omega) (fun r g1 hx hp => ?_)
        have n1 : cn_N g1 a w0 pr isF (cs.eraseIdx i) pkg sn := ⟨s0, c, e0, h1.ext hg hx (by omega), h2.ext hg hx (by omega), hp, h4.ext hg hx (by omega)⟩
        obtain ⟨_, _, _, o1, -⟩ := id n1
        rw [pg_cv o1.1]
        exact pg_T.b (cn_touch hx.wf n1) (fun _ h => Or.inr h) (by omega) (by omega) (fun r g2 hx2 hp2 => pg_T.ret hx2.wf hp2)
      · rw [if_neg (fun h => hx (Option.some.inj h)), nI_1]
        refine ih (i + 1) (by omega) (by omega) ?_ ?_
        · rw [List.drop_eq_getElem_cons hlt, ← ls_get hlt] at hm
          rcases List.mem_cons.mp hm with h | h
          · exact absurd h.symm hx
          · exact h
        · rw [List.take_succ, List.getElem?_eq_getElem hlt]
          intro h
          rcases List.mem_append.mp h with h | h
          · exact hnm h
          · have : b = cs[i] := by simpa using h
            rw [← ls_get hlt] at this
            exact hx this.symm
theorem cn_drop (hg : pg_Wf g) (h : cn_N g a w pr isF cs pkg sn) (hb : b ∈ cs) : pg_T (fX1_drop a (some b) g.1) 0 0 (fun t' => t' = 101 + 3 * a ∨ t' = 102 + 3 * a) g (fun _ g' => cn_N g' a w pr isF (cs.erase b) pkg (fun _ => 0)) := by
  obtain ⟨s, c, e, h1, h2, h3, h4⟩ := h
  have hlen : cs.length ≤ 100 := by obtain ⟨e, md, q1, q2, q3, q4, -⟩ := h3; exact q4
  have := cn_dropL hg h1 h2 h3 h4 vg_fuel 0 (Nat.zero_le _) (by rw [ps_fuel]; omega) (by rw [List.drop_zero]; exact hb) (by rw [List.take_zero]; exact List.not_mem_nil)
  rw [nI_0] at this
  exact this
end
