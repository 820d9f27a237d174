/-! Looking into a folder, to the end. -/
section
variable {A : Nat → Nat} {T : sT} {q aq rd w pb ans : Nat} {Q : sQ}
theorem cw_look (hW : WT T) (hq : q < 6) (hr1 : 1 ≤ rd) (hr : rd < 2 ^ 30) : ∀ n d k (tr : List Nat) (g : pg_G) (sn : Nat → Nat → Nat) (fs : Nat → Nat → Int32) (an : List (List Nat)) (lk : Nat), k ≤ 60 → kd T k = 2 → d = tr.length → d ≤ dp T k → d ≤ 6 → 6 < d + n → (∀ x ∈ tr, (nm T x).length ≤ 8) → wS g A T sn q aq Q rd fs w pb ans tr an lk → (∀ x, sn x q ≤ rd) → an.length + (visG T (wgo T) (7 - d) (ch T k)).length ≤ 60 → pg_T (gX9_lookInto n w (some aq) (some (A k)) (nI d) g.1) (2 * (visG T (wgo T) (7 - d) (ch T k)).length) (140 * (visG T (wgo T) (7 - d) (ch T k)).length) (wW q) g (fun _ g' => ∃ fs', wS g' A T (mkL q rd (k :: wkL T Q (7 - d) (ch T k) (tr.map (nm T))) sn) q aq Q rd fs' w pb ans tr (an ++ wkA T Q (7 - d) (ch T k) (tr.map (nm T))) (lk + kct q rd (k :: wkL T Q (7 - d) (ch T k) (tr.map (nm T))) sn) ∧ ∀ j k, k ≤ d → fs' j k = fs j k) := by
  intro n
  induction n with
  | zero => intro d k tr g sn fs an lk _ _ _ _ hd6 hn; omega
  | succ n ih =>
    intro d k tr g sn fs an lk hk hk2 hd hdp hd6 hn htr hS hsn h60
    have hkl : 0 < kd T k := by omega
    have hlen := hW.len hk hkl
    obtain ⟨hg, hC, hwo, hwt, hT, hQ, hQf, hB, hA⟩ := hS
    obtain ⟨pq, lq, xq, oq, -⟩ := id hQ
    rw [gX9_lookInto, fX9_lookInto, pg_o1, pg_cv oq]
    refine pg_T.b (cQ_look hg hT hQ hk hkl hq hr1 hr (hsn k)) (fun t h => by unfold wW; omega) (Nat.zero_le _) (Nat.zero_le _) (fun r g1 x1 hp1 => ?_)
    obtain ⟨hr0, hT1⟩ := hp1
    have hg1 := x1.wf
    have hwo1 := x1.at hg hwo (by rw [hwt]; omega)
    have hwt1 : g1.2 w = 0 := by rw [x1.tag hg hwo, hwt]
    have hC1 := hC.ext hg x1 (by omega)
    have hQ1 := hQ.ext hg x1 (by omega) (by omega) (by omega) (fun i hi => by omega)
    have hB1 := hB.ext hg x1 (by omega)
    have hA1 := hA.ext hg x1 (by omega) (by omega) (by omega)
    have fin : ∀ (g2 : pg_G) (C N : Nat), 2 * (visG T (wgo T) (7 - d) (ch T k)).length ≤ C → 140 * (visG T (wgo T) (7 - d) (ch T k)).length ≤ N → wS g2 A T (mks q rd sn k) q aq Q rd fs w pb ans tr an (lk + (if sn k q = rd - 1 then 0 else 1)) → pg_T (fX9_lookInto_21 (gX9_lookInto n) w (some aq) (some (A k)) (nI d) g2.1) C N (wW q) g2 (fun _ g' => ∃ fs', wS g' A T (mkL q rd (k :: wkL T Q (7 - d) (ch T k) (tr.map (nm T))) sn) q aq Q rd fs' w pb ans tr (an ++ wkA T Q (7 - d) (ch T k) (tr.map (nm T))) (lk + kct q rd (k :: wkL T Q (7 - d) (ch T k) (tr.map (nm T))) sn) ∧ ∀ j k, k ≤ d → fs' j k = fs j k) := by
      intro g2 C N hC2 hN2 h2
      rw [fX9_lookInto_21, ← nI_0]
      have := cw_loop (A := A) (q := q) (aq := aq) (w := w) (pb := pb) (ans := ans) (Q := Q) (rd := rd) (n0 := n) (k := k) (d := d) (tr := tr) hW hq hr1 hr hk hk2 hd hdp htr (fun c g' sn' fs' an' lk' hc hc2 hcp hS' hsn' h60' => ?_) vg_fuel 0 g2 (mks q rd sn k) fs an _ h2 (fun x => ?_) (Nat.zero_le _) (by rw [ps_fuel]; omega) (by rw [List.drop_zero]; exact h60)
      · rw [List.drop_zero] at this
        refine this.mono hC2 hN2 (fun _ h => h) (fun r g' _ hp => ?_)
        obtain ⟨fs', e1, e2⟩ := hp
        refine ⟨fs', ?_, e2⟩
        rw [Nat.add_assoc] at e1
        exact e1
      · have hw5 := hW.2.2.2.2.1 c hc (by omega)
        rw [hcp] at hw5
        have := ih (d + 1) c (tr ++ [c]) g' sn' fs' an' lk' (by omega) hc2 (by rw [List.length_append, hd]; rfl) (by omega) (by omega) (by omega) (fun x hx => (List.mem_append.mp hx).elim (htr x) (fun h => by rw [List.mem_singleton.mp h]; have := hw5.2.2.1; simp only [pt_name, Bool.and_eq_true, decide_eq_true_eq] at this; omega)) hS' hsn' (by rw [show 7 - (d + 1) = 6 - d by omega]; exact h60')
        rw [show 7 - (d + 1) = 6 - d by omega] at this
        exact this
      · unfold mks
        by_cases hxk : x = k
        · rw [hxk, va_up_self, va_up_self]; exact Nat.le_refl _
        · rw [va_up_ne _ _ hxk]; exact hsn x
    by_cases hc : sn k q = rd - 1
    · rw [hr0, if_pos hc, if_pos rfl]
      refine fin g1 _ _ (by omega) (by omega) ?_
      rw [if_pos hc, Nat.add_zero]
      exact ⟨hg1, hC1, hwo1, hwt1, hT1, hQ1, hQf, hB1, hA1⟩
    · rw [hr0, if_neg hc, if_neg (by decide), pg_gR hwo1 (k := 0) rfl, pg_o1, pg_o1]
      refine cA_count hg1 hA1 (by unfold wW; omega) (fun g2 x2 hA2 => ?_)
      refine fin g2 _ _ (by omega) (by omega) ?_
      rw [if_neg hc]
      exact ⟨x2.wf, hC1.ext hg1 x2 (by decide), x2.at hg1 hwo1 (by rw [hwt1]; decide), by rw [x2.tag hg1 hwo1, hwt1], hT1.ext hg1 x2 (by decide) (fun t h e => by omega), hQ1.ext hg1 x2 (by decide) (by omega) (by omega) (fun i hi => by omega), hQf, hB1.ext hg1 x2 (by decide), hA2⟩
end
