/-! The model's findOrder -/
theorem mn_0 (A : Nat) : mn A 0 = A := by
  unfold mn
  simp
theorem mn_dl {A S p : Nat} (hA : A < 256) (hS : S < 256) (p8 : p < 8) : dl (mn A S) p = mn A (nS S p) := by
  have h1 := mn_lt hA hS
  refine set_ext (dl_lt _ h1 p p8) (mn_lt hA (nS_lt S hS p p8)) (fun q q8 => ?_)
  rw [dl_bit _ h1 p p8 q q8, mn_bit, mn_bit, nS_bit S hS p p8 q q8]
  by_cases e : q = p
  · subst e
    simp
  · simp [e]
theorem fin_e {X : Me} {m s w t n i S a x p : Nat} {P : Pr} (hX : PY X m P) (hB : Bst P 0 s w (pab P) (fun _ => True) (some t)) (t9 : t < 1000) (hI : Inv P s w t n i S a x) (hin : i < n) (n8 : n ≤ 8) (a9 : a < 1000) (h12 : X.1 0 12 = J (n : Nat)) (hp : Okp P t n S a x p) (hmin : ∀ q, q < p → ¬ Okp P t n S a x q) : ∃ y N, lp (fpX6_findOrder_l87 (J (t : Nat)) (J (a : Nat)) (J (x : Nat)) (J (mn (pab P) S : Nat)) (J (i : Nat))) FU ((-1 : Int32), (-1 : Int32), (1 : Int32), X) = some (J (p : Nat), J (y : Nat), N) ∧ rn P p (cr P x a (pml P p)) = some y ∧ ∀ r j, r ≠ 8 → N.1 r j = X.1 r j := by
  have m8 := hX.1
  have rm := hX.2.2.2.2.1
  have ab := hX.2.2.1
  have pm : p < m := ab.2 p hp.1
  have I1 := hI.1
  have I5 : x < 1000 := hI.2.2.2.2.1
  have mlt := mn_lt ab.1 I1
  obtain ⟨-, -, y, hy, -⟩ := id hp
  have hk : ∀ j, some (n - 1 - i) = some j → j ≤ 8 := fun j hj => by cases hj; omega
  obtain ⟨⟨pa, ya, N⟩, er, q1, q2, q3⟩ := lp_ok (step := fpX6_findOrder_l87 (J (t : Nat)) (J (a : Nat)) (J (x : Nat)) (J (mn (pab P) S : Nat)) (J (i : Nat))) (Q := fun r => r.1 = J (p : Nat) ∧ r.2.1 = J (y : Nat) ∧ ∀ r' j, r' ≠ 8 → r.2.2.1 r' j = X.1 r' j) (fun k st => (k ≤ p ∧ st.1 = J ((k : Int) - 1) ∧ st.2.2.1 = (1 : Int32) ∧ ∀ r' j, r' ≠ 8 → st.2.2.2.1 r' j = X.1 r' j) ∨ (k = p + 1 ∧ st.1 = J (p : Nat) ∧ st.2.1 = J (y : Nat) ∧ st.2.2.1 = 0 ∧ ∀ r' j, r' ≠ 8 → st.2.2.2.1 r' j = X.1 r' j)) (p + 1) (by omega) (s := ((-1 : Int32), (-1 : Int32), (1 : Int32), X)) (Or.inl ⟨Nat.zero_le _, rfl, rfl, fun _ _ _ => rfl⟩) (by
    intro k st hk' hst
    obtain ⟨pa, ya, ma, Z⟩ := st
    rcases hst with ⟨z1, z2, z3, z4⟩ | ⟨z1, z2, z3, z4, z5⟩
    · have z2 : pa = J ((k : Int) - 1) := z2
      have z3 : ma = (1 : Int32) := z3
      have z4 : ∀ r' j, r' ≠ 8 → Z.1 r' j = X.1 r' j := z4
      subst z2
      subst z3
      have k8 : k < 8 := by omega
      have km : k < m := by omega
      have hZ : PY Z m P := hX.same z4
      show ok (fpX6_findOrder_l87s (J (t : Nat)) (J (a : Nat)) (J (x : Nat)) (J (mn (pab P) S : Nat)) (J (i : Nat)) (J ((k : Int) - 1)) ya (1 : Int32) Z) _
      unfold fpX6_findOrder_l87s
      refine okF (by decide) (okL ?_)
      have e1 : J ((k : Int) - 1) + (1 : Int32) = J (k : Nat) := by
        rw [J_1, J_add, show (k : Int) - 1 + 1 = (k : Int) by omega]
      rw [e1, has_d _ mlt k k8, mn_bit]
      have go : ¬ Okp P t n S a x k → k < p := fun z => by
        rcases Nat.lt_or_eq_of_le z1 with c | c
        · exact c
        · rw [c] at z
          exact absurd hp z
      have nxt : ∀ (y' : Int32) (Z' : Me), (∀ r' j, r' ≠ 8 → Z'.1 r' j = X.1 r' j) → k < p → ok (some (Sum.inl (J (k : Nat), y', (1 : Int32), Z')) : Option ((Int32 × Int32 × Int32 × Me) ⊕ (Int32 × Int32 × Me))) (Sum.elim (fun st => k < p + 1 ∧ ((k + 1 ≤ p ∧ st.1 = J (((k + 1 : Nat) : Int) - 1) ∧ st.2.2.1 = (1 : Int32) ∧ ∀ r' j, r' ≠ 8 → st.2.2.2.1 r' j = X.1 r' j) ∨ (k + 1 = p + 1 ∧ st.1 = J (p : Nat) ∧ st.2.1 = J (y : Nat) ∧ st.2.2.1 = 0 ∧ ∀ r' j, r' ≠ 8 → st.2.2.2.1 r' j = X.1 r' j))) (fun r => r.1 = J (p : Nat) ∧ r.2.1 = J (y : Nat) ∧ ∀ r' j, r' ≠ 8 → r.2.2.1 r' j = X.1 r' j)) := fun y' Z' hZ' hkp => okS ⟨by omega, Or.inl ⟨by omega, by show J (k : Nat) = J (((k + 1 : Nat) : Int) - 1); rw [show ((k + 1 : Nat) : Int) - 1 = (k : Int) by omega], rfl, hZ'⟩⟩
      by_cases hc : ((pab P).testBit k && !S.testBit k) = true
      · rw [if_pos hc]
        simp only [Bool.and_eq_true, Bool.not_eq_true'] at hc
        refine okF (by decide) ?_
        have ml := (hZ.2.2.2.2.2.2.2.1 k km).1
        have el := left_e (w := x) (a := a) (b := pml P k) hZ (by omega) (by omega) (by omega)
        have hcr : cr P x a (pml P k) ≤ x := by unfold cr; omega
        have er : fpX6_ran (J (cr P x a (pml P k) : Nat)) (J (k : Nat)) Z = some (enc (rn P k (cr P x a (pml P k)))) := ranY_e (o := some (cr P x a (pml P k))) hZ km (fun z hz => by cases hz; omega)
        refine okE (itM_e hZ km) (okE el (okE er ?_))
        unfold fpX6_findOrder_b129_87
        cases hq : rn P k (cr P x a (pml P k)) with
        | none => exact okT (by decide) (nxt _ Z z4 (go (fun z => by obtain ⟨-, -, y', w1, -⟩ := z; rw [hq] at w1; cases w1)))
        | some y' =>
          have yr := rn_le hq
          refine okF (show ¬ J (y' : Nat) < (0 : Int32) from fun z => by have := (ltN (b := 0) (by omega) (by omega)).1 z; omega) (okE (itM_e hZ km) ?_)
          have h12' : Z.1 0 12 = J (n : Nat) := (z4 0 12 (by decide)).trans h12
          have ecn : Z.1 0 12 - (1 : Int32) - J (i : Nat) = enc (some (n - 1 - i)) := by
            rw [h12', show J (n : Nat) - (1 : Int32) = J ((n - 1 : Nat) : Int) from subN (b := 1) (by omega), subN (by omega)]
            rfl
          rw [ecn, del_d _ mlt k k8]
          have dlt := dl_lt _ mlt k k8
          have hm : ∀ q, (dl (mn (pab P) S) k).testBit q = true ↔ (pab P).testBit q = true ∧ (nS S k).testBit q = false := fun q => by
            rw [mn_dl ab.1 I1 k8, mn_bit]
            simp
          obtain ⟨Z', o, e5, g1, -, g3, g4⟩ := best_e (a := pml P k) (w := y') (e := 0) (may := dl (mn (pab P) S) k) (cnt := enc (some (n - 1 - i))) (C := CC (some (n - 1 - i))) hZ (by omega) (by omega) (by decide) dlt (fun q hq => ab.2 q ((hm q).1 hq).1) (cc_cnt0 hk) (cc_cnt hk)
          refine okE e5 ?_
          have key : enc o = J (t : Nat) ↔ Can P 0 t (nS S k) (CC (some n)) (pml P k) y' := by
            rw [enc_eq (fun z hz => by have := g4 z hz; omega) (by omega)]
            exact top_iff hB rm hI hin k8 hc.1 hc.2 hq hm g3
          have fZ : ∀ r' j, r' ≠ 8 → Z'.1 r' j = X.1 r' j := fun r' j hr => (g1 r' j hr).trans (z4 r' j hr)
          by_cases hC : Can P 0 t (nS S k) (CC (some n)) (pml P k) y'
          · have hok : Okp P t n S a x k := ⟨hc.1, hc.2, y', hq, hC⟩
            have ek : k = p := by
              rcases Nat.lt_or_eq_of_le z1 with c | c
              · exact absurd hok (hmin k c)
              · exact c
            have ey : y' = y := by
              rw [ek, hy] at hq
              exact (Option.some.inj hq).symm
            refine okT (key.2 hC) (okS ⟨by omega, Or.inr ⟨by omega, ?_, ?_, rfl, fZ⟩⟩)
            · show J (k : Nat) = J (p : Nat)
              rw [ek]
            · show J (y' : Nat) = J (y : Nat)
              rw [ey]
          · refine okF (fun z => hC (key.1 z)) (nxt _ Z' fZ (go (fun z => ?_)))
            obtain ⟨-, -, y2, w1, w2⟩ := z
            rw [hq] at w1
            cases w1
            exact hC w2
      · rw [if_neg hc]
        refine okT rfl ?_
        unfold fpX6_findOrder_b129_87
        refine okT (by decide) (nxt _ Z z4 (go (fun z => hc ?_)))
        rw [z.1, z.2.1]
        rfl
    · have z4 : ma = 0 := z4
      subst z4
      show ok (fpX6_findOrder_l87s (J (t : Nat)) (J (a : Nat)) (J (x : Nat)) (J (mn (pab P) S : Nat)) (J (i : Nat)) pa ya (0 : Int32) Z) _
      unfold fpX6_findOrder_l87s
      exact okT rfl (okS ⟨z2, z3, z5⟩))
  have q1 : pa = J (p : Nat) := q1
  have q2 : ya = J (y : Nat) := q2
  subst q1
  subst q2
  exact ⟨y, N, er, hy, q3⟩
theorem fo_e {M : Me} {n0 w : Nat} (hO : RO n0 (M.1 1)) (hn : n0 ≤ 1000) (hw : w < 1000) : ∃ N n t, fpX6_findOrder (J (w : Nat)) M = some (J (t : Nat), N) ∧ fyH M N ∧ PY N (vn (M.1 1) 0) (PR (M.1 1) (vn (M.1 1) 4)) ∧ t < 1000 ∧ Bst (PR (M.1 1) (vn (M.1 1) 4)) 0 (vn (M.1 1) 7) w (pab (PR (M.1 1) (vn (M.1 1) 4))) (fun _ => True) (some t) ∧ n ≤ 8 ∧ Can (PR (M.1 1) (vn (M.1 1) 4)) 0 t 0 (CC (some n)) (vn (M.1 1) 7) w ∧ (∀ k, k < n → ¬ Can (PR (M.1 1) (vn (M.1 1) 4)) 0 t 0 (CC (some k)) (vn (M.1 1) 7) w) ∧ N.1 0 12 = J (n : Nat) ∧ ∀ i, i < n → N.1 10 i = J (gpl (PR (M.1 1) (vn (M.1 1) 4)) (vn (M.1 1) 7) w t n i : Nat) := by
  have k7 := hO.k7
  have a9 : vn (M.1 1) 7 < 1000 := by unfold vn; omega
  obtain ⟨A, t, e1, a1, t9, hA, hB⟩ := mwY_e (w := w) hO hn hw
  have m7 : M.1 1 7 = J (vn (M.1 1) 7 : Nat) := vn_J k7.1
  have A7 : A.1 1 7 = J (vn (M.1 1) 7 : Nat) := by rw [a1.r1]; exact m7
  generalize PR (M.1 1) (vn (M.1 1) 4) = P at hA hB
  generalize vn (M.1 1) 7 = s at hB a9 A7
  generalize vn (M.1 1) 0 = m at hA
  have m8 := hA.1
  have rm := hA.2.2.2.2.1
  have ab := hA.2.2.1
  -- how many
  obtain ⟨u, u1, u2⟩ := hB.1 t rfl
  have hNu : Can P 0 t 0 (CC (some u.length)) s w := Can.pl.2 ⟨u, t, ⟨u1.1, u1.2.1, CC_some.2 rfl⟩, u2, Nat.le_refl _⟩
  have u8 : u.length ≤ 8 := by
    obtain ⟨S, s1, s2, s3⟩ := setOf u u1.1 (fun q hq => bit_lt ab.1 (u1.2.1 q hq))
    rw [← s3]
    exact pc_le
  obtain ⟨n, hN, hmin⟩ := least_ex (T := fun k => Can P 0 t 0 (CC (some k)) s w) u.length hNu
  have hN : Can P 0 t 0 (CC (some n)) s w := hN
  have n8 : n ≤ 8 := Nat.le_of_not_lt (fun z => hmin u.length (by omega) hNu)
  obtain ⟨R6, er6, r1, r2⟩ := lp_ok (step := fpX6_findOrder_l11 (J (w : Nat)) (J (t : Nat))) (Q := fun X => X.1 0 12 = J (n : Nat) ∧ ∀ r j, r ≠ 8 → ¬ (r = 0 ∧ j = 12) → X.1 r j = A.1 r j) (fun i X => i ≤ n ∧ X.1 0 12 = J (i : Nat) ∧ ∀ r j, r ≠ 8 → ¬ (r = 0 ∧ j = 12) → X.1 r j = A.1 r j) n (by omega) (s := wrM A 0 12 (0 : Int32)) ⟨Nat.zero_le _, wrM_eq, fun r j _ h => by rw [wrM_at, if_neg h]⟩ (by
    intro i X hi hst
    obtain ⟨-, x1, x2⟩ := hst
    have hX : PY X m P := hA.sm (x2 0 8 (by decide) (by omega)) (fun r j hr => x2 r j (by omega) (by omega))
    have hk : ∀ j, some i = some j → j ≤ 8 := fun j hj => by cases hj; omega
    show ok (fpX6_findOrder_l11s (J (w : Nat)) (J (t : Nat)) X) _
    unfold fpX6_findOrder_l11s
    rw [show X.1 1 7 = J (s : Nat) from (x2 1 7 (by decide) (by omega)).trans A7, hX.2.2.2.1, x1]
    obtain ⟨Y, o, e5, g1, -, g3, g4⟩ := best_e (a := s) (w := w) (e := 0) (may := pab P) (cnt := enc (some i)) (C := CC (some i)) hX a9 hw (by decide) ab.1 ab.2 (cc_cnt0 hk) (cc_cnt hk)
    have e5 : fpX6_bestFrom (J (s : Nat)) (J (w : Nat)) (J (pab P : Nat)) (J (i : Nat)) (0 : Int32) X = some (enc o, Y) := e5
    refine okE e5 ?_
    have key : enc o = J (t : Nat) ↔ Can P 0 t 0 (CC (some i)) s w := by
      rw [enc_eq (fun z hz => by have := g4 z hz; omega) (by omega)]
      exact top_iff0 hB g3
    have y1 : Y.1 0 12 = J (i : Nat) := (g1 0 12 (by decide)).trans x1
    by_cases hC : Can P 0 t 0 (CC (some i)) s w
    · have : i = n := by
        rcases Nat.lt_or_eq_of_le hi with z | z
        · exact absurd hC (hmin i z)
        · exact z
      subst this
      exact okT (key.2 hC) (okS ⟨y1, fun r j h1 h2 => (g1 r j h1).trans (x2 r j h1 h2)⟩)
    · refine okF (fun z => hC (key.1 z)) (okL ?_)
      have hin : i < n := by
        rcases Nat.lt_or_eq_of_le hi with z | z
        · exact z
        · rw [z] at hC
          exact absurd hN hC
      show ok (some (Sum.inl (wrM Y 0 12 (Y.1 0 12 + 1)))) _
      rw [y1, J_succ]
      exact okS ⟨hin, by omega, wrM_eq, fun r j h1 h2 => by rw [wrM_at, if_neg h2]; exact (g1 r j h1).trans (x2 r j h1 h2)⟩)
  have hR : PY R6 m P := hA.sm (r2 0 8 (by decide) (by omega)) (fun r j hr => r2 r j (by omega) (by omega))
  have inv := inv_i ab.1 rm hw hN
  have gA : ∀ i, i ≤ n → (gst P s w t n i).2.1 < 1000 := fun i hi => by
    cases i with
    | zero => exact a9
    | succ j =>
      obtain ⟨y, -, y2⟩ := gp_st ab.1 rm hw hN (show j < n by omega)
      rw [y2]
      have := (hA.2.2.2.2.2.2.2.1 _ (ab.2 _ (gp_ok ab.1 rm hw hN (show j < n by omega)).1.1)).1
      show pml P (gpl P s w t n j) < 1000
      omega
  obtain ⟨N, eN, q1, q2⟩ := lp_ok (step := fpX6_findOrder_l69 (J (t : Nat))) (Q := fun X => (∀ r j, r ≠ 8 → r ≠ 10 → X.1 r j = R6.1 r j) ∧ ∀ k, k < n → X.1 10 k = J (gpl P s w t n k : Nat)) (fun i st => ∃ X, st = (J ((gst P s w t n i).2.1 : Nat), J ((gst P s w t n i).2.2 : Nat), J (mn (pab P) (gst P s w t n i).1 : Nat), J (i : Nat), X) ∧ (∀ r j, r ≠ 8 → r ≠ 10 → X.1 r j = R6.1 r j) ∧ ∀ k, k < i → X.1 10 k = J (gpl P s w t n k : Nat)) n (by omega) (s := (J (s : Nat), J (w : Nat), J (mn (pab P) 0 : Nat), (0 : Int32), R6)) ⟨R6, rfl, fun _ _ _ _ => rfl, fun k hk => absurd hk (Nat.not_lt_zero _)⟩ (by
    intro i st hi hst
    obtain ⟨X, rfl, x1, x2⟩ := hst
    show ok (fpX6_findOrder_l69s (J (t : Nat)) (J ((gst P s w t n i).2.1 : Nat)) (J ((gst P s w t n i).2.2 : Nat)) (J (mn (pab P) (gst P s w t n i).1 : Nat)) (J (i : Nat)) X) _
    unfold fpX6_findOrder_l69s
    have h12 : X.1 0 12 = J (n : Nat) := (x1 0 12 (by decide) (by decide)).trans r1
    rw [h12]
    rcases Nat.lt_or_eq_of_le hi with hin | hin
    · refine okF (fun z => by have := (leN (by omega) (by omega)).1 z; omega) ?_
      have hX : PY X m P := hR.sm (x1 0 8 (by decide) (by decide)) (fun r j hr => x1 r j (by omega) (by omega))
      obtain ⟨ok1, ok2⟩ := gp_ok ab.1 rm hw hN hin
      obtain ⟨y, y1, y2⟩ := gp_st ab.1 rm hw hN hin
      have pm : gpl P s w t n i < m := ab.2 _ ok1.1
      have I1 := (inv i hi).1
      obtain ⟨y', Z, e5, w1, w2⟩ := fin_e hX hB t9 (inv i hi) hin n8 (gA i hi) h12 ok1 ok2
      have ey : y' = y := by
        rw [y1] at w1
        exact (Option.some.inj w1).symm
      subst ey
      refine okE e5 (okE (inbJ (show i < 8 by omega) (by decide)) (okL ?_))
      generalize hL : wrM Z 10 i (J (gpl P s w t n i : Nat)) = L
      have Ln : ∀ r j, r ≠ 10 → L.1 r j = Z.1 r j := fun r j hr => by rw [← hL, wrM_nr hr]
      have hLP : PY L m P := hX.sm ((Ln 0 8 (by decide)).trans (w2 0 8 (by decide))) (fun r j hr => (Ln r j (by omega)).trans (w2 r j (by omega)))
      refine okE (itM_e hLP pm) (okL (okL ?_))
      rw [del_d _ (mn_lt ab.1 I1) _ (show gpl P s w t n i < 8 by omega), mn_dl ab.1 I1 (by omega)]
      refine okS ⟨hin, L, ?_, fun r j h1 h2 => (Ln r j h2).trans ((w2 r j h1).trans (x1 r j h1 h2)), fun k hk => ?_⟩
      · rw [y2, J_succ]
      · rcases Nat.lt_or_eq_of_le (Nat.le_of_lt_succ hk) with z | z
        · rw [← hL, wrM_nj (by omega), w2 10 k (by decide)]; exact x2 k z
        · rw [z, ← hL]; exact wrM_eq
    · subst hin
      exact okT ((leN (by omega) (by omega)).2 (Nat.le_refl _)) (okS ⟨x1, x2⟩))
  refine ⟨N, n, t, ?_, ?_, hR.sm (q1 0 8 (by decide) (by decide)) (fun r j hr => q1 r j (by omega) (by omega)), t9, hB, n8, hN, hmin, (q1 0 12 (by decide) (by decide)).trans r1, q2⟩
  · unfold fpX6_findOrder letv
    dsimp only
    rw [e1, Option.bind_some]
    dsimp only
    rw [er6, Option.bind_some, show R6.1 1 7 = J (s : Nat) from (r2 1 7 (by decide) (by omega)).trans A7, hR.2.2.2.1]
    rw [mn_0] at eN
    rw [eN]
    rfl
  · refine a1.h.tr ⟨fun r j hr => (q1 r j (by omega) (by omega)).trans (r2 r j (by omega) (by omega)), fun j h8 h12 => (q1 0 j (by decide) (by decide)).trans (r2 0 j (by decide) (by omega))⟩
