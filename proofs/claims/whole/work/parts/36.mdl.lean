/-! The model's yields, needs and losses; its left and ran -/
/-- the model has found its yields -/
def PY (M : Me) (m : Nat) (P : Pr) : Prop := m ≤ 8 ∧ M.1 1 0 = J (m : Nat) ∧ (pab P < 256 ∧ ∀ q, (pab P).testBit q = true → q < m) ∧ M.1 0 8 = J (pab P : Nat) ∧ prom P < 1000 ∧ M.1 1 2 = J (prom P : Nat) ∧ (∀ p, p < m → pnd P p < 1000 ∧ M.1 6 p = J (pnd P p : Nat) ∧ pyl P p < 1000 ∧ M.1 5 p = J (pyl P p : Nat)) ∧ (∀ p, p < m → pml P p < 100 ∧ M.1 1 (12 + 6 * p + 1) = J (pml P p : Nat)) ∧ ∃ sp, sp < 1000 ∧ M.1 1 3 = J (sp : Nat) ∧ pls P = ls sp ∧ ∀ q p, q < m → p < m → M.1 7 (8 * q + p) = J (ls sp (pml P q) (pml P p) : Nat)
def fyF (M N : Me) : Prop := (∀ r j, r ≠ 0 → r ≠ 5 → r ≠ 6 → r ≠ 7 → N.1 r j = M.1 r j) ∧ (∀ j, j ≠ 8 → N.1 0 j = M.1 0 j) ∧ N.2 = M.2
theorem fyl_e {M : Me} {n m i sp : Nat} (hO : RO n (M.1 1)) (hm : M.1 1 0 = J (m : Nat)) (m8 : m ≤ 8) (hi : i < m) (hsp : M.1 1 3 = J (sp : Nat)) (sp9 : sp < 1000) : ∃ N, lp (fpX6_findYields_l75 (J (i : Nat))) FU ((0 : Int32), M) = some N ∧ (∀ r j, r ≠ 7 → N.1 r j = M.1 r j) ∧ N.2 = M.2 ∧ (∀ q p, q < 8 → p < 8 → p ≠ i → N.1 7 (8 * q + p) = M.1 7 (8 * q + p)) ∧ ∀ q, q < m → N.1 7 (8 * q + i) = J (ls sp (vn (M.1 1) (12 + 6 * q + 1)) (vn (M.1 1) (12 + 6 * i + 1)) : Nat) := by
  have ml : ∀ p, p < 8 → M.1 1 (12 + 6 * p + 1) = J (vn (M.1 1) (12 + 6 * p + 1) : Nat) ∧ vn (M.1 1) (12 + 6 * p + 1) < 100 := fun p hp => by
    have h : 0 ≤ (M.1 1 (12 + 6 * p + 1)).toInt ∧ (M.1 1 (12 + 6 * p + 1)).toInt ≤ 99 := hO.p hp (w := 1) (by decide)
    refine ⟨vn_J h.1, ?_⟩
    unfold vn
    omega
  obtain ⟨N, e, f1, f2, f3, f4⟩ := lp_ok (step := fpX6_findYields_l75 (J (i : Nat))) (Q := fun N => (∀ r j, r ≠ 7 → N.1 r j = M.1 r j) ∧ N.2 = M.2 ∧ (∀ q p, q < 8 → p < 8 → p ≠ i → N.1 7 (8 * q + p) = M.1 7 (8 * q + p)) ∧ ∀ q, q < m → N.1 7 (8 * q + i) = J (ls sp (vn (M.1 1) (12 + 6 * q + 1)) (vn (M.1 1) (12 + 6 * i + 1)) : Nat)) (fun k st => st.1 = J (k : Nat) ∧ (∀ r j, r ≠ 7 → st.2.1 r j = M.1 r j) ∧ st.2.2 = M.2 ∧ (∀ q p, q < 8 → p < 8 → p ≠ i → st.2.1 7 (8 * q + p) = M.1 7 (8 * q + p)) ∧ ∀ q, q < k → st.2.1 7 (8 * q + i) = J (ls sp (vn (M.1 1) (12 + 6 * q + 1)) (vn (M.1 1) (12 + 6 * i + 1)) : Nat)) m (by omega) (s := ((0 : Int32), M)) ⟨rfl, fun _ _ _ => rfl, rfl, fun _ _ _ _ _ => rfl, fun q hq => absurd hq (Nat.not_lt_zero _)⟩ (by
    intro k st hk hst
    obtain ⟨ka, X⟩ := st
    obtain ⟨s1, x1, x2, x3, x4⟩ := hst
    have s1 : ka = J (k : Nat) := s1
    have x1 : ∀ r j, r ≠ 7 → X.1 r j = M.1 r j := x1
    have x3 : ∀ q p, q < 8 → p < 8 → p ≠ i → X.1 7 (8 * q + p) = M.1 7 (8 * q + p) := x3
    have x4 : ∀ q, q < k → X.1 7 (8 * q + i) = J (ls sp (vn (M.1 1) (12 + 6 * q + 1)) (vn (M.1 1) (12 + 6 * i + 1)) : Nat) := x4
    subst s1
    show ok (fpX6_findYields_l75s (J (i : Nat)) (J (k : Nat)) X) _
    unfold fpX6_findYields_l75s
    rw [x1 1 0 (by decide), hm]
    rcases Nat.lt_or_eq_of_le hk with hkm | hkm
    · refine okF (fun z => by have := (leN (by omega) (by omega)).1 z; omega) ?_
      have i1 : fpX6_its (J (k : Nat)) (1 : Int32) X = some (J (vn (M.1 1) (12 + 6 * k + 1) : Nat)) := (itsE (w := 1) (by omega) (by decide)).trans (by rw [x1 _ _ (by decide), ← (ml k (by omega)).1])
      have i2 : fpX6_its (J (i : Nat)) (1 : Int32) X = some (J (vn (M.1 1) (12 + 6 * i + 1) : Nat)) := (itsE (w := 1) (by omega) (by decide)).trans (by rw [x1 _ _ (by decide), ← (ml i (by omega)).1])
      have b1 := (ml k (by omega)).2
      have b2 := (ml i (by omega)).2
      have hl : ls sp (vn (M.1 1) (12 + 6 * k + 1)) (vn (M.1 1) (12 + 6 * i + 1)) < 100 := ls_lt b1 b2
      have lf : fpX6_left (9999 : Int32) (J (vn (M.1 1) (12 + 6 * k + 1) : Nat)) (J (vn (M.1 1) (12 + 6 * i + 1) : Nat)) X = some (J ((9999 - ls sp (vn (M.1 1) (12 + 6 * k + 1)) (vn (M.1 1) (12 + 6 * i + 1)) : Nat) : Int)) := leftY (w := 9999) (by rw [x1 1 3 (by decide)]; exact hsp) (by decide) (by omega) (by omega) (by omega)
      have e8 : (8 : Int32) * J (k : Nat) + J (i : Nat) = J ((8 * k + i : Nat) : Int) := by
        rw [show (8 : Int32) = J 8 from rfl, J_mul, J_add]
        rfl
      have ev : (9999 : Int32) - J ((9999 - ls sp (vn (M.1 1) (12 + 6 * k + 1)) (vn (M.1 1) (12 + 6 * i + 1)) : Nat) : Int) = J (ls sp (vn (M.1 1) (12 + 6 * k + 1)) (vn (M.1 1) (12 + 6 * i + 1)) : Nat) := by
        rw [show (9999 : Int32) = J ((9999 : Nat) : Int) from rfl, subN (by omega), show 9999 - (9999 - ls sp (vn (M.1 1) (12 + 6 * k + 1)) (vn (M.1 1) (12 + 6 * i + 1))) = ls sp (vn (M.1 1) (12 + 6 * k + 1)) (vn (M.1 1) (12 + 6 * i + 1)) by omega]
      refine okE i1 (okE i2 (okE lf ?_))
      rw [e8, ev]
      refine okE (inbJ (show 8 * k + i < 64 by omega) (by decide)) (okL (okL (okS ⟨hkm, J_succ k, fun r j hr => (wrM_nr hr).trans (x1 r j hr), x2, fun q p hq hp hpi => (wrM_nj (by omega)).trans (x3 q p hq hp hpi), fun q hq => ?_⟩)))
      show (wrM X 7 (8 * k + i) _).1 7 (8 * q + i) = _
      rcases Nat.lt_or_eq_of_le (Nat.le_of_lt_succ hq) with z | z
      · rw [wrM_nj (by omega)]
        exact x4 q z
      · subst z
        exact wrM_eq
    · subst hkm
      exact okT ((leN (by omega) (by omega)).2 (Nat.le_refl _)) (okS ⟨x1, x2, x3, x4⟩))
  exact ⟨N, e, f1, f2, f3, f4⟩
theorem fy_e {M : Me} {n : Nat} (hO : RO n (M.1 1)) (hn : n ≤ 1000) : ∃ N, fpX6_findYields M = some N ∧ fyF M N ∧ PY N (vn (M.1 1) 0) (PR (M.1 1) (vn (M.1 1) 4)) := by
  have k0 := hO.k0
  have k2 := hO.k2
  have k3 := hO.k3
  have k4 := hO.k4
  have hm : M.1 1 0 = J (vn (M.1 1) 0 : Nat) := vn_J k0.1
  have m8 : vn (M.1 1) 0 ≤ 8 := by unfold vn; omega
  have hsp : M.1 1 3 = J (vn (M.1 1) 3 : Nat) := vn_J k3.1
  have sp9 : vn (M.1 1) 3 < 100 := by unfold vn; omega
  have rm9 : vn (M.1 1) 2 < 1000 := by unfold vn; omega
  have hd : M.1 1 4 = J (vn (M.1 1) 4 : Nat) := vn_J k4.1
  have d9 : vn (M.1 1) 4 < 10 := by unfold vn; omega
  generalize hm' : vn (M.1 1) 0 = m at hm m8
  generalize hs' : vn (M.1 1) 3 = sp at hsp sp9
  generalize hd' : vn (M.1 1) 4 = d at hd d9
  obtain ⟨N, e, ⟨f1, f2, f3⟩, f4, f5, f6⟩ := lp_ok (step := fpX6_findYields_l7) (Q := fun N => fyF M N ∧ N.1 0 8 = J (abl (M.1 1) d m : Nat) ∧ (∀ p, p < m → N.1 5 p = J (yP (M.1 1) d p : Nat) ∧ N.1 6 p = J (nP (M.1 1) d p : Nat)) ∧ ∀ q p, q < m → p < m → N.1 7 (8 * q + p) = J (ls sp (vn (M.1 1) (12 + 6 * q + 1)) (vn (M.1 1) (12 + 6 * p + 1)) : Nat)) (fun i st => st.1 = J (i : Nat) ∧ fyF M st.2 ∧ st.2.1 0 8 = J (abl (M.1 1) d i : Nat) ∧ (∀ p, p < i → st.2.1 5 p = J (yP (M.1 1) d p : Nat) ∧ st.2.1 6 p = J (nP (M.1 1) d p : Nat)) ∧ ∀ q p, q < m → p < i → st.2.1 7 (8 * q + p) = J (ls sp (vn (M.1 1) (12 + 6 * q + 1)) (vn (M.1 1) (12 + 6 * p + 1)) : Nat)) m (by omega) (s := ((0 : Int32), wrM M 0 8 0)) ⟨rfl, ⟨fun r j h0 _ _ _ => wrM_nr h0, fun j hj => wrM_nj hj, rfl⟩, wrM_eq, fun p hp => absurd hp (Nat.not_lt_zero _), fun q p _ hp => absurd hp (Nat.not_lt_zero _)⟩ (by
    intro i st hi hst
    obtain ⟨ia, X⟩ := st
    obtain ⟨s1, ⟨x1, x2, x2'⟩, x3, x4, x5⟩ := hst
    have s1 : ia = J (i : Nat) := s1
    have x1 : ∀ r j, r ≠ 0 → r ≠ 5 → r ≠ 6 → r ≠ 7 → X.1 r j = M.1 r j := x1
    have x2 : ∀ j, j ≠ 8 → X.1 0 j = M.1 0 j := x2
    have x2' : X.2 = M.2 := x2'
    have x3 : X.1 0 8 = J (abl (M.1 1) d i : Nat) := x3
    have x4 : ∀ p, p < i → X.1 5 p = J (yP (M.1 1) d p : Nat) ∧ X.1 6 p = J (nP (M.1 1) d p : Nat) := x4
    have x5 : ∀ q p, q < m → p < i → X.1 7 (8 * q + p) = J (ls sp (vn (M.1 1) (12 + 6 * q + 1)) (vn (M.1 1) (12 + 6 * p + 1)) : Nat) := x5
    subst s1
    have X1 : X.1 1 = M.1 1 := funext fun j => x1 1 j (by decide) (by decide) (by decide) (by decide)
    show ok (fpX6_findYields_l7s (J (i : Nat)) X) _
    unfold fpX6_findYields_l7s
    rw [show X.1 1 0 = J (m : Nat) by rw [X1]; exact hm]
    rcases Nat.lt_or_eq_of_le hi with him | him
    · have i8 : i < 8 := by omega
      refine okF (fun z => by have := (leN (by omega) (by omega)).1 z; omega) ?_
      have y6 : yP (M.1 1) d i ≤ 63 := yP_le hO i8
      have ey : fpX6_yieldOf (J (i : Nat)) X = some (J (yP (M.1 1) d i : Nat)) := by
        have := yE (M := X) (d := d) (by rw [X1]; exact hO) hn i8 (by rw [X1]; exact hd) (by omega)
        rw [X1] at this
        exact this
      refine okE ey (okE (inbJ i8 (by decide)) (okL ?_))
      generalize hA : wrM X 5 i (J (yP (M.1 1) d i : Nat)) = A
      have A1 : A.1 1 = M.1 1 := by rw [← hA, wr_n (by decide)]; exact X1
      have en : fpX6_needOf (J (i : Nat)) A = some (J (nP (M.1 1) d i : Nat)) := by
        have := nE (M := A) (d := d) (by rw [A1]; exact hO) hn i8 (by rw [A1]; exact hd) (by omega)
        rw [A1] at this
        exact this
      refine okE en (okL ?_)
      generalize hB : wrM A 6 i (J (nP (M.1 1) d i : Nat)) = B
      have B1 : B.1 1 = M.1 1 := by rw [← hB, wr_n (by decide)]; exact A1
      have b5 : B.1 5 i = J (yP (M.1 1) d i : Nat) := by rw [← hB, wrM_nr (by decide), ← hA, wrM_eq]
      have b8 : B.1 0 8 = J (abl (M.1 1) d i : Nat) := by rw [← hB, wrM_nr (by decide), ← hA, wrM_nr (by decide)]; exact x3
      have bf : ∀ r j, r ≠ 5 → r ≠ 6 → B.1 r j = X.1 r j := fun r j h5 h6 => by rw [← hB, wrM_nr h6, ← hA, wrM_nr h5]
      have b2 : B.2 = M.2 := by rw [← hB, ← hA]; exact x2'
      have b56 : ∀ p, p < i + 1 → B.1 5 p = J (yP (M.1 1) d p : Nat) ∧ B.1 6 p = J (nP (M.1 1) d p : Nat) := by
        intro p hp
        rcases Nat.lt_or_eq_of_le (Nat.le_of_lt_succ hp) with z | z
        · rw [← hB, wrM_nr (by decide), wrM_nj (by omega), ← hA, wrM_nj (by omega), wrM_nr (by decide)]
          exact x4 p z
        · subst z
          refine ⟨b5, ?_⟩
          rw [← hB, wrM_eq]
      -- the losses, whatever the set
      have fin : ∀ (t2 : Int32), J (abl (M.1 1) d i : Nat) ||| t2 = J (abl (M.1 1) d (i + 1) : Nat) → ok (fpX6_findYields_b69_7 (J (i : Nat)) (J (abl (M.1 1) d i : Nat)) t2 B) (Sum.elim (fun s' => i < m ∧ s'.1 = J ((i + 1 : Nat) : Int) ∧ fyF M s'.2 ∧ s'.2.1 0 8 = J (abl (M.1 1) d (i + 1) : Nat) ∧ (∀ p, p < i + 1 → s'.2.1 5 p = J (yP (M.1 1) d p : Nat) ∧ s'.2.1 6 p = J (nP (M.1 1) d p : Nat)) ∧ ∀ q p, q < m → p < i + 1 → s'.2.1 7 (8 * q + p) = J (ls sp (vn (M.1 1) (12 + 6 * q + 1)) (vn (M.1 1) (12 + 6 * p + 1)) : Nat)) (fun N => fyF M N ∧ N.1 0 8 = J (abl (M.1 1) d m : Nat) ∧ (∀ p, p < m → N.1 5 p = J (yP (M.1 1) d p : Nat) ∧ N.1 6 p = J (nP (M.1 1) d p : Nat)) ∧ ∀ q p, q < m → p < m → N.1 7 (8 * q + p) = J (ls sp (vn (M.1 1) (12 + 6 * q + 1)) (vn (M.1 1) (12 + 6 * p + 1)) : Nat))) := by
        intro t2 ht2
        unfold fpX6_findYields_b69_7
        rw [ht2]
        refine okL ?_
        generalize hC : wrM B 0 8 (J (abl (M.1 1) d (i + 1) : Nat)) = C
        have C1 : C.1 1 = M.1 1 := by rw [← hC, wr_n (by decide)]; exact B1
        have cf : ∀ r j, r ≠ 0 → C.1 r j = B.1 r j := fun r j h0 => by rw [← hC, wrM_nr h0]
        obtain ⟨D, eD, g1, g2, g3, g4⟩ := fyl_e (M := C) (n := n) (m := m) (i := i) (sp := sp) (by rw [C1]; exact hO) (by rw [C1]; exact hm) m8 him (by rw [C1]; exact hsp) (by omega)
        rw [C1] at g4
        refine okE eD (okL (okS ⟨him, J_succ i, ⟨fun r j h0 h5 h6 h7 => ?_, fun j hj => ?_, ?_⟩, ?_, fun p hp => ?_, fun q p hq hp => ?_⟩))
        · rw [g1 r j h7, cf r j h0, bf r j h5 h6]; exact x1 r j h0 h5 h6 h7
        · rw [g1 0 j (by decide), ← hC, wrM_nj hj, bf 0 j (by decide) (by decide)]; exact x2 j hj
        · show D.2 = M.2
          rw [g2, ← hC]; exact b2
        · rw [g1 0 8 (by decide), ← hC, wrM_eq]
        · show D.1 5 p = _ ∧ D.1 6 p = _
          rw [g1 5 p (by decide), g1 6 p (by decide), cf 5 p (by decide), cf 6 p (by decide)]
          exact b56 p hp
        · show D.1 7 (8 * q + p) = _
          rcases Nat.lt_or_eq_of_le (Nat.le_of_lt_succ hp) with z | z
          · rw [g3 q p (by omega) (by omega) (by omega), cf 7 _ (by decide), bf 7 _ (by decide) (by decide)]
            exact x5 q p hq z
          · subst z
            exact g4 q hq
      have orz : ∀ x : Int32, x ||| 0 = x := fun x => Int32.or_zero
      rw [b5, b8]
      by_cases hy : yP (M.1 1) d i = 0
      · refine okT ((leN (b := 0) (by omega) (by omega)).2 (by omega)) ?_
        unfold fpX6_findYields_b68_7
        exact fin 0 (by rw [orz, show abl (M.1 1) d (i + 1) = abl (M.1 1) d i from if_neg (fun z => by omega)])
      · refine okF (fun z => hy (by have := (leN (b := 0) (by omega) (by omega)).1 z; omega)) ?_
        have i5 : fpX6_its (J (i : Nat)) (5 : Int32) B = some (M.1 1 (12 + 6 * i + 5)) := (itsE (w := 5) i8 (by decide)).trans (by rw [B1])
        refine okE i5 ?_
        by_cases ht : M.1 1 (12 + 6 * i + 5) = 0
        · refine okT ht ?_
          exact fin _ (by rw [ins_d _ (abl_b i (by omega)).1 i i8, show abl (M.1 1) d (i + 1) = nS (abl (M.1 1) d i) i from if_pos ⟨ht, by omega⟩])
        · refine okF ht ?_
          unfold fpX6_findYields_b68_7
          exact fin 0 (by rw [orz, show abl (M.1 1) d (i + 1) = abl (M.1 1) d i from if_neg (fun z => ht z.1)])
    · subst him
      exact okT ((leN (by omega) (by omega)).2 (Nat.le_refl _)) (okS ⟨⟨x1, x2, x2'⟩, x3, x4, x5⟩))
  have N1 : N.1 1 = M.1 1 := funext fun j => f1 1 j (by decide) (by decide) (by decide) (by decide)
  refine ⟨N, ?_, ⟨f1, f2, f3⟩, m8, by rw [N1]; exact hm, ?_, ?_, rm9, by rw [N1]; exact vn_J (by omega), fun p hp => ?_, fun p hp => ?_, sp, by omega, by rw [N1]; exact hsp, ?_, fun q p hq hp => ?_⟩
  · unfold fpX6_findYields letv
    dsimp only
    rw [e]
    rfl
  · show abl (M.1 1) d (vn (M.1 1) 0) < 256 ∧ _
    rw [hm']
    have := abl_b (s := M.1 1) (d := d) m m8
    refine ⟨this.1, fun q hq => ?_⟩
    have hq : (abl (M.1 1) d (vn (M.1 1) 0)).testBit q = true := hq
    rw [hm'] at hq
    exact ((this.2 q).1 hq).1
  · show N.1 0 8 = J (abl (M.1 1) d (vn (M.1 1) 0) : Nat)
    rw [hm']
    exact f4
  · have b1 : nP (M.1 1) d p ≤ 33 := nP_le hO (by omega)
    have b2 : yP (M.1 1) d p ≤ 63 := yP_le hO (by omega)
    exact ⟨show nP (M.1 1) d p < 1000 by omega, (f5 p hp).2, show yP (M.1 1) d p < 1000 by omega, (f5 p hp).1⟩
  · have h : 0 ≤ (M.1 1 (12 + 6 * p + 1)).toInt ∧ (M.1 1 (12 + 6 * p + 1)).toInt ≤ 99 := hO.p (show p < 8 by omega) (w := 1) (by decide)
    refine ⟨show vn (M.1 1) (12 + 6 * p + 1) < 100 by unfold vn; omega, ?_⟩
    rw [N1]
    exact vn_J h.1
  · show ls (vn (M.1 1) 3) = ls sp
    rw [hs']
  · exact f6 q p hq hp
