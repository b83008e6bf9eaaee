/-! The model's yields, needs and losses; its left and ran -/
/-- the model has found its yields -/
def PY (M : Me) (m : Nat) (P : Pr) : Prop := m ≤ 8 ∧ M.1 1 0 = J (m : Nat) ∧ (pab P < 256 ∧ ∀ q, (pab P).testBit q = true → q < m) ∧ M.1 0 8 = J (pab P : Nat) ∧ prom P < 1000 ∧ M.1 1 2 = J (prom P : Nat) ∧ (∀ p, p < m → pnd P p < 1000 ∧ M.1 6 p = J (pnd P p : Nat) ∧ pyl P p < 1000 ∧ M.1 5 p = J (pyl P p : Nat)) ∧ (∀ p, p < m → pml P p < 100 ∧ M.1 1 (12 + 6 * p + 1) = J (pml P p : Nat)) ∧ ∃ sp, sp < 1000 ∧ M.1 1 3 = J (sp : Nat) ∧ pls P = ls sp ∧ ∀ q p, q < m → p < m → M.1 7 (8 * q + p) = J (ls sp (pml P q) (pml P p) : Nat)
def fyF (M N : Me) : Prop := (∀ r j, r ≠ 0 → r ≠ 5 → r ≠ 6 → r ≠ 7 → N.1 r j = M.1 r j) ∧ (∀ j, j ≠ 8 → N.1 0 j = M.1 0 j) ∧ N.2 = M.2
theorem fyl_e {M : Me} {n m i sp : Nat} (hO : RO n (M.1 1)) (hm : M.1 1 0 = J (m : Nat)) (m8 : m ≤ 8) (hi : i < m) (hsp : M.1 1 3 = J (sp : Nat)) (sp9 : sp < 1000) : ∃ N, lp (fpX6_findYields_l75 (J (i : Nat))) FU ((0 : Int32), M) = some N ∧ (∀ r j, r ≠ 7 → N.1 r j = M.1 r j) ∧ N.2 = M.2 ∧ (∀ q p, q < 8 → p < 8 → p ≠ i → N.1 7 (8 * q + p) = M.1 7 (8 * q + p)) ∧ ∀ q, q < m → N.1 7 (8 * q + i) = J (ls sp (vn (M.1 1) (12 + 6 * q + 1)) (vn (M.1 1) (12 + 6 * i + 1)) : Nat) := by
  have ml : ∀ p, p < 8 → M.1 1 (12 + 6 * p + 1) = J (vn (M.1 1) (12 + 6 * p + 1) : Nat) ∧ vn (M.1 1) (12 + 6 * p + 1) < 100 := fun p hp => by
    have h : 0 ≤ (M.1 1 (12 + 6 * p + 1)).toInt ∧ (M.1 1 (12 + 6 * p + 1)).toInt ≤ 99 := hO.p hp (w := 1) (by decide)
    refine ⟨vn_J h.1, ?_⟩
    unfold vn
    omega
  obtain ⟨N, e, f1, f2, f3, f4⟩ := lp_ok (step := fpX6_findYields_l75 (J (i : Nat))) (Q := fun N => (∀ r j, r ≠ 7 → N.1 r j = M.1 r j) ∧ N.2 = M.2 ∧ (∀ q p, q < 8 → p < 8 → p ≠ i → N.1 7 (8 * q + p) = M.1 7 (8 * q + p)) ∧ ∀ q, q < m → N.1 7 (8 * q + i) = J (ls sp (vn (M.1 1) (12 + 6 * q + 1)) (vn (M.1 1) (12 + 6 * i + 1)) : Nat)) (fun k st => st.1 = J (k : Nat) ∧ (∀ r j, r ≠ 7 → st.2.1 r j = M.1 r j) ∧ st.2.2 = M.2 ∧ (∀ q p, q < 8 → p < 8 → p ≠ i → st.2.1 7 (8 * q + p) = M.1 7 (8 * q + p)) ∧ ∀ q, q < k → st.2.1 7 (8 * q + i) = J (ls sp (vn (M.1 1) (12 + 6 * q + 1)) (vn (M.1 1) (12 + 6 * i + 1)) : Nat)) m (by omega) (s := ((0 : Int32), M)) ⟨rfl, fun _ _ _ => rfl, rfl, fun _ _ _ _ _ => rfl, fun q hq => absurd hq (Nat.not_lt_zero _)⟩ (by
    intro k st hk hst
    obtain ⟨ka, X⟩ := st
    obtain ⟨s1, x1, x2, x3, x4⟩ := hst
    have s1 : ka = J (k : Nat) := s1
    have x1 : ∀ r j, r ≠ 7 → X.1 r j = M.1 r j := x1
    have x3 : ∀ q p, q < 8 → p < 8 → p ≠ i → X.1 7 (8 * q + p) = M.1 7 (8 * q + p) := x3
    have x4 : ∀ q, q < k → X.1 7 (8 * q + i) = J (ls sp (vn (M.1 1) (12 + 6 * q + 1)) (vn (M.1 1) (12 + 6 * i + 1)) : Nat) := x4
    subst s1
    show ok (fpX6_findYields_l75s (J (i : Nat)) (J (k : Nat)) X) _
    unfold fpX6_findYields_l75s
    rw [x1 1 0 (by decide), hm]
    rcases Nat.lt_or_eq_of_le hk with hkm | hkm
    · refine okF (fun z => by have := (leN (by omega) (by omega)).1 z; omega) ?_
      have i1 : fpX6_its (J (k : Nat)) (1 : Int32) X = some (J (vn (M.1 1) (12 + 6 * k + 1) : Nat)) := (itsE (w := 1) (by omega) (by decide)).trans (by rw [x1 _ _ (by decide), ← (ml k (by omega)).1])
      have i2 : fpX6_its (J (i : Nat)) (1 : Int32) X = some (J (vn (M.1 1) (12 + 6 * i + 1) : Nat)) := (itsE (w := 1) (by omega) (by decide)).trans (by rw [x1 _ _ (by decide), ← (ml i (by omega)).1])
      have b1 := (ml k (by omega)).2
      have b2 := (ml i (by omega)).2
      have hl : ls sp (vn (M.1 1) (12 + 6 * k + 1)) (vn (M.1 1) (12 + 6 * i + 1)) < 100 := ls_lt b1 b2
      have lf : fpX6_left (9999 : Int32) (J (vn (M.1 1) (12 + 6 * k + 1) : Nat)) (J (vn (M.1 1) (12 + 6 * i + 1) : Nat)) X = some (J ((9999 - ls sp (vn (M.1 1) (12 + 6 * k + 1)) (vn (M.1 1) (12 + 6 * i + 1)) : Nat) : Int)) := leftY (w := 9999) (by rw [x1 1 3 (by decide)]; exact hsp) (by decide) (by omega) (by omega) (by omega)
      have e8 : (8 : Int32) * J (k : Nat) + J (i : Nat) = J ((8 * k + i : Nat) : Int) := by
        rw [show (8 : Int32) = J 8 from rfl, J_mul, J_add]
        rfl
      have ev : (9999 : Int32) - J ((9999 - ls sp (vn (M.1 1) (12 + 6 * k + 1)) (vn (M.1 1) (12 + 6 * i + 1)) : Nat) : Int) = J (ls sp (vn (M.1 1) (12 + 6 * k + 1)) (vn (M.1 1) (12 + 6 * i + 1)) : Nat) := by
        rw [show (9999 : Int32) = J ((9999 : Nat) : Int) from rfl, subN (by omega), show 9999 - (9999 - ls sp (vn (M.1 1) (12 + 6 * k + 1)) (vn (M.1 1) (12 + 6 * i + 1))) = ls sp (vn (M.1 1) (12 + 6 * k + 1)) (vn (M.1 1) (12 + 6 * i + 1)) by omega]
      refine okE i1 (okE i2 (okE lf ?_))
      rw [e8, ev]
      refine okE (inbJ (show 8 * k + i < 64 by omega) (by decide)) (okL (okL (okS ⟨hkm, J_succ k, fun r j hr => (wrM_nr hr).trans (x1 r j hr), x2, fun q p hq hp hpi => (wrM_nj (by omega)).trans (x3 q p hq hp hpi), fun q hq => ?_⟩)))
      show (wrM X 7 (8 * k + i) _).1 7 (8 * q + i) = _
      rcases Nat.lt_or_eq_of_le (Nat.le_of_lt_succ hq) with z | z
      · rw [wrM_nj (by omega)]
        exact x4 q z
      · subst z
        exact wrM_eq
    · subst hkm
      exact okT ((leN (by omega) (by omega)).2 (Nat.le_refl _)) (okS ⟨x1, x2, x3, x4⟩))
  exact ⟨N, e, f1, f2, f3, f4⟩
