/-! most -/
def fyG (M N : Me) : Prop := (∀ r j, r ≠ 0 → r ≠ 5 → r ≠ 6 → r ≠ 7 → r ≠ 8 → N.1 r j = M.1 r j) ∧ (∀ j, j ≠ 8 → N.1 0 j = M.1 0 j) ∧ N.2 = M.2
theorem mwY_e {M : Me} {n w : Nat} (hO : RO n (M.1 1)) (hn : n ≤ 1000) (hw : w < 1000) : ∃ N q, fpX6_mostWith (J (w : Nat)) M = some (J (q : Nat), N) ∧ fyG M N ∧ q < 1000 ∧ PY N (vn (M.1 1) 0) (PR (M.1 1) (vn (M.1 1) 4)) ∧ Bst (PR (M.1 1) (vn (M.1 1) 4)) 0 (vn (M.1 1) 7) w (pab (PR (M.1 1) (vn (M.1 1) 4))) (fun _ => True) (some q) := by
  obtain ⟨A, e1, ⟨f1, f2, f3⟩, hA⟩ := fy_e hO hn
  have k7 := hO.k7
  have A1 : A.1 1 = M.1 1 := funext fun j => f1 1 j (by decide) (by decide) (by decide) (by decide)
  have a7 : A.1 1 7 = J (vn (M.1 1) 7 : Nat) := by rw [A1]; exact vn_J k7.1
  have a9 : vn (M.1 1) 7 < 100 := by unfold vn; omega
  obtain ⟨N, o, e2, g1, g2, g3, g4⟩ := best_e (a := vn (M.1 1) 7) (w := w) (e := 0) (may := pab (PR (M.1 1) (vn (M.1 1) 4))) (cnt := -1) (C := fun _ => True) hA (by omega) hw (by decide) hA.2.2.1.1 hA.2.2.1.2 ⟨fun z => absurd z (by decide), fun z => absurd trivial z⟩ (fun S _ => ⟨fun _ => trivial, fun _ => Or.inl (by decide)⟩)
  obtain ⟨q, hq, -⟩ := g3.2 [] _ ⟨by simp, fun p hp => (by cases hp), trivial⟩ rfl
  subst hq
  refine ⟨N, q, ?_, ⟨fun r j h0 h5 h6 h7 h8 => (g1 r j h8).trans (f1 r j h0 h5 h6 h7), fun j hj => (g1 0 j (by decide)).trans (f2 j hj), g2.trans f3⟩, g4 q rfl, hA.same (fun r j hr => g1 r j hr), g3⟩
  unfold fpX6_mostWith
  rw [e1, Option.bind_some, a7, hA.2.2.2.1]
  have e2 : fpX6_bestFrom (J (vn (M.1 1) 7 : Nat)) (J (w : Nat)) (J (pab (PR (M.1 1) (vn (M.1 1) 4)) : Nat)) (-1 : Int32) (0 : Int32) A = some (J (q : Nat), N) := e2
  rw [e2]
  rfl
/-- a call of plans: the class's cells below 46 and the model's row, tape, sheets are as they were -/
theorem Rr.plan {n : Nat} {M1 M2 N1 N2 : Me} (R : Rr n M1 M2) (f1 : ∀ r j, r < 46 → N1.1 r j = M1.1 r j) (f2 : MT N1) (f3 : fyG M2 N2) : Rr (n + 1) N1 N2 :=
  (R.fr f1 f2 (fun r j hr => f3.1 r j (by omega) (by omega) (by omega) (by omega) (by omega)) (f3.2.1 4 (by decide)) (f3.2.1 15 (by decide))).mono (Nat.le_succ n)
theorem s13 : sim13 Rr := by
  intro n M1 M2 a hn R
  show SM n _ _
  unfold fpX5_most fpX6_most
  have k2 := R.2.k2
  have k4 := R.2.k4
  by_cases h : 0 ≤ a.toInt ∧ a.toInt ≤ (M2.1 1 2).toInt
  · refine .t1 ((nc0 R).2 h) (.f2 (fun z => iw0.1 z h) ?_)
    obtain ⟨w, rfl, hw'⟩ := ofI h.1
    have e8 : M1.1 1 8 = J (vn (M2.1 1) 4 : Nat) := (R.1.1 4 (by decide)).trans (vn_J k4.1)
    have d9 : vn (M2.1 1) 4 < 10 := by unfold vn; omega
    rw [e8]
    obtain ⟨A, e1, f1, hA, -⟩ := lay_e (d := vn (M2.1 1) 4) R.1.1 R.2 (by omega) (by omega)
    have mA : MT A := fun S hS l hl hb => by rw [f1 53 _ (by omega)]; exact R.1.2.2.2.2.2.2 S hS l hl hb
    obtain ⟨B, q, e2, g1, g2, -, -, g3⟩ := with_e (w := w) hA mA (by omega)
    obtain ⟨D, q', e3, g4, -, -, g5⟩ := mwY_e (w := w) R.2 (by omega) (by omega)
    have := g3.uniq g5
    cases this
    refine .b1 e1 (.b1 e2 (.b2 e3 (.e rfl (R.plan (fun r j hr => (g1 r j (by omega)).trans (f1 r j (by omega))) g2 g4))))
  · exact .f1 (fun z => h ((nc0 R).1 z)) (.t2 (iw0.2 h) (.fi R 0 (by decide) rfl rfl))
