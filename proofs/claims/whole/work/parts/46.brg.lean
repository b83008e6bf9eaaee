/-! What a told plan brings: row; starts -/
theorem enc_ne {q : Nat} (h : q < 1000000) : ¬ J (q : Nat) = (-1 : Int32) := fun z => by
  rw [J_m1, eqJ (by omega) (by omega) (by omega) (by omega)] at z
  omega
theorem nn0 {q : Nat} (h : q < 1000000) : (0 : Int32) ≤ J (q : Nat) := (leN (a := 0) (by omega) (by omega)).2 (Nat.zero_le _)
theorem rn_le {P : Pr} {p w q : Nat} (h : rn P p w = some q) : q ≤ prom P := by
  obtain ⟨-, -, rfl⟩ := rn_some h
  omega
def bst (P : Pr) (t : Nat × Nat) (p : Nat) : Nat × Nat := (pml P p, (rn P p (cr P t.2 t.1 (pml P p))).getD (cr P t.2 t.1 (pml P p)))
def bi (P : Pr) (s w : Nat) (pl : Nat → Nat) (bt : Int32) : Nat → Nat × Nat
  | 0 => (s, w)
  | i + 1 => if J (i : Nat) = bt then bi P s w pl bt i else bst P (bi P s w pl bt i) (pl i)
def brg (P : Pr) (s w : Nat) (pl : Nat → Nat) (bt : Int32) (n : Nat) : Nat := cr P (bi P s w pl bt n).2 (bi P s w pl bt n).1 0
theorem bst_lt {P : Pr} {t : Nat × Nat} {p : Nat} (h : t.2 < 1000) (hr : prom P < 1000) : (bst P t p).2 < 1000 := by
  have hc : cr P t.2 t.1 (pml P p) ≤ t.2 := by unfold cr; omega
  unfold bst
  cases hr' : rn P p (cr P t.2 t.1 (pml P p)) with
  | none => show cr P t.2 t.1 (pml P p) < 1000; omega
  | some q =>
    have := rn_le hr'
    show q < 1000
    omega
theorem bi_lt {P : Pr} {s w : Nat} {pl : Nat → Nat} {bt : Int32} (hw : w < 1000) (hr : prom P < 1000) : ∀ i, (bi P s w pl bt i).2 < 1000
  | 0 => hw
  | i + 1 => by
    unfold bi
    by_cases hc : J (i : Nat) = bt
    · rw [if_pos hc]; exact bi_lt hw hr i
    · rw [if_neg hc]; exact bst_lt (bi_lt hw hr i) hr
theorem bi_1 {P : Pr} {s w n m : Nat} {pl : Nat → Nat} {bt : Int32} (hs : s < 1000) (hm : ∀ p, p < m → pml P p < 100) (hp : ∀ i, i < n → pl i < m) : ∀ i, i ≤ n → (bi P s w pl bt i).1 < 1000
  | 0, _ => hs
  | i + 1, h => by
    unfold bi
    by_cases hc : J (i : Nat) = bt
    · rw [if_pos hc]; exact bi_1 hs hm hp i (by omega)
    · rw [if_neg hc]
      exact Nat.lt_trans (hm _ (hp i (by omega))) (by decide)
theorem brg_lt {P : Pr} {s w n : Nat} {pl : Nat → Nat} {bt : Int32} (hw : w < 1000) (hr : prom P < 1000) : brg P s w pl bt n < 1000 := by
  have := bi_lt (s := s) (pl := pl) (bt := bt) hw hr n
  unfold brg cr
  omega
theorem plb_e {M : Me} {m s n w : Nat} {pl : Nat → Nat} {bt : Int32} {P : Pr} (h : PX M m s P) (hn : n ≤ 8) (h1 : M.1 46 1 = J (n : Nat)) (hp : ∀ i, i < n → pl i < m ∧ M.1 47 i = J (pl i : Nat)) (hw : w < 1000) : fpX0_planBrings (J (w : Nat)) bt M = some (J (brg P s w pl bt n : Nat)) := by
  have m8 := h.1
  have rm := h.2.2.2.2.1
  have hb := bi_lt (s := s) (pl := pl) (bt := bt) hw rm
  obtain ⟨r, e, x, rfl, q2, q3⟩ := lp_ok (step := fpX0_planBrings_l9 bt M) (Q := fun r => ∃ x : Nat, r = (J (x : Nat), J ((bi P s w pl bt n).2 : Nat)) ∧ okp m x ∧ plc P s x = (bi P s w pl bt n).1) (fun i st => ∃ x : Nat, st = (J (x : Nat), J ((bi P s w pl bt i).2 : Nat), J (i : Nat)) ∧ okp m x ∧ plc P s x = (bi P s w pl bt i).1) n (by omega) (s := ((8 : Int32), J (w : Nat), (0 : Int32))) ⟨8, rfl, Or.inr (Or.inl rfl), rfl⟩ (by
    intro i st hi hst
    obtain ⟨x, rfl, x1, x2⟩ := hst
    show ok (fpX0_planBrings_l9s bt (J (x : Nat)) (J ((bi P s w pl bt i).2 : Nat)) (J (i : Nat)) M) _
    unfold fpX0_planBrings_l9s
    rw [h1]
    rcases Nat.lt_or_eq_of_le hi with hin | hin
    · refine okF (fun z => by have := (leN (by omega) (by omega)).1 z; omega) ?_
      by_cases hc : J (i : Nat) = bt
      · have eb : bi P s w pl bt (i + 1) = bi P s w pl bt i := if_pos hc
        refine okT hc (okL (okS ⟨hin, x, ?_, x1, ?_⟩))
        · rw [eb, J_succ]
        · rw [eb]; exact x2
      · have eb : bi P s w pl bt (i + 1) = bst P (bi P s w pl bt i) (pl i) := if_neg hc
        obtain ⟨p1, p2⟩ := hp i hin
        have hbi := hb i
        refine okF hc (okE (inbJ (show i < 8 by omega) (by decide)) (okL ?_))
        rw [p2]
        have ec := car_e (x := x) (y := pl i) (w := (bi P s w pl bt i).2) h x1 (Or.inl p1) (by omega)
        rw [plc_p (x := pl i) (by omega), x2] at ec
        refine okE ec ?_
        have hcr : cr P (bi P s w pl bt i).2 (bi P s w pl bt i).1 (pml P (pl i)) ≤ (bi P s w pl bt i).2 := by unfold cr; omega
        have er := ran_e (o := some (cr P (bi P s w pl bt i).2 (bi P s w pl bt i).1 (pml P (pl i)))) h p1 (fun z hz => by cases hz; omega)
        have er : fpX0_ran (J (pl i : Nat)) (J (cr P (bi P s w pl bt i).2 (bi P s w pl bt i).1 (pml P (pl i)) : Nat)) M = some (enc (rn P (pl i) (cr P (bi P s w pl bt i).2 (bi P s w pl bt i).1 (pml P (pl i))))) := er
        refine okE er ?_
        cases hr : rn P (pl i) (cr P (bi P s w pl bt i).2 (bi P s w pl bt i).1 (pml P (pl i))) with
        | none =>
          refine okT rfl (okL (okS ⟨hin, pl i, ?_, Or.inl p1, ?_⟩))
          · rw [eb, J_succ]; unfold bst; rw [hr]; rfl
          · rw [eb, plc_p (by omega)]; rfl
        | some q =>
          have := rn_le hr
          refine okF (enc_ne (by omega)) (okL (okS ⟨hin, pl i, ?_, Or.inl p1, ?_⟩))
          · rw [eb, J_succ]; unfold bst; rw [hr]; rfl
          · rw [eb, plc_p (by omega)]; rfl
    · subst hin
      exact okT ((leN (by omega) (by omega)).2 (Nat.le_refl _)) (okS ⟨x, rfl, x1, x2⟩))
  unfold fpX0_planBrings
  rw [e, Option.bind_some]
  have ec := car_e (x := x) (y := 9) (w := (bi P s w pl bt n).2) h q2 (Or.inr (Or.inr rfl)) (by have := hb n; omega)
  rw [q3] at ec
  have ec : fpX0_carried (J ((bi P s w pl bt n).2 : Nat)) (J (x : Nat)) (9 : Int32) M = some (J (brg P s w pl bt n : Nat)) := ec
  show (fpX0_carried (J ((bi P s w pl bt n).2 : Nat)) (J (x : Nat)) (9 : Int32) M).bind _ = _
  rw [ec]
  rfl
theorem brY_e {M : Me} {m s n w : Nat} {pl : Nat → Nat} {bt : Int32} {P : Pr} (h : PY M m P) (ha : M.1 1 7 = J (s : Nat)) (s9 : s < 1000) (hn : n ≤ 40) (hp : ∀ i, i < n → pl i < m ∧ M.1 9 i = J (pl i : Nat)) (hw : w < 1000) : fpX6_brings (J (w : Nat)) (J (n : Nat)) bt M = some (J (brg P s w pl bt n : Nat)) := by
  have m8 := h.1
  have rm := h.2.2.2.2.1
  have hb := bi_lt (s := s) (pl := pl) (bt := bt) hw rm
  have ml : ∀ p, p < m → pml P p < 100 := fun p hp => (h.2.2.2.2.2.2.2.1 p hp).1
  have hb1 := bi_1 (P := P) (w := w) (n := n) (bt := bt) s9 ml (fun i hi => (hp i hi).1)
  obtain ⟨r, e, rfl⟩ := lp_ok (step := fpX6_brings_l15 (J (n : Nat)) bt M) (Q := fun r => r = (J ((bi P s w pl bt n).1 : Nat), J ((bi P s w pl bt n).2 : Nat))) (fun i st => st = (J ((bi P s w pl bt i).1 : Nat), J ((bi P s w pl bt i).2 : Nat), J (i : Nat))) n (by omega) (s := (J (s : Nat), J (w : Nat), (0 : Int32))) rfl (by
    intro i st hi hst
    subst hst
    show ok (fpX6_brings_l15s (J (n : Nat)) bt (J ((bi P s w pl bt i).1 : Nat)) (J ((bi P s w pl bt i).2 : Nat)) (J (i : Nat)) M) _
    unfold fpX6_brings_l15s
    rcases Nat.lt_or_eq_of_le hi with hin | hin
    · refine okF (fun z => by have := (leN (by omega) (by omega)).1 z; omega) ?_
      by_cases hc : J (i : Nat) = bt
      · have eb : bi P s w pl bt (i + 1) = bi P s w pl bt i := if_pos hc
        refine okT hc (okL (okS ⟨hin, ?_⟩))
        rw [eb, J_succ]
      · have eb : bi P s w pl bt (i + 1) = bst P (bi P s w pl bt i) (pl i) := if_neg hc
        obtain ⟨p1, p2⟩ := hp i hin
        have hbi := hb i
        have hbi1 := hb1 i hi
        refine okF hc (okE (inbJ (show i < 40 by omega) (by decide)) (okL ?_))
        rw [p2]
        have el := left_e (w := (bi P s w pl bt i).2) (a := (bi P s w pl bt i).1) (b := pml P (pl i)) h (by omega) (by omega) (by have := ml _ p1; omega)
        refine okE (itM_e h p1) (okE el (okE (itM_e h p1) ?_))
        have hcr : cr P (bi P s w pl bt i).2 (bi P s w pl bt i).1 (pml P (pl i)) ≤ (bi P s w pl bt i).2 := by unfold cr; omega
        have er := ranY_e (o := some (cr P (bi P s w pl bt i).2 (bi P s w pl bt i).1 (pml P (pl i)))) h p1 (fun z hz => by cases hz; omega)
        have er : fpX6_ran (J (cr P (bi P s w pl bt i).2 (bi P s w pl bt i).1 (pml P (pl i)) : Nat)) (J (pl i : Nat)) M = some (enc (rn P (pl i) (cr P (bi P s w pl bt i).2 (bi P s w pl bt i).1 (pml P (pl i))))) := er
        refine okE er ?_
        cases hr : rn P (pl i) (cr P (bi P s w pl bt i).2 (bi P s w pl bt i).1 (pml P (pl i))) with
        | none =>
          refine okF (show ¬ (0 : Int32) ≤ (-1 : Int32) by decide) (okL (okS ⟨hin, ?_⟩))
          rw [eb, J_succ]; unfold bst; rw [hr]; rfl
        | some q =>
          have := rn_le hr
          refine okT (nn0 (by omega)) (okL (okS ⟨hin, ?_⟩))
          rw [eb, J_succ]; unfold bst; rw [hr]; rfl
    · subst hin
      exact okT ((leN (by omega) (by omega)).2 (Nat.le_refl _)) (okS rfl))
  unfold fpX6_brings letv
  dsimp only
  rw [ha, e, Option.bind_some]
  have el := left_e (w := (bi P s w pl bt n).2) (a := (bi P s w pl bt n).1) (b := 0) h (by have := hb n; omega) (by have := hb1 n (Nat.le_refl _); omega) (by decide)
  have el : fpX6_left (J ((bi P s w pl bt n).2 : Nat)) (J ((bi P s w pl bt n).1 : Nat)) (0 : Int32) M = some (J (brg P s w pl bt n : Nat)) := el
  show (fpX6_left (J ((bi P s w pl bt n).2 : Nat)) (J ((bi P s w pl bt n).1 : Nat)) (0 : Int32) M).bind _ = _
  rw [el]
  rfl
theorem PX.sm {M N : Me} {m s : Nat} {P : Pr} (h : PX M m s P) (f1 : ∀ j, j ≠ 1 → N.1 46 j = M.1 46 j) (f : ∀ r j, r = 49 ∨ r = 50 ∨ r = 51 → N.1 r j = M.1 r j) : PX N m s P := by
  obtain ⟨h1, h2, h3, h4, h5, h6, h7, h8⟩ := h
  refine ⟨h1, by rw [f1 _ (by decide)]; exact h2, h3, by rw [f1 _ (by decide)]; exact h4, h5, by rw [f1 _ (by decide)]; exact h6, fun p hp => ?_, fun x y hx hy => ?_⟩
  · rw [f _ _ (by omega), f _ _ (by omega)]
    exact h7 p hp
  · rw [f _ _ (by omega)]
    exact h8 x y hx hy
theorem PY.sm {M N : Me} {m : Nat} {P : Pr} (h : PY M m P) (f0 : N.1 0 8 = M.1 0 8) (f : ∀ r j, r = 1 ∨ r = 5 ∨ r = 6 ∨ r = 7 → N.1 r j = M.1 r j) : PY N m P := by
  obtain ⟨h1, h2, h3, h4, h5, h6, h7, h8, sp, h9, h10, h11, h12⟩ := h
  refine ⟨h1, by rw [f _ _ (by omega)]; exact h2, h3, by rw [f0]; exact h4, h5, by rw [f _ _ (by omega)]; exact h6, fun p hp => ?_, fun p hp => ?_, sp, h9, by rw [f _ _ (by omega)]; exact h10, h11, fun q p hq hp => ?_⟩
  · rw [f _ _ (by omega), f _ _ (by omega)]; exact h7 p hp
  · rw [f _ _ (by omega)]; exact h8 p hp
  · rw [f _ _ (by omega)]; exact h12 q p hq hp
theorem pla_e {M : Me} {m s : Nat} {P : Pr} (h : PX M m s P) : ∃ N, fpX0_planAll M = some N ∧ (∀ r j, r ≠ 46 → r ≠ 47 → N.1 r j = M.1 r j) ∧ (∀ j, j ≠ 1 → N.1 46 j = M.1 46 j) ∧ N.1 46 1 = J (m : Nat) ∧ ∀ i, i < m → N.1 47 i = J (i : Nat) := by
  have m8 := h.1
  obtain ⟨N, e, f1, f2⟩ := lp_ok (step := fpX0_planAll_l2) (Q := fun N => (∀ r j, r ≠ 47 → N.1 r j = M.1 r j) ∧ ∀ i, i < m → N.1 47 i = J (i : Nat)) (fun i st => st.1 = J (i : Nat) ∧ (∀ r j, r ≠ 47 → st.2.1 r j = M.1 r j) ∧ ∀ k, k < i → st.2.1 47 k = J (k : Nat)) m (by omega) (s := ((0 : Int32), M)) ⟨rfl, fun _ _ _ => rfl, fun k hk => absurd hk (Nat.not_lt_zero _)⟩ (by
    intro i st hi hst
    obtain ⟨ia, X⟩ := st
    obtain ⟨s1, x1, x2⟩ := hst
    have s1 : ia = J (i : Nat) := s1
    have x1 : ∀ r j, r ≠ 47 → X.1 r j = M.1 r j := x1
    have x2 : ∀ k, k < i → X.1 47 k = J (k : Nat) := x2
    subst s1
    show ok (fpX0_planAll_l2s (J (i : Nat)) X) _
    unfold fpX0_planAll_l2s
    rw [x1 46 2 (by decide), h.2.1]
    rcases Nat.lt_or_eq_of_le hi with him | him
    · refine okF (fun z => by have := (leN (by omega) (by omega)).1 z; omega) (okE (inbJ (show i < 8 by omega) (by decide)) (okL (okL (okS ⟨him, J_succ i, fun r j hr => (wrM_nr hr).trans (x1 r j hr), fun k hk => ?_⟩))))
      show (wrM X 47 i (J (i : Nat))).1 47 k = _
      rcases Nat.lt_or_eq_of_le (Nat.le_of_lt_succ hk) with z | z
      · rw [wrM_nj (by omega)]; exact x2 k z
      · subst z
        exact wrM_eq
    · subst him
      exact okT ((leN (by omega) (by omega)).2 (Nat.le_refl _)) (okS ⟨x1, x2⟩))
  refine ⟨wrM N 46 1 (N.1 46 2), ?_, fun r j h1 h2 => (wrM_nr h1).trans (f1 r j h2), fun j hj => (wrM_nj hj).trans (f1 46 j (by decide)), ?_, fun i hi => (wrM_nr (by decide)).trans (f2 i hi)⟩
  · unfold fpX0_planAll
    rw [e]
    rfl
  · rw [wrM_eq, f1 46 2 (by decide)]
    exact h.2.1
theorem s12 : sim12 Rr := by
  intro n M1 M2 a hn R
  show SM n _ _
  unfold fpX5_row fpX6_row
  have k2 := R.2.k2
  have k7 := R.2.k7
  by_cases h : 0 ≤ a.toInt ∧ a.toInt ≤ (M2.1 1 2).toInt
  · refine .t1 ((nc0 R).2 h) (.f2 (fun z => iw0.1 z h) ?_)
    obtain ⟨w, rfl, hw'⟩ := ofI h.1
    obtain ⟨A, e1, f1, mA, hA, -⟩ := layR R (by omega)
    obtain ⟨N, e2, g1, g2, g3, g4⟩ := pla_e hA
    have m8 := hA.1
    have hN : PX N _ _ _ := hA.sm g2 (fun r j hr => g1 r j (by omega) (by omega))
    have e3 := plb_e (w := w) (bt := -1) (pl := fun i => i) hN m8 g3 (fun i hi => ⟨hi, g4 i hi⟩) (by omega)
    refine .b1 e1 (.b1 e2 (.b1 e3 ?_))
    obtain ⟨D, e4, d1, hD⟩ := fy_e R.2 (by omega)
    obtain ⟨B, eB, b1, b2⟩ := lp_ok (step := fpX6_row_l21 (J (w : Nat))) (Q := fun N => (∀ r j, r ≠ 9 → N.1 r j = D.1 r j) ∧ ∀ i, i < vn (M2.1 1) 0 → N.1 9 i = J (i : Nat)) (fun i st => st.1 = J (i : Nat) ∧ (∀ r j, r ≠ 9 → st.2.1 r j = D.1 r j) ∧ ∀ k, k < i → st.2.1 9 k = J (k : Nat)) (vn (M2.1 1) 0) (by omega) (s := ((0 : Int32), D)) ⟨rfl, fun _ _ _ => rfl, fun k hk => absurd hk (Nat.not_lt_zero _)⟩ (by
      intro i st hi hst
      obtain ⟨ia, X⟩ := st
      obtain ⟨s1, x1, x2⟩ := hst
      have s1 : ia = J (i : Nat) := s1
      have x1 : ∀ r j, r ≠ 9 → X.1 r j = D.1 r j := x1
      have x2 : ∀ k, k < i → X.1 9 k = J (k : Nat) := x2
      subst s1
      show ok (fpX6_row_l21s (J (w : Nat)) (J (i : Nat)) X) _
      unfold fpX6_row_l21s
      rw [x1 1 0 (by decide), hD.2.1]
      rcases Nat.lt_or_eq_of_le hi with him | him
      · refine okF (fun z => by have := (leN (by omega) (by omega)).1 z; omega) (okE (inbJ (show i < 40 by omega) (by decide)) (okL (okL (okS ⟨him, J_succ i, fun r j hr => (wrM_nr hr).trans (x1 r j hr), fun k hk => ?_⟩))))
        show (wrM X 9 i (J (i : Nat))).1 9 k = _
        rcases Nat.lt_or_eq_of_le (Nat.le_of_lt_succ hk) with z | z
        · rw [wrM_nj (by omega)]; exact x2 k z
        · subst z
          exact wrM_eq
      · subst him
        exact okT ((leN (by omega) (by omega)).2 (Nat.le_refl _)) (okS ⟨x1, x2⟩))
    have hB : PY B _ _ := hD.sm (b1 0 8 (by decide)) (fun r j hr => b1 r j (by omega))
    have a7 : B.1 1 7 = J (vn (M2.1 1) 7 : Nat) := (b1 1 7 (by decide)).trans ((d1.1 1 7 (by decide) (by decide) (by decide) (by decide)).trans (vn_J k7.1))
    have e5 := brY_e (w := w) (bt := -1) (n := vn (M2.1 1) 0) (pl := fun i => i) hB a7 (by unfold vn; omega) (by omega) (fun i hi => ⟨hi, b2 i hi⟩) (by omega)
    refine .b2 e4 (.b2 eB ?_)
    rw [hB.2.1]
    refine .b2 e5 (.e rfl ?_)
    refine (R.H (fun r j hr => (g1 r j (by omega) (by omega)).trans (f1 r j (by omega))) (fun S hS l hl hb => by rw [g1 53 _ (by decide) (by decide)]; exact mA S hS l hl hb) ?_).mono (Nat.le_succ n)
    exact ⟨fun r j hr => (b1 r j (by omega)).trans (d1.1 r j (by omega) (by omega) (by omega) (by omega)), fun j h8 h12 => (b1 0 j (by decide)).trans (d1.2.1 j h8)⟩
  · exact .f1 (fun z => h ((nc0 R).1 z)) (.t2 (iw0.2 h) (.fi R 0 (by decide) rfl rfl))
theorem s18 : sim18 Rr := by
  intro n M1 M2 a hn R
  show SM n _ _
  unfold fpX5_starts fpX6_starts
  have k2 := R.2.k2
  have k7 := R.2.k7
  by_cases h : 0 ≤ a.toInt ∧ a.toInt ≤ (M2.1 1 2).toInt
  · refine .t1 ((nc0 R).2 h) (.f2 (fun z => iw0.1 z h) ?_)
    obtain ⟨w, rfl, hw'⟩ := ofI h.1
    obtain ⟨A, e1, f1, mA, hA, -⟩ := layR R (by omega)
    obtain ⟨D, e4, d1, hD⟩ := fy_e R.2 (by omega)
    have m8 := hA.1
    have a9 : vn (M2.1 1) 7 < 1000 := by unfold vn; omega
    have a7 : D.1 1 7 = J (vn (M2.1 1) 7 : Nat) := (d1.1 1 7 (by decide) (by decide) (by decide) (by decide)).trans (vn_J k7.1)
    have rm := hA.2.2.2.2.1
    obtain ⟨r1, r2, l1, l2, rfl⟩ := lpp (s1 := fpX0_firsts_l4 (J (w : Nat)) A) (s2 := fpX6_starts_l23 (J (w : Nat)) D) (Q := fun r1 r2 => r1 = r2) (fun i x y => ∃ T : Int32, x = (T, J (i : Nat)) ∧ y = (T, J (i : Nat))) (vn (M2.1 1) 0) (by omega) (x := ((0 : Int32), (0 : Int32))) (y := ((0 : Int32), (0 : Int32))) ⟨0, rfl, rfl⟩ (by
      intro i x y hi hxy
      obtain ⟨T, rfl, rfl⟩ := hxy
      show (∃ x' y', fpX0_firsts_l4s (J (w : Nat)) T (J (i : Nat)) A = some (.inl x') ∧ fpX6_starts_l23s (J (w : Nat)) T (J (i : Nat)) D = some (.inl y') ∧ _) ∨ (∃ r1 r2, fpX0_firsts_l4s (J (w : Nat)) T (J (i : Nat)) A = some (.inr r1) ∧ fpX6_starts_l23s (J (w : Nat)) T (J (i : Nat)) D = some (.inr r2) ∧ _)
      unfold fpX0_firsts_l4s fpX6_starts_l23s
      rw [hA.2.1, hD.2.1, a7]
      rcases Nat.lt_or_eq_of_le hi with him | him
      · have cn : ¬ J (vn (M2.1 1) 0 : Nat) ≤ J (i : Nat) := fun z => by have := (leN (by omega) (by omega)).1 z; omega
        rw [if_neg cn, if_neg cn]
        have ec := car_e (x := 8) (y := i) (w := w) hA (Or.inr (Or.inl rfl)) (Or.inl him) (by omega)
        rw [plc_p (x := i) (by omega)] at ec
        generalize hP : PR (M2.1 1) (vn (M2.1 1) 4) = P at hA hD ec
        generalize hs : vn (M2.1 1) 7 = s at hA ec a7 a9
        have ec : fpX0_carried (J (w : Nat)) (8 : Int32) (J (i : Nat)) A = some (J (cr P w s (pml P i) : Nat)) := ec
        have hcr : cr P w s (pml P i) ≤ w := by unfold cr; omega
        have er : fpX0_ran (J (i : Nat)) (J (cr P w s (pml P i) : Nat)) A = some (enc (rn P i (cr P w s (pml P i)))) := ran_e (o := some (cr P w s (pml P i))) hA him (fun z hz => by cases hz; omega)
        have el : fpX6_left (J (w : Nat)) (J (s : Nat)) (J (pml P i : Nat)) D = some (J (cr P w s (pml P i) : Nat)) := left_e hD (by omega) (by omega) (by have := (hD.2.2.2.2.2.2.2.1 i him).1; omega)
        have erY : fpX6_ran (J (cr P w s (pml P i) : Nat)) (J (i : Nat)) D = some (enc (rn P i (cr P w s (pml P i)))) := ranY_e (o := some (cr P w s (pml P i))) hD him (fun z hz => by cases hz; omega)
        rw [ec, Option.bind_some, er, Option.bind_some, itM_e hD him, Option.bind_some, el, Option.bind_some, erY, Option.bind_some, J_succ]
        unfold letv
        cases hr : rn P i (cr P w s (pml P i)) with
        | none =>
          rw [if_pos (show enc none = (-1 : Int32) from rfl), if_neg (show ¬ (0 : Int32) ≤ enc none by decide), show T ||| (0 : Int32) = T from Int32.or_zero]
          exact Or.inl ⟨_, _, rfl, rfl, him, T, rfl, rfl⟩
        | some q =>
          have := rn_le hr
          have rm2 := hA.2.2.2.2.1
          rw [if_neg (show ¬ enc (some q) = (-1 : Int32) from enc_ne (by omega)), if_pos (show (0 : Int32) ≤ enc (some q) from nn0 (by omega))]
          exact Or.inl ⟨_, _, rfl, rfl, him, _, rfl, rfl⟩
      · have cn : J (vn (M2.1 1) 0 : Nat) ≤ J (i : Nat) := (leN (by omega) (by omega)).2 (by omega)
        rw [if_pos cn, if_pos cn]
        exact Or.inr ⟨_, _, rfl, rfl, rfl⟩)
    have l1 : fpX0_firsts (J (w : Nat)) A = some r1 := by
      unfold fpX0_firsts
      rw [l1]
      rfl
    refine .b1 e1 (.b1 l1 (.b2 e4 (.b2 l2 (.e rfl ?_))))
    exact (R.H (fun r j hr => f1 r j (by omega)) mA d1.g.h).mono (Nat.le_succ n)
  · exact .f1 (fun z => h ((nc0 R).1 z)) (.t2 (iw0.2 h) (.fi R 0 (by decide) rfl rfl))
