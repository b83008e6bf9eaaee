/-! Texts: tokens -/
def rf (q : Nat → Bool) : Nat → Nat → Nat
  | 0, k => k
  | f + 1, k => if q k = true then rf q f (k + 1) else k
def rq (q : Nat → Bool) (L k : Nat) : Nat := rf q (L - k) k
theorem rq_end {q : Nat → Bool} {L k : Nat} (h : L ≤ k) : rq q L k = k := by
  unfold rq
  rw [Nat.sub_eq_zero_of_le h]
  rfl
theorem rq_s {q : Nat → Bool} {L k : Nat} (h : k < L) : rq q L k = if q k = true then rq q L (k + 1) else k := by
  unfold rq
  rw [show L - k = (L - (k + 1)) + 1 by omega]
  rfl
theorem rf_b (q : Nat → Bool) : ∀ f k, k ≤ rf q f k ∧ rf q f k ≤ k + f ∧ ∀ i, k ≤ i → i < rf q f k → q i = true
  | 0, k => ⟨Nat.le_refl _, Nat.le_refl _, fun i h1 h2 => by have h2 : i < k := h2; omega⟩
  | f + 1, k => by
    unfold rf
    by_cases c : q k = true
    · rw [if_pos c]
      obtain ⟨h1, h2, h3⟩ := rf_b q f (k + 1)
      refine ⟨by omega, by omega, fun i a b => ?_⟩
      rcases Nat.lt_or_eq_of_le a with z | z
      · exact h3 i z b
      · rw [← z]; exact c
    · rw [if_neg c]
      exact ⟨Nat.le_refl _, by omega, fun i a b => by omega⟩
theorem rq_b {q : Nat → Bool} {L k : Nat} (h : k ≤ L) : k ≤ rq q L k ∧ rq q L k ≤ L ∧ ∀ i, k ≤ i → i < rq q L k → q i = true := by
  obtain ⟨h1, h2, h3⟩ := rf_b q (L - k) k
  exact ⟨h1, by unfold rq; omega, h3⟩
def spT (T : Nat → Int32) (k : Nat) : Bool := decide (T k = 32)
def ltT (T : Nat → Int32) (k : Nat) : Bool := decide (97 ≤ (T k).toInt ∧ (T k).toInt ≤ 122)
def dgT (T : Nat → Int32) (k : Nat) : Bool := decide (48 ≤ (T k).toInt ∧ (T k).toInt ≤ 57)
def te (T : Nat → Int32) (L j : Nat) : Nat := if L ≤ j then j else if ltT T j = true then rq (ltT T) L j else if dgT T j = true then rq (dgT T) L j else j + 1
def kd (T : Nat → Int32) (L j : Nat) : Nat := if L ≤ j then 3 else if ltT T j = true then 0 else if dgT T j = true then 1 else if T j = 59 then 2 else 4
theorem te_b {T : Nat → Int32} {L j : Nat} (h : j ≤ L) : j ≤ te T L j ∧ te T L j ≤ L ∧ (j < L → j < te T L j) := by
  unfold te
  by_cases c : L ≤ j
  · rw [if_pos c]
    exact ⟨Nat.le_refl _, h, fun z => by omega⟩
  · rw [if_neg c]
    by_cases c1 : ltT T j = true
    · rw [if_pos c1]
      have a := rq_b (q := ltT T) h
      have b := rq_b (q := ltT T) (L := L) (k := j + 1) (by omega)
      have e := rq_s (q := ltT T) (show j < L by omega)
      rw [if_pos c1] at e
      exact ⟨a.1, a.2.1, fun _ => by omega⟩
    · rw [if_neg c1]
      by_cases c2 : dgT T j = true
      · rw [if_pos c2]
        have a := rq_b (q := dgT T) h
        have b := rq_b (q := dgT T) (L := L) (k := j + 1) (by omega)
        have e := rq_s (q := dgT T) (show j < L by omega)
        rw [if_pos c2] at e
        exact ⟨a.1, a.2.1, fun _ => by omega⟩
      · rw [if_neg c2]
        exact ⟨by omega, by omega, fun _ => by omega⟩
theorem lt_dg {T : Nat → Int32} {j : Nat} (h : ltT T j = true) : dgT T j = false := by
  unfold ltT at h
  unfold dgT
  simp only [decide_eq_true_eq] at h
  simp only [decide_eq_false_iff_not]
  omega
/-- a number as the class reads it, and as the model does -/
def dC (T : Nat → Int32) (j : Nat) : Nat → Nat
  | 0 => 0
  | i + 1 => min 1000 (10 * dC T j i + ((T (j + i)).toInt.toNat - 48))
def dM (T : Nat → Int32) (j : Nat) : Nat → Nat
  | 0 => 0
  | i + 1 => if 999 < dM T j i then dM T j i else 10 * dM T j i + ((T (j + i)).toInt.toNat - 48)
theorem dCM {T : Nat → Int32} {j : Nat} : ∀ i, (∀ k, k < i → dgT T (j + k) = true) → ((dC T j i = dM T j i ∧ dM T j i ≤ 999) ∨ (dC T j i = 1000 ∧ 999 < dM T j i)) ∧ dM T j i ≤ 10000 ∧ dC T j i ≤ 1000
  | 0, _ => by
    unfold dC dM
    omega
  | i + 1, h => by
    have ih := dCM (T := T) (j := j) i (fun k hk => h k (by omega))
    have hd := h i (by omega)
    unfold dgT at hd
    simp only [decide_eq_true_eq] at hd
    unfold dC dM
    by_cases c : 999 < dM T j i
    · rw [if_pos c]
      omega
    · rw [if_neg c]
      omega
section TX
variable {T : Nat → Int32} {L : Nat}
/-- the class's reader: length and bytes -/
def baX (T : Nat → Int32) (L : Nat) (M : Me) : Prop := L ≤ 120 ∧ M.1 34 1 = J (L : Nat) ∧ ∀ i, i < 120 → M.1 35 i = T i
def tkX (T : Nat → Int32) (L : Nat) (M : Me) (j e : Nat) : Prop := baX T L M ∧ M.1 34 2 = J (kd T L j : Nat) ∧ M.1 34 3 = J (j : Nat) ∧ M.1 34 4 = J (e : Nat) ∧ (kd T L j = 1 → M.1 34 5 = J (dC T j (e - j) : Nat))
theorem lcmp {x : Int32} {a : Nat} (ha : a < 2147483648) : (x < J (a : Nat)) ↔ x.toInt < a := by rw [Int32.lt_iff_toInt_lt, tJn ha]
theorem gcmp {x : Int32} {a : Nat} (ha : a < 2147483648) : (J (a : Nat) < x) ↔ (a : Int) < x.toInt := by rw [Int32.lt_iff_toInt_lt, tJn ha]
theorem isLX {M : Me} {k : Nat} (h : baX T L M) (hk : k < L) : fpX4_isLetter (J (k : Nat)) M = some (if ltT T k = true then 1 else 0) := by
  obtain ⟨h0, h1, h2⟩ := h
  unfold fpX4_isLetter
  rw [inbJ (show k < 120 by omega) (by decide), Option.bind_some, h2 k (by omega)]
  unfold ltT
  simp only [decide_eq_true_eq]
  by_cases c1 : (T k).toInt < 97
  · rw [if_pos (show T k < (97 : Int32) from (lcmp (a := 97) (by decide)).2 c1), if_neg (by omega)]
  · rw [if_neg (show ¬ T k < (97 : Int32) from fun z => c1 ((lcmp (a := 97) (by decide)).1 z))]
    by_cases c2 : 122 < (T k).toInt
    · rw [if_pos (show (122 : Int32) < T k from (gcmp (a := 122) (by decide)).2 c2), if_neg (by omega)]
    · rw [if_neg (show ¬ (122 : Int32) < T k from fun z => c2 ((gcmp (a := 122) (by decide)).1 z)), if_pos (by omega)]
theorem isDX {M : Me} {k : Nat} (h : baX T L M) (hk : k < L) : fpX4_isDigit (J (k : Nat)) M = some (if dgT T k = true then 1 else 0) := by
  obtain ⟨h0, h1, h2⟩ := h
  unfold fpX4_isDigit
  rw [inbJ (show k < 120 by omega) (by decide), Option.bind_some, h2 k (by omega)]
  unfold dgT
  simp only [decide_eq_true_eq]
  by_cases c1 : (T k).toInt < 48
  · rw [if_pos (show T k < (48 : Int32) from (lcmp (a := 48) (by decide)).2 c1), if_neg (by omega)]
  · rw [if_neg (show ¬ T k < (48 : Int32) from fun z => c1 ((lcmp (a := 48) (by decide)).1 z))]
    by_cases c2 : 57 < (T k).toInt
    · rw [if_pos (show (57 : Int32) < T k from (gcmp (a := 57) (by decide)).2 c2), if_neg (by omega)]
    · rw [if_neg (show ¬ (57 : Int32) < T k from fun z => c2 ((gcmp (a := 57) (by decide)).1 z)), if_pos (by omega)]
theorem baX.same {M N : Me} (h : baX T L M) (f1 : N.1 34 1 = M.1 34 1) (f : ∀ i, N.1 35 i = M.1 35 i) : baX T L N := ⟨h.1, f1.trans h.2.1, fun i hi => (f i).trans (h.2.2 i hi)⟩
def fr34 (M N : Me) : Prop := ∀ r i, r ≠ 34 → N.1 r i = M.1 r i
theorem skX {M : Me} {b : Nat} (h : baX T L M) (h3 : M.1 34 3 = J (b : Nat)) (hb : b ≤ L) : ∃ N, lp fpX4_next_l8 FU M = some N ∧ fr34 M N ∧ (∀ i, i ≠ 3 → N.1 34 i = M.1 34 i) ∧ N.1 34 3 = J (rq (spT T) L b : Nat) := by
  have L1 := h.1
  obtain ⟨N, e, f1, f2, f3⟩ := lp_ok (step := fpX4_next_l8) (Q := fun N => fr34 M N ∧ (∀ i, i ≠ 3 → N.1 34 i = M.1 34 i) ∧ N.1 34 3 = J (rq (spT T) L b : Nat)) (fun i X => b + i ≤ L ∧ fr34 M X ∧ (∀ i, i ≠ 3 → X.1 34 i = M.1 34 i) ∧ X.1 34 3 = J ((b + i : Nat) : Int) ∧ rq (spT T) L (b + i) = rq (spT T) L b) (L - b) (by omega) (s := M) ⟨by omega, fun _ _ _ => rfl, fun _ _ => rfl, h3, rfl⟩ (by
    intro i X hi hst
    obtain ⟨x0, x1, x2, x3, x4⟩ := hst
    have hX : baX T L X := h.same (x2 1 (by decide)) (fun i => x1 35 i (by decide))
    show ok (fpX4_next_l8s X) _
    unfold fpX4_next_l8s
    rw [hX.2.1, x3]
    by_cases c : b + i < L
    · refine okF (fun z => by have := (leN (by omega) (by omega)).1 z; omega) (okE (inbJ (show b + i < 120 by omega) (by decide)) ?_)
      rw [hX.2.2 _ (by omega)]
      have es := rq_s (q := spT T) c
      by_cases c1 : T (b + i) = 32
      · rw [if_pos (show spT T (b + i) = true by unfold spT; simp [c1])] at es
        refine okT c1 (okL ?_)
        rw [J_succ]
        refine okS ⟨by omega, by omega, fun r i hr => (wrM_nr hr).trans (x1 r i hr), fun i hi => (wrM_nj hi).trans (x2 i hi), wrM_eq, ?_⟩
        show rq (spT T) L (b + i + 1) = _
        rw [← es]; exact x4
      · rw [if_neg (show ¬ spT T (b + i) = true by unfold spT; simp [c1])] at es
        refine okF c1 (okS ⟨x1, x2, ?_⟩)
        rw [x3, ← x4, es]
    · refine okT ((leN (by omega) (by omega)).2 (by omega)) (okS ⟨x1, x2, ?_⟩)
      rw [x3, ← x4, rq_end (by omega)])
  exact ⟨N, e, f1, f2, f3⟩
theorem ltX {M : Me} {j : Nat} (h : baX T L M) (h4 : M.1 34 4 = J (j : Nat)) (hj : j ≤ L) : ∃ N, lp fpX4_next_l89 FU M = some N ∧ fr34 M N ∧ (∀ i, i ≠ 4 → N.1 34 i = M.1 34 i) ∧ N.1 34 4 = J (rq (ltT T) L j : Nat) := by
  have L1 := h.1
  obtain ⟨N, e, f1, f2, f3⟩ := lp_ok (step := fpX4_next_l89) (Q := fun N => fr34 M N ∧ (∀ i, i ≠ 4 → N.1 34 i = M.1 34 i) ∧ N.1 34 4 = J (rq (ltT T) L j : Nat)) (fun i X => j + i ≤ L ∧ fr34 M X ∧ (∀ i, i ≠ 4 → X.1 34 i = M.1 34 i) ∧ X.1 34 4 = J ((j + i : Nat) : Int) ∧ rq (ltT T) L (j + i) = rq (ltT T) L j) (L - j) (by omega) (s := M) ⟨by omega, fun _ _ _ => rfl, fun _ _ => rfl, h4, rfl⟩ (by
    intro i X hi hst
    obtain ⟨x0, x1, x2, x3, x4⟩ := hst
    have hX : baX T L X := h.same (x2 1 (by decide)) (fun i => x1 35 i (by decide))
    show ok (fpX4_next_l89s X) _
    unfold fpX4_next_l89s
    rw [hX.2.1, x3]
    by_cases c : j + i < L ∧ ltT T (j + i) = true
    · refine okF (fun z => by have := (leN (by omega) (by omega)).1 z; omega) (okE (isLX hX c.1) ?_)
      rw [if_pos c.2]
      have es := rq_s (q := ltT T) c.1
      rw [if_pos c.2] at es
      refine okF (by decide) (okL ?_)
      rw [J_succ]
      refine okS ⟨by omega, by omega, fun r i hr => (wrM_nr hr).trans (x1 r i hr), fun i hi => (wrM_nj hi).trans (x2 i hi), wrM_eq, ?_⟩
      show rq (ltT T) L (j + i + 1) = _
      rw [← es]; exact x4
    · have fin : X.1 34 4 = J (rq (ltT T) L j : Nat) := by
        rw [x3, ← x4]
        by_cases c1 : j + i < L
        · rw [rq_s c1, if_neg (fun z => c ⟨c1, z⟩)]
        · rw [rq_end (by omega)]
      by_cases c1 : j + i < L
      · refine okF (fun z => by have := (leN (by omega) (by omega)).1 z; omega) (okE (isLX hX c1) ?_)
        rw [if_neg (fun z => c ⟨c1, z⟩)]
        exact okT rfl (okS ⟨x1, x2, fin⟩)
      · exact okT ((leN (by omega) (by omega)).2 (by omega)) (okS ⟨x1, x2, fin⟩))
  exact ⟨N, e, f1, f2, f3⟩
theorem nuX {M : Me} {j : Nat} (h : baX T L M) (h4 : M.1 34 4 = J (j : Nat)) (hj : j ≤ L) : ∃ N, fpX4_nextNumber M = some N ∧ fr34 M N ∧ (∀ i, i ≠ 4 → i ≠ 5 → N.1 34 i = M.1 34 i) ∧ N.1 34 4 = J (rq (dgT T) L j : Nat) ∧ N.1 34 5 = J (dC T j (rq (dgT T) L j - j) : Nat) := by
  have L1 := h.1
  obtain ⟨N, e, f1, f2, f3, f4⟩ := lp_ok (step := fpX4_nextNumber_l5) (Q := fun N => fr34 M N ∧ (∀ i, i ≠ 4 → i ≠ 5 → N.1 34 i = M.1 34 i) ∧ N.1 34 4 = J (rq (dgT T) L j : Nat) ∧ N.1 34 5 = J (dC T j (rq (dgT T) L j - j) : Nat)) (fun i X => j + i ≤ L ∧ fr34 M X ∧ (∀ i, i ≠ 4 → i ≠ 5 → X.1 34 i = M.1 34 i) ∧ X.1 34 4 = J ((j + i : Nat) : Int) ∧ rq (dgT T) L (j + i) = rq (dgT T) L j ∧ X.1 34 5 = J (dC T j i : Nat) ∧ ∀ k, k < i → dgT T (j + k) = true) (L - j) (by omega) (s := wrM M 34 5 0) ⟨by omega, fun _ _ hr => wrM_nr hr, fun _ _ h5 => wrM_nj h5, (wrM_nj (by decide)).trans h4, rfl, wrM_eq, fun k hk => absurd hk (Nat.not_lt_zero _)⟩ (by
    intro i X hi hst
    obtain ⟨x0, x1, x2, x3, x4, x5, x6⟩ := hst
    have hX : baX T L X := h.same (x2 1 (by decide) (by decide)) (fun i => x1 35 i (by decide))
    show ok (fpX4_nextNumber_l5s X) _
    unfold fpX4_nextNumber_l5s
    rw [hX.2.1, x3]
    by_cases c : j + i < L ∧ dgT T (j + i) = true
    · refine okF (fun z => by have := (leN (by omega) (by omega)).1 z; omega) (okE (isDX hX c.1) ?_)
      rw [if_pos c.2]
      have es := rq_s (q := dgT T) c.1
      rw [if_pos c.2] at es
      have hd := c.2
      unfold dgT at hd
      simp only [decide_eq_true_eq] at hd
      refine okF (by decide) (okE (inbJ (show j + i < 120 by omega) (by decide)) (okL (okL ?_)))
      have hb := (dCM (T := T) (j := j) i x6).2.2
      have ev : fpJ9_min_7cf53 (1000 : Int32) (X.1 34 5 * (10 : Int32) + X.1 35 (j + i) - (48 : Int32)) = J (dC T j (i + 1) : Nat) := by
        rw [x5, hX.2.2 _ (by omega)]
        have et : T (j + i) = J ((T (j + i)).toInt) := (J_t _).symm
        have e1 : J (dC T j i : Nat) * (10 : Int32) + T (j + i) - (48 : Int32) = J ((10 * dC T j i + ((T (j + i)).toInt.toNat - 48) : Nat) : Int) := by
          rw [et, show (10 : Int32) = J 10 from rfl, show (48 : Int32) = J 48 from rfl, J_mul, J_add, J_sub, J_t]
          congr 1
          omega
        rw [e1]
        exact minN (a := 1000) (by omega) (by omega)
      rw [ev, wrM_nj (by decide), x3, J_succ]
      refine okS ⟨by omega, by omega, fun r i hr => (wrM_nr hr).trans ((wrM_nr hr).trans (x1 r i hr)), fun i h4 h5 => (wrM_nj h4).trans ((wrM_nj h5).trans (x2 i h4 h5)), wrM_eq, ?_, ?_, fun k hk => ?_⟩
      · show rq (dgT T) L (j + i + 1) = _
        rw [← es]; exact x4
      · rw [wrM_nj (by decide), wrM_eq]
      · rcases Nat.lt_or_eq_of_le (Nat.le_of_lt_succ hk) with z | z
        · exact x6 k z
        · rw [z]; exact c.2
    · have er : rq (dgT T) L j = j + i := by
        rw [← x4]
        by_cases c1 : j + i < L
        · rw [rq_s c1, if_neg (fun z => c ⟨c1, z⟩)]
        · rw [rq_end (by omega)]
      have f4 : X.1 34 4 = J (rq (dgT T) L j : Nat) := by rw [x3, er]
      have f5 : X.1 34 5 = J (dC T j (rq (dgT T) L j - j) : Nat) := by rw [x5, er, show j + i - j = i by omega]
      by_cases c1 : j + i < L
      · refine okF (fun z => by have := (leN (by omega) (by omega)).1 z; omega) (okE (isDX hX c1) ?_)
        rw [if_neg (fun z => c ⟨c1, z⟩)]
        exact okT rfl (okS ⟨x1, x2, f4, f5⟩)
      · exact okT ((leN (by omega) (by omega)).2 (by omega)) (okS ⟨x1, x2, f4, f5⟩))
  refine ⟨N, ?_, f1, f2, f3, f4⟩
  unfold fpX4_nextNumber letv
  dsimp only
  rw [e]
  rfl
/-- the class's next token -/
theorem next_e {M : Me} {b : Nat} (h : baX T L M) (h4 : M.1 34 4 = J (b : Nat)) (hb : b ≤ L) : ∃ N, fpX4_next M = some N ∧ fr34 M N ∧ tkX T L N (rq (spT T) L b) (te T L (rq (spT T) L b)) := by
  have L1 := h.1
  obtain ⟨X, e1, x1, x2, x3⟩ := skX (M := wrM M 34 3 (M.1 34 4)) (b := b) (h.same (wrM_nj (by decide)) (fun i => wrM_nr (by decide))) (by rw [wrM_eq]; exact h4) hb
  have jb := rq_b (q := spT T) hb
  generalize rq (spT T) L b = j at jb x3
  have hX : baX T L X := h.same ((x2 1 (by decide)).trans (wrM_nj (by decide))) (fun i => (x1 35 i (by decide)).trans (wrM_nr (by decide)))
  have fX : fr34 M X := fun r i hr => (x1 r i hr).trans (wrM_nr hr)
  generalize hY : wrM X 34 4 (X.1 34 3) = Y
  have Y4 : Y.1 34 4 = J (j : Nat) := by rw [← hY, wrM_eq]; exact x3
  have Yn : ∀ i, i ≠ 4 → Y.1 34 i = X.1 34 i := fun i hi => by rw [← hY]; exact wrM_nj hi
  have fY : fr34 M Y := fun r i hr => by rw [← hY, wrM_nr hr]; exact fX r i hr
  have Y3 : Y.1 34 3 = J (j : Nat) := (Yn 3 (by decide)).trans x3
  have hYb : baX T L Y := hX.same (Yn 1 (by decide)) (fun i => by rw [← hY]; exact wrM_nr (by decide))
  have main : ∃ N, fpX4_next_b46 X = some N ∧ fr34 M N ∧ tkX T L N j (te T L j) := by
    unfold fpX4_next_b46 letv
    dsimp only
    rw [hY, Y3, hYb.2.1]
    by_cases c : j < L
    · rw [if_pos ((ltN (by omega) (by omega)).2 c), isLX hYb c, Option.bind_some]
      by_cases c1 : ltT T j = true
      · rw [if_pos c1, if_neg (show ¬ (1 : Int32) = 0 by decide)]
        have ek : kd T L j = 0 := by unfold kd; rw [if_neg (by omega), if_pos c1]
        have ee : te T L j = rq (ltT T) L j := by unfold te; rw [if_neg (by omega), if_pos c1]
        obtain ⟨N, e2, n1, n2, n3⟩ := ltX (M := wrM Y 34 2 0) (j := j) (hYb.same (wrM_nj (by decide)) (fun i => wrM_nr (by decide))) ((wrM_nj (by decide)).trans Y4) (by omega)
        rw [e2]
        refine ⟨N, rfl, fun r i hr => (n1 r i hr).trans ((wrM_nr hr).trans (fY r i hr)), ⟨hYb.same ((n2 1 (by decide)).trans (wrM_nj (by decide))) (fun i => (n1 35 i (by decide)).trans (wrM_nr (by decide))), ?_, ?_, ?_, fun z => ?_⟩⟩
        · rw [n2 2 (by decide), wrM_eq, ek]; rfl
        · rw [n2 3 (by decide), wrM_nj (by decide)]; exact Y3
        · rw [n3, ee]
        · rw [ek] at z; cases z
      · rw [if_neg c1, if_pos (show (0 : Int32) = 0 from rfl), isDX hYb c, Option.bind_some]
        by_cases c2 : dgT T j = true
        · rw [if_pos c2, if_neg (show ¬ (1 : Int32) = 0 by decide)]
          have ek : kd T L j = 1 := by unfold kd; rw [if_neg (by omega), if_neg c1, if_pos c2]
          have ee : te T L j = rq (dgT T) L j := by unfold te; rw [if_neg (by omega), if_neg c1, if_pos c2]
          obtain ⟨N, e2, n1, n2, n3, n4⟩ := nuX (M := wrM Y 34 2 1) (j := j) (hYb.same (wrM_nj (by decide)) (fun i => wrM_nr (by decide))) ((wrM_nj (by decide)).trans Y4) (by omega)
          rw [e2]
          refine ⟨N, rfl, fun r i hr => (n1 r i hr).trans ((wrM_nr hr).trans (fY r i hr)), ⟨hYb.same ((n2 1 (by decide) (by decide)).trans (wrM_nj (by decide))) (fun i => (n1 35 i (by decide)).trans (wrM_nr (by decide))), ?_, ?_, ?_, fun z => ?_⟩⟩
          · rw [n2 2 (by decide) (by decide), wrM_eq, ek]; rfl
          · rw [n2 3 (by decide) (by decide), wrM_nj (by decide)]; exact Y3
          · rw [n3, ee]
          · rw [n4, ee]
        · rw [if_neg c2, if_pos (show (0 : Int32) = 0 from rfl), inbJ (show j < 120 by omega) (by decide), Option.bind_some, hYb.2.2 j (by omega)]
          have ee : te T L j = j + 1 := by unfold te; rw [if_neg (by omega), if_neg c1, if_neg c2]
          have b156 : ∀ t : Nat, kd T L j = t → t ≠ 1 → ∃ N, fpX4_next_b167 (J (t : Nat)) Y = some N ∧ fr34 M N ∧ tkX T L N j (te T L j) := fun t ek t1 => by
            unfold fpX4_next_b167 letv
            dsimp only
            refine ⟨_, rfl, fun r i hr => (wrM_nr hr).trans ((wrM_nr hr).trans (fY r i hr)), ⟨hYb.same ((wrM_nj (by decide)).trans (wrM_nj (by decide))) (fun i => (wrM_nr (by decide)).trans (wrM_nr (by decide))), ?_, ?_, ?_, fun z => ?_⟩⟩
            · rw [wrM_nj (by decide), wrM_eq, ek]
            · rw [wrM_nj (by decide), wrM_nj (by decide)]; exact Y3
            · rw [wrM_eq, wrM_nj (by decide), Y4, J_succ, ee]
            · exact absurd (ek.symm.trans z) t1
          by_cases c3 : T j = 59
          · rw [if_pos c3]
            exact b156 2 (by unfold kd; rw [if_neg (by omega), if_neg c1, if_neg c2, if_pos c3]) (by decide)
          · rw [if_neg c3]
            exact b156 4 (by unfold kd; rw [if_neg (by omega), if_neg c1, if_neg c2, if_neg c3]) (by decide)
    · rw [if_neg (fun z => c ((ltN (by omega) (by omega)).1 z))]
      have ek : kd T L j = 3 := by unfold kd; rw [if_pos (by omega)]
      have ee : te T L j = j := by unfold te; rw [if_pos (by omega)]
      refine ⟨_, rfl, fun r i hr => (wrM_nr hr).trans (fY r i hr), ⟨hYb.same (wrM_nj (by decide)) (fun i => wrM_nr (by decide)), ?_, ?_, ?_, fun z => ?_⟩⟩
      · rw [wrM_eq, ek]; rfl
      · rw [wrM_nj (by decide)]; exact Y3
      · rw [wrM_nj (by decide), ee]; exact Y4
      · rw [ek] at z; cases z
  obtain ⟨N, e2, n1, n2⟩ := main
  refine ⟨N, ?_, n1, n2⟩
  unfold fpX4_next letv
  dsimp only
  rw [e1]
  exact e2
end TX
