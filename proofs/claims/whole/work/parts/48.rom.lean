/-! The model's most where ROOM may be below WATER; room -/
def ROw (n : Nat) (s : Nat → Int32) : Prop := ∃ c : Int32, RO n (upd s 8 c)
theorem RO.w {n : Nat} {s : Nat → Int32} (h : RO n s) : ROw n s := ⟨s 8, by
  have : upd s 8 (s 8) = s := funext fun k => by
    by_cases e : k = 8
    · rw [e, upd_eq]
    · rw [upd_ne e]
  rw [this]
  exact h⟩
theorem ROw.k0 {n : Nat} {s : Nat → Int32} (h : ROw n s) : 0 ≤ (s 0).toInt ∧ (s 0).toInt ≤ 8 := by
  obtain ⟨c, h⟩ := h
  have := h.k0
  rw [upd_ne (by decide)] at this
  exact this
theorem ROw.k2 {n : Nat} {s : Nat → Int32} (h : ROw n s) : 1 ≤ (s 2).toInt ∧ (s 2).toInt ≤ 999 := by
  obtain ⟨c, h⟩ := h
  have := h.k2
  rw [upd_ne (by decide)] at this
  exact this
theorem ROw.k3 {n : Nat} {s : Nat → Int32} (h : ROw n s) : 0 ≤ (s 3).toInt ∧ (s 3).toInt ≤ 99 := by
  obtain ⟨c, h⟩ := h
  have := h.k3
  rw [upd_ne (by decide)] at this
  exact this
theorem ROw.k4 {n : Nat} {s : Nat → Int32} (h : ROw n s) : 0 ≤ (s 4).toInt ∧ (s 4).toInt ≤ 9 := by
  obtain ⟨c, h⟩ := h
  have := h.k4
  rw [upd_ne (by decide)] at this
  exact this
theorem ROw.k7 {n : Nat} {s : Nat → Int32} (h : ROw n s) : 0 ≤ (s 7).toInt ∧ (s 7).toInt ≤ 99 := by
  obtain ⟨c, h⟩ := h
  have := h.k7
  rw [upd_ne (by decide)] at this
  exact this
theorem ROw.p {n : Nat} {s : Nat → Int32} (h : ROw n s) {p w : Nat} (hp : p < 8) (hw : w < 6) : 0 ≤ (s (12 + 6 * p + w)).toInt ∧ (s (12 + 6 * p + w)).toInt ≤ [6, 99, 60, 11, (n : Int), 1].getD w 0 := by
  obtain ⟨c, h⟩ := h
  have := h.p hp hw
  rw [upd_ne (by omega)] at this
  exact this
theorem yP_u8 {s : Nat → Int32} {c : Int32} {d p : Nat} : yP (upd s 8 c) d p = yP s d p := by
  unfold yP vn
  rw [upd_ne (by omega), upd_ne (by omega), upd_ne (by omega), upd_ne (by decide)]
theorem nP_u8 {s : Nat → Int32} {c : Int32} {d p : Nat} : nP (upd s 8 c) d p = nP s d p := by
  unfold nP
  rw [yP_u8]
  unfold vn
  rw [upd_ne (by omega)]
theorem Yp_u8 {s : Nat → Int32} {c d : Int32} {p : Nat} : Yp (upd s 8 c) d p = Yp s d p := by
  unfold Yp
  rw [upd_ne (by omega), upd_ne (by omega), upd_ne (by omega), upd_ne (by decide)]
theorem Np_u8 {s : Nat → Int32} {c d : Int32} {p : Nat} : Np (upd s 8 c) d p = Np s d p := by
  unfold Np
  rw [Yp_u8, upd_ne (by omega)]
theorem yPw_le {n d p : Nat} {s : Nat → Int32} (h : ROw n s) (hp : p < 8) : yP s d p ≤ 63 := by
  obtain ⟨c, h⟩ := h
  rw [← yP_u8 (c := c)]
  exact yP_le h hp
theorem nPw_le {n d p : Nat} {s : Nat → Int32} (h : ROw n s) (hp : p < 8) : nP s d p ≤ 33 := by
  obtain ⟨c, h⟩ := h
  rw [← nP_u8 (c := c)]
  exact nP_le h hp
theorem yEw {n d p : Nat} {M : Me} (h : ROw n (M.1 1)) (hn : n ≤ 1000) (hp : p < 8) (hd : M.1 1 4 = J (d : Nat)) (hd9 : d < 1000000) : fpX6_yieldOf (J (p : Nat)) M = some (J (yP (M.1 1) d p : Nat)) := by
  obtain ⟨c, h⟩ := h
  rw [yY hp, hd, ← Yp_u8 (c := c), Yp_e h hn hp hd9, yP_u8]
theorem nEw {n d p : Nat} {M : Me} (h : ROw n (M.1 1)) (hn : n ≤ 1000) (hp : p < 8) (hd : M.1 1 4 = J (d : Nat)) (hd9 : d < 1000000) : fpX6_needOf (J (p : Nat)) M = some (J (nP (M.1 1) d p : Nat)) := by
  obtain ⟨c, h⟩ := h
  rw [nY hp, hd, ← Np_u8 (c := c), Np_e h hn hp hd9, nP_u8]
theorem fylw_e {M : Me} {n m i sp : Nat} (hO : ROw n (M.1 1)) (hm : M.1 1 0 = J (m : Nat)) (m8 : m ≤ 8) (hi : i < m) (hsp : M.1 1 3 = J (sp : Nat)) (sp9 : sp < 1000) : ∃ N, lp (fpX6_findYields_l75 (J (i : Nat))) FU ((0 : Int32), M) = some N ∧ (∀ r j, r ≠ 7 → N.1 r j = M.1 r j) ∧ N.2 = M.2 ∧ (∀ q p, q < 8 → p < 8 → p ≠ i → N.1 7 (8 * q + p) = M.1 7 (8 * q + p)) ∧ ∀ q, q < m → N.1 7 (8 * q + i) = J (ls sp (vn (M.1 1) (12 + 6 * q + 1)) (vn (M.1 1) (12 + 6 * i + 1)) : Nat) := by
  have ml : ∀ p, p < 8 → M.1 1 (12 + 6 * p + 1) = J (vn (M.1 1) (12 + 6 * p + 1) : Nat) ∧ vn (M.1 1) (12 + 6 * p + 1) < 100 := fun p hp => by
    have h : 0 ≤ (M.1 1 (12 + 6 * p + 1)).toInt ∧ (M.1 1 (12 + 6 * p + 1)).toInt ≤ 99 := hO.p hp (w := 1) (by decide)
    refine ⟨vn_J h.1, ?_⟩
    unfold vn
    omega
  obtain ⟨N, e, f1, f2, f3, f4⟩ := lp_ok (step := fpX6_findYields_l75 (J (i : Nat))) (Q := fun N => (∀ r j, r ≠ 7 → N.1 r j = M.1 r j) ∧ N.2 = M.2 ∧ (∀ q p, q < 8 → p < 8 → p ≠ i → N.1 7 (8 * q + p) = M.1 7 (8 * q + p)) ∧ ∀ q, q < m → N.1 7 (8 * q + i) = J (ls sp (vn (M.1 1) (12 + 6 * q + 1)) (vn (M.1 1) (12 + 6 * i + 1)) : Nat)) (fun k st => st.1 = J (k : Nat) ∧ (∀ r j, r ≠ 7 → st.2.1 r j = M.1 r j) ∧ st.2.2 = M.2 ∧ (∀ q p, q < 8 → p < 8 → p ≠ i → st.2.1 7 (8 * q + p) = M.1 7 (8 * q + p)) ∧ ∀ q, q < k → st.2.1 7 (8 * q + i) = J (ls sp (vn (M.1 1) (12 + 6 * q + 1)) (vn (M.1 1) (12 + 6 * i + 1)) : Nat)) m (by omega) (s := ((0 : Int32), M)) ⟨rfl, fun _ _ _ => rfl, rfl, fun _ _ _ _ _ => rfl, fun q hq => absurd hq (Nat.not_lt_zero _)⟩ (by
    intro k st hk hst
    obtain ⟨ka, X⟩ := st
    obtain ⟨s1, x1, x2, x3, x4⟩ := hst
    have s1 : ka = J (k : Nat) := s1
    have x1 : ∀ r j, r ≠ 7 → X.1 r j = M.1 r j := x1
    have x3 : ∀ q p, q < 8 → p < 8 → p ≠ i → X.1 7 (8 * q + p) = M.1 7 (8 * q + p) := x3
    have x4 : ∀ q, q < k → X.1 7 (8 * q + i) = J (ls sp (vn (M.1 1) (12 + 6 * q + 1)) (vn (M.1 1) (12 + 6 * i + 1)) : Nat) := x4
    subst s1
    show ok (fpX6_findYields_l75s (J (i : Nat)) (J (k : Nat)) X) _
    unfold fpX6_findYields_l75s
    rw [x1 1 0 (by decide), hm]
    rcases Nat.lt_or_eq_of_le hk with hkm | hkm
    · refine okF (fun z => by have := (leN (by omega) (by omega)).1 z; omega) ?_
      have i1 : fpX6_its (J (k : Nat)) (1 : Int32) X = some (J (vn (M.1 1) (12 + 6 * k + 1) : Nat)) := (itsE (w := 1) (by omega) (by decide)).trans (by rw [x1 _ _ (by decide), ← (ml k (by omega)).1])
      have i2 : fpX6_its (J (i : Nat)) (1 : Int32) X = some (J (vn (M.1 1) (12 + 6 * i + 1) : Nat)) := (itsE (w := 1) (by omega) (by decide)).trans (by rw [x1 _ _ (by decide), ← (ml i (by omega)).1])
      have b1 := (ml k (by omega)).2
      have b2 := (ml i (by omega)).2
      have hl : ls sp (vn (M.1 1) (12 + 6 * k + 1)) (vn (M.1 1) (12 + 6 * i + 1)) < 100 := ls_lt b1 b2
      have lf : fpX6_left (9999 : Int32) (J (vn (M.1 1) (12 + 6 * k + 1) : Nat)) (J (vn (M.1 1) (12 + 6 * i + 1) : Nat)) X = some (J ((9999 - ls sp (vn (M.1 1) (12 + 6 * k + 1)) (vn (M.1 1) (12 + 6 * i + 1)) : Nat) : Int)) := leftY (w := 9999) (by rw [x1 1 3 (by decide)]; exact hsp) (by decide) (by omega) (by omega) (by omega)
      have e8 : (8 : Int32) * J (k : Nat) + J (i : Nat) = J ((8 * k + i : Nat) : Int) := by
        rw [show (8 : Int32) = J 8 from rfl, J_mul, J_add]
        rfl
      have ev : (9999 : Int32) - J ((9999 - ls sp (vn (M.1 1) (12 + 6 * k + 1)) (vn (M.1 1) (12 + 6 * i + 1)) : Nat) : Int) = J (ls sp (vn (M.1 1) (12 + 6 * k + 1)) (vn (M.1 1) (12 + 6 * i + 1)) : Nat) := by
        rw [show (9999 : Int32) = J ((9999 : Nat) : Int) from rfl, subN (by omega), show 9999 - (9999 - ls sp (vn (M.1 1) (12 + 6 * k + 1)) (vn (M.1 1) (12 + 6 * i + 1))) = ls sp (vn (M.1 1) (12 + 6 * k + 1)) (vn (M.1 1) (12 + 6 * i + 1)) by omega]
      refine okE i1 (okE i2 (okE lf ?_))
      rw [e8, ev]
      refine okE (inbJ (show 8 * k + i < 64 by omega) (by decide)) (okL (okL (okS ⟨hkm, J_succ k, fun r j hr => (wrM_nr hr).trans (x1 r j hr), x2, fun q p hq hp hpi => (wrM_nj (by omega)).trans (x3 q p hq hp hpi), fun q hq => ?_⟩)))
      show (wrM X 7 (8 * k + i) _).1 7 (8 * q + i) = _
      rcases Nat.lt_or_eq_of_le (Nat.le_of_lt_succ hq) with z | z
      · rw [wrM_nj (by omega)]
        exact x4 q z
      · subst z
        exact wrM_eq
    · subst hkm
      exact okT ((leN (by omega) (by omega)).2 (Nat.le_refl _)) (okS ⟨x1, x2, x3, x4⟩))
  exact ⟨N, e, f1, f2, f3, f4⟩
theorem fyw_e {M : Me} {n : Nat} (hO : ROw n (M.1 1)) (hn : n ≤ 1000) : ∃ N, fpX6_findYields M = some N ∧ fyF M N ∧ PY N (vn (M.1 1) 0) (PR (M.1 1) (vn (M.1 1) 4)) := by
  have k0 := hO.k0
  have k2 := hO.k2
  have k3 := hO.k3
  have k4 := hO.k4
  have hm : M.1 1 0 = J (vn (M.1 1) 0 : Nat) := vn_J k0.1
  have m8 : vn (M.1 1) 0 ≤ 8 := by unfold vn; omega
  have hsp : M.1 1 3 = J (vn (M.1 1) 3 : Nat) := vn_J k3.1
  have sp9 : vn (M.1 1) 3 < 100 := by unfold vn; omega
  have rm9 : vn (M.1 1) 2 < 1000 := by unfold vn; omega
  have hd : M.1 1 4 = J (vn (M.1 1) 4 : Nat) := vn_J k4.1
  have d9 : vn (M.1 1) 4 < 10 := by unfold vn; omega
  generalize hm' : vn (M.1 1) 0 = m at hm m8
  generalize hs' : vn (M.1 1) 3 = sp at hsp sp9
  generalize hd' : vn (M.1 1) 4 = d at hd d9
  obtain ⟨N, e, ⟨f1, f2, f3⟩, f4, f5, f6⟩ := lp_ok (step := fpX6_findYields_l7) (Q := fun N => fyF M N ∧ N.1 0 8 = J (abl (M.1 1) d m : Nat) ∧ (∀ p, p < m → N.1 5 p = J (yP (M.1 1) d p : Nat) ∧ N.1 6 p = J (nP (M.1 1) d p : Nat)) ∧ ∀ q p, q < m → p < m → N.1 7 (8 * q + p) = J (ls sp (vn (M.1 1) (12 + 6 * q + 1)) (vn (M.1 1) (12 + 6 * p + 1)) : Nat)) (fun i st => st.1 = J (i : Nat) ∧ fyF M st.2 ∧ st.2.1 0 8 = J (abl (M.1 1) d i : Nat) ∧ (∀ p, p < i → st.2.1 5 p = J (yP (M.1 1) d p : Nat) ∧ st.2.1 6 p = J (nP (M.1 1) d p : Nat)) ∧ ∀ q p, q < m → p < i → st.2.1 7 (8 * q + p) = J (ls sp (vn (M.1 1) (12 + 6 * q + 1)) (vn (M.1 1) (12 + 6 * p + 1)) : Nat)) m (by omega) (s := ((0 : Int32), wrM M 0 8 0)) ⟨rfl, ⟨fun r j h0 _ _ _ => wrM_nr h0, fun j hj => wrM_nj hj, rfl⟩, wrM_eq, fun p hp => absurd hp (Nat.not_lt_zero _), fun q p _ hp => absurd hp (Nat.not_lt_zero _)⟩ (by
    intro i st hi hst
    obtain ⟨ia, X⟩ := st
    obtain ⟨s1, ⟨x1, x2, x2'⟩, x3, x4, x5⟩ := hst
    have s1 : ia = J (i : Nat) := s1
    have x1 : ∀ r j, r ≠ 0 → r ≠ 5 → r ≠ 6 → r ≠ 7 → X.1 r j = M.1 r j := x1
    have x2 : ∀ j, j ≠ 8 → X.1 0 j = M.1 0 j := x2
    have x2' : X.2 = M.2 := x2'
    have x3 : X.1 0 8 = J (abl (M.1 1) d i : Nat) := x3
    have x4 : ∀ p, p < i → X.1 5 p = J (yP (M.1 1) d p : Nat) ∧ X.1 6 p = J (nP (M.1 1) d p : Nat) := x4
    have x5 : ∀ q p, q < m → p < i → X.1 7 (8 * q + p) = J (ls sp (vn (M.1 1) (12 + 6 * q + 1)) (vn (M.1 1) (12 + 6 * p + 1)) : Nat) := x5
    subst s1
    have X1 : X.1 1 = M.1 1 := funext fun j => x1 1 j (by decide) (by decide) (by decide) (by decide)
    show ok (fpX6_findYields_l7s (J (i : Nat)) X) _
    unfold fpX6_findYields_l7s
    rw [show X.1 1 0 = J (m : Nat) by rw [X1]; exact hm]
    rcases Nat.lt_or_eq_of_le hi with him | him
    · have i8 : i < 8 := by omega
      refine okF (fun z => by have := (leN (by omega) (by omega)).1 z; omega) ?_
      have y6 : yP (M.1 1) d i ≤ 63 := yPw_le hO i8
      have ey : fpX6_yieldOf (J (i : Nat)) X = some (J (yP (M.1 1) d i : Nat)) := by
        have := yEw (M := X) (d := d) (by rw [X1]; exact hO) hn i8 (by rw [X1]; exact hd) (by omega)
        rw [X1] at this
        exact this
      refine okE ey (okE (inbJ i8 (by decide)) (okL ?_))
      generalize hA : wrM X 5 i (J (yP (M.1 1) d i : Nat)) = A
      have A1 : A.1 1 = M.1 1 := by rw [← hA, wr_n (by decide)]; exact X1
      have en : fpX6_needOf (J (i : Nat)) A = some (J (nP (M.1 1) d i : Nat)) := by
        have := nEw (M := A) (d := d) (by rw [A1]; exact hO) hn i8 (by rw [A1]; exact hd) (by omega)
        rw [A1] at this
        exact this
      refine okE en (okL ?_)
      generalize hB : wrM A 6 i (J (nP (M.1 1) d i : Nat)) = B
      have B1 : B.1 1 = M.1 1 := by rw [← hB, wr_n (by decide)]; exact A1
      have b5 : B.1 5 i = J (yP (M.1 1) d i : Nat) := by rw [← hB, wrM_nr (by decide), ← hA, wrM_eq]
      have b8 : B.1 0 8 = J (abl (M.1 1) d i : Nat) := by rw [← hB, wrM_nr (by decide), ← hA, wrM_nr (by decide)]; exact x3
      have bf : ∀ r j, r ≠ 5 → r ≠ 6 → B.1 r j = X.1 r j := fun r j h5 h6 => by rw [← hB, wrM_nr h6, ← hA, wrM_nr h5]
      have b2 : B.2 = M.2 := by rw [← hB, ← hA]; exact x2'
      have b56 : ∀ p, p < i + 1 → B.1 5 p = J (yP (M.1 1) d p : Nat) ∧ B.1 6 p = J (nP (M.1 1) d p : Nat) := by
        intro p hp
        rcases Nat.lt_or_eq_of_le (Nat.le_of_lt_succ hp) with z | z
        · rw [← hB, wrM_nr (by decide), wrM_nj (by omega), ← hA, wrM_nj (by omega), wrM_nr (by decide)]
          exact x4 p z
        · subst z
          refine ⟨b5, ?_⟩
          rw [← hB, wrM_eq]
      -- the losses, whatever the set
      have fin : ∀ (t2 : Int32), J (abl (M.1 1) d i : Nat) ||| t2 = J (abl (M.1 1) d (i + 1) : Nat) → ok (fpX6_findYields_b69_7 (J (i : Nat)) (J (abl (M.1 1) d i : Nat)) t2 B) (Sum.elim (fun s' => i < m ∧ s'.1 = J ((i + 1 : Nat) : Int) ∧ fyF M s'.2 ∧ s'.2.1 0 8 = J (abl (M.1 1) d (i + 1) : Nat) ∧ (∀ p, p < i + 1 → s'.2.1 5 p = J (yP (M.1 1) d p : Nat) ∧ s'.2.1 6 p = J (nP (M.1 1) d p : Nat)) ∧ ∀ q p, q < m → p < i + 1 → s'.2.1 7 (8 * q + p) = J (ls sp (vn (M.1 1) (12 + 6 * q + 1)) (vn (M.1 1) (12 + 6 * p + 1)) : Nat)) (fun N => fyF M N ∧ N.1 0 8 = J (abl (M.1 1) d m : Nat) ∧ (∀ p, p < m → N.1 5 p = J (yP (M.1 1) d p : Nat) ∧ N.1 6 p = J (nP (M.1 1) d p : Nat)) ∧ ∀ q p, q < m → p < m → N.1 7 (8 * q + p) = J (ls sp (vn (M.1 1) (12 + 6 * q + 1)) (vn (M.1 1) (12 + 6 * p + 1)) : Nat))) := by
        intro t2 ht2
        unfold fpX6_findYields_b69_7
        rw [ht2]
        refine okL ?_
        generalize hC : wrM B 0 8 (J (abl (M.1 1) d (i + 1) : Nat)) = C
        have C1 : C.1 1 = M.1 1 := by rw [← hC, wr_n (by decide)]; exact B1
        have cf : ∀ r j, r ≠ 0 → C.1 r j = B.1 r j := fun r j h0 => by rw [← hC, wrM_nr h0]
        obtain ⟨D, eD, g1, g2, g3, g4⟩ := fylw_e (M := C) (n := n) (m := m) (i := i) (sp := sp) (by rw [C1]; exact hO) (by rw [C1]; exact hm) m8 him (by rw [C1]; exact hsp) (by omega)
        rw [C1] at g4
        refine okE eD (okL (okS ⟨him, J_succ i, ⟨fun r j h0 h5 h6 h7 => ?_, fun j hj => ?_, ?_⟩, ?_, fun p hp => ?_, fun q p hq hp => ?_⟩))
        · rw [g1 r j h7, cf r j h0, bf r j h5 h6]; exact x1 r j h0 h5 h6 h7
        · rw [g1 0 j (by decide), ← hC, wrM_nj hj, bf 0 j (by decide) (by decide)]; exact x2 j hj
        · show D.2 = M.2
          rw [g2, ← hC]; exact b2
        · rw [g1 0 8 (by decide), ← hC, wrM_eq]
        · show D.1 5 p = _ ∧ D.1 6 p = _
          rw [g1 5 p (by decide), g1 6 p (by decide), cf 5 p (by decide), cf 6 p (by decide)]
          exact b56 p hp
        · show D.1 7 (8 * q + p) = _
          rcases Nat.lt_or_eq_of_le (Nat.le_of_lt_succ hp) with z | z
          · rw [g3 q p (by omega) (by omega) (by omega), cf 7 _ (by decide), bf 7 _ (by decide) (by decide)]
            exact x5 q p hq z
          · subst z
            exact g4 q hq
      have orz : ∀ x : Int32, x ||| 0 = x := fun x => Int32.or_zero
      rw [b5, b8]
      by_cases hy : yP (M.1 1) d i = 0
      · refine okT ((leN (b := 0) (by omega) (by omega)).2 (by omega)) ?_
        unfold fpX6_findYields_b68_7
        exact fin 0 (by rw [orz, show abl (M.1 1) d (i + 1) = abl (M.1 1) d i from if_neg (fun z => by omega)])
      · refine okF (fun z => hy (by have := (leN (b := 0) (by omega) (by omega)).1 z; omega)) ?_
        have i5 : fpX6_its (J (i : Nat)) (5 : Int32) B = some (M.1 1 (12 + 6 * i + 5)) := (itsE (w := 5) i8 (by decide)).trans (by rw [B1])
        refine okE i5 ?_
        by_cases ht : M.1 1 (12 + 6 * i + 5) = 0
        · refine okT ht ?_
          exact fin _ (by rw [ins_d _ (abl_b i (by omega)).1 i i8, show abl (M.1 1) d (i + 1) = nS (abl (M.1 1) d i) i from if_pos ⟨ht, by omega⟩])
        · refine okF ht ?_
          unfold fpX6_findYields_b68_7
          exact fin 0 (by rw [orz, show abl (M.1 1) d (i + 1) = abl (M.1 1) d i from if_neg (fun z => ht z.1)])
    · subst him
      exact okT ((leN (by omega) (by omega)).2 (Nat.le_refl _)) (okS ⟨⟨x1, x2, x2'⟩, x3, x4, x5⟩))
  have N1 : N.1 1 = M.1 1 := funext fun j => f1 1 j (by decide) (by decide) (by decide) (by decide)
  refine ⟨N, ?_, ⟨f1, f2, f3⟩, m8, by rw [N1]; exact hm, ?_, ?_, rm9, by rw [N1]; exact vn_J (by omega), fun p hp => ?_, fun p hp => ?_, sp, by omega, by rw [N1]; exact hsp, ?_, fun q p hq hp => ?_⟩
  · unfold fpX6_findYields letv
    dsimp only
    rw [e]
    rfl
  · show abl (M.1 1) d (vn (M.1 1) 0) < 256 ∧ _
    rw [hm']
    have := abl_b (s := M.1 1) (d := d) m m8
    refine ⟨this.1, fun q hq => ?_⟩
    have hq : (abl (M.1 1) d (vn (M.1 1) 0)).testBit q = true := hq
    rw [hm'] at hq
    exact ((this.2 q).1 hq).1
  · show N.1 0 8 = J (abl (M.1 1) d (vn (M.1 1) 0) : Nat)
    rw [hm']
    exact f4
  · have b1 : nP (M.1 1) d p ≤ 33 := nPw_le hO (by omega)
    have b2 : yP (M.1 1) d p ≤ 63 := yPw_le hO (by omega)
    exact ⟨show nP (M.1 1) d p < 1000 by omega, (f5 p hp).2, show yP (M.1 1) d p < 1000 by omega, (f5 p hp).1⟩
  · have h : 0 ≤ (M.1 1 (12 + 6 * p + 1)).toInt ∧ (M.1 1 (12 + 6 * p + 1)).toInt ≤ 99 := hO.p (show p < 8 by omega) (w := 1) (by decide)
    refine ⟨show vn (M.1 1) (12 + 6 * p + 1) < 100 by unfold vn; omega, ?_⟩
    rw [N1]
    exact vn_J h.1
  · show ls (vn (M.1 1) 3) = ls sp
    rw [hs']
  · exact f6 q p hq hp
theorem mww_e {M : Me} {n w : Nat} (hO : ROw n (M.1 1)) (hn : n ≤ 1000) (hw : w < 1000) : ∃ N q, fpX6_mostWith (J (w : Nat)) M = some (J (q : Nat), N) ∧ fyG M N ∧ q < 1000 ∧ PY N (vn (M.1 1) 0) (PR (M.1 1) (vn (M.1 1) 4)) ∧ Bst (PR (M.1 1) (vn (M.1 1) 4)) 0 (vn (M.1 1) 7) w (pab (PR (M.1 1) (vn (M.1 1) 4))) (fun _ => True) (some q) := by
  obtain ⟨A, e1, ⟨f1, f2, f3⟩, hA⟩ := fyw_e hO hn
  have k7 := hO.k7
  have A1 : A.1 1 = M.1 1 := funext fun j => f1 1 j (by decide) (by decide) (by decide) (by decide)
  have a7 : A.1 1 7 = J (vn (M.1 1) 7 : Nat) := by rw [A1]; exact vn_J k7.1
  have a9 : vn (M.1 1) 7 < 100 := by unfold vn; omega
  obtain ⟨N, o, e2, g1, g2, g3, g4⟩ := best_e (a := vn (M.1 1) 7) (w := w) (e := 0) (may := pab (PR (M.1 1) (vn (M.1 1) 4))) (cnt := -1) (C := fun _ => True) hA (by omega) hw (by decide) hA.2.2.1.1 hA.2.2.1.2 ⟨fun z => absurd z (by decide), fun z => absurd trivial z⟩ (fun S _ => ⟨fun _ => trivial, fun _ => Or.inl (by decide)⟩)
  obtain ⟨q, hq, -⟩ := g3.2 [] _ ⟨by simp, fun p hp => (by cases hp), trivial⟩ rfl
  subst hq
  refine ⟨N, q, ?_, ⟨fun r j h0 h5 h6 h7 h8 => (g1 r j h8).trans (f1 r j h0 h5 h6 h7), fun j hj => (g1 0 j (by decide)).trans (f2 j hj), g2.trans f3⟩, g4 q rfl, hA.same (fun r j hr => g1 r j hr), g3⟩
  unfold fpX6_mostWith
  rw [e1, Option.bind_some, a7, hA.2.2.2.1]
  have e2 : fpX6_bestFrom (J (vn (M.1 1) 7 : Nat)) (J (w : Nat)) (J (pab (PR (M.1 1) (vn (M.1 1) 4)) : Nat)) (-1 : Int32) (0 : Int32) A = some (J (q : Nat), N) := e2
  rw [e2]
  rfl
theorem Can.mr {ml nd yl : Nat → Nat} {ab rm rm' e v S a q : Nat} {L L' : Nat → Nat → Nat} {C : Nat → Prop} (hr : rm ≤ rm') (hL : ∀ a b, L' a b ≤ L a b) (h : Can (ml, nd, yl, ab, rm, L) e v S C a q) : Can (ml, nd, yl, ab, rm', L') e v S C a q := by
  obtain ⟨u, r, h1, h2, h3, h4, h5⟩ := h
  obtain ⟨r', h6, h7⟩ := bk_mono (ml := ml) (nd := nd) (yl := yl) (ab := ab) hr hL (Nat.le_refl q) h4
  exact ⟨u, r', h1, h2, h3, h6, by omega⟩
def rmP (P : Pr) (r : Nat) : Pr := (P.1, P.2.1, P.2.2.1, P.2.2.2.1, r, P.2.2.2.2.2)
theorem PX.room {M N : Me} {m s r : Nat} {P : Pr} (h : PX M m s P) (hr : r < 1000) (f4 : N.1 46 4 = J (r : Nat)) (f : ∀ r j, 46 ≤ r → r < 53 → ¬ (r = 46 ∧ j = 4) → N.1 r j = M.1 r j) : PX N m s (rmP P r) := by
  obtain ⟨h1, h2, h3, h4, h5, h6, h7, h8⟩ := h
  refine ⟨h1, by rw [f _ _ (by omega) (by omega) (by omega)]; exact h2, h3, by rw [f _ _ (by omega) (by omega) (by omega)]; exact h4, hr, f4, fun p hp => ?_, fun x y hx hy => ?_⟩
  · rw [f _ _ (by omega) (by omega) (by omega), f _ _ (by omega) (by omega) (by omega)]
    exact h7 p hp
  · rw [f _ _ (by omega) (by omega) (by omega)]
    exact h8 x y hx hy
theorem hv_d : ∀ i, i < 10 → 0 < 512 / 2 ^ i ∧ 512 / 2 ^ i ≤ 512 ∧ 1024 / 2 ^ i = 2 * (512 / 2 ^ i) ∧ 1024 / 2 ^ (i + 1) = 512 / 2 ^ i ∧ 512 / 2 ^ i / 2 = 512 / 2 ^ (i + 1) := by decide
theorem Tq {P : Pr} {a w v q : Nat} (g : Bst P 0 a w (pab P) (fun _ => True) (some q)) : v ≤ q ↔ Can P 0 v 0 (CC none) a w := by
  rw [CCn, ← g.can]
  exact ⟨fun z => ⟨q, rfl, z⟩, fun ⟨q', z1, z2⟩ => by cases z1; exact z2⟩
/-- the class's least room -/
theorem lrm_e {A : Me} {m s w : Nat} {P : Pr} (h : PX A m s P) (mA : MT A) (hw : w < 1000) : ∃ h' top X, fpX0_leastRoomForMost (J (w : Nat)) A = some (J (h' : Nat), X) ∧ (∀ r j, r < 46 → X.1 r j = A.1 r j) ∧ MT X ∧ top < 1000 ∧ Bst (rmP P 999) 0 s w (pab P) (fun _ => True) (some top) ∧ w - 1 < h' ∧ h' ≤ 999 ∧ Can (rmP P h') 0 top 0 (CC none) s w ∧ ∀ r, w - 1 < r → r < h' → ¬ Can (rmP P r) 0 top 0 (CC none) s w := by
  have f0 : ∀ r j, ¬ (r = 46 ∧ j = 4) → (wrM A 46 4 (999 : Int32)).1 r j = A.1 r j := fun r j hr => by rw [wrM_at, if_neg hr]
  have h0 : PX (wrM A 46 4 (999 : Int32)) m s (rmP P 999) := h.room (by decide) wrM_eq (fun r j _ _ hr => f0 r j hr)
  have m0 : MT (wrM A 46 4 (999 : Int32)) := fun S hS l hl hb => (f0 53 _ (by omega)).trans (mA S hS l hl hb)
  obtain ⟨B, top, e1, b1, b2, -, t9, g0⟩ := with_e (w := w) h0 m0 hw
  have g0 : Bst (rmP P 999) 0 s w (pab P) (fun _ => True) (some top) := g0
  generalize hT : (fun r => Can (rmP P r) 0 top 0 (CC none) s w) = T
  have hT' : ∀ r, T r ↔ Can (rmP P r) 0 top 0 (CC none) s w := fun r => by rw [← hT]
  have mono : ∀ r r', T r → r ≤ r' → T r' := fun r r' h1 h2 => (hT' r').2 (Can.mr (rm := r) (rm' := r') h2 (fun _ _ => Nat.le_refl _) ((hT' r).1 h1))
  have T999 : T 999 := (hT' 999).2 ((Tq (P := rmP P 999) g0).1 (Nat.le_refl _))
  obtain ⟨⟨ra, X⟩, er, L, q1, q2, q3, q4, q5, q6, q7⟩ := lp_ok (step := fpX0_leastRoomForMost_l26 (J (w : Nat)) (J (top : Nat))) (Q := fun r => ∃ L : Nat, r.1 = J (L : Nat) ∧ w - 1 ≤ L ∧ L ≤ 998 ∧ (∀ r, w - 1 < r → r ≤ L → ¬ T r) ∧ T (L + 1) ∧ (∀ r' j, r' < 46 → r.2.1 r' j = A.1 r' j) ∧ MT r.2) (fun i st => i ≤ 10 ∧ st.2.1 = J (512 / 2 ^ i : Nat) ∧ ∃ L : Nat, st.1 = J (L : Nat) ∧ w - 1 ≤ L ∧ L ≤ 998 ∧ (∀ r, w - 1 < r → r ≤ L → ¬ T r) ∧ (∀ r, L + 1024 / 2 ^ i ≤ r → T r) ∧ (∀ r' j, r' ≠ 53 → ¬ (r' = 46 ∧ j = 4) → st.2.2.1 r' j = A.1 r' j) ∧ MT st.2.2) 10 (by omega) (s := (J ((w - 1 : Nat) : Int), (512 : Int32), B)) ⟨by omega, rfl, w - 1, rfl, Nat.le_refl _, by omega, fun r h1 h2 => by omega, fun r hr => mono 999 r T999 (by omega), fun r' j h1 h2 => (b1 r' j h1).trans (f0 r' j h2), b2⟩ (by
    intro i st hi hst
    obtain ⟨la, sa, X⟩ := st
    obtain ⟨-, s1, L, s2, x1, x2, x3, x4, x5, x6⟩ := hst
    have s1 : sa = J (512 / 2 ^ i : Nat) := s1
    have s2 : la = J (L : Nat) := s2
    have x5 : ∀ r' j, r' ≠ 53 → ¬ (r' = 46 ∧ j = 4) → X.1 r' j = A.1 r' j := x5
    have x6 : MT X := x6
    subst s1
    subst s2
    show ok (fpX0_leastRoomForMost_l26s (J (w : Nat)) (J (top : Nat)) (J (L : Nat)) (J (512 / 2 ^ i : Nat)) X) _
    unfold fpX0_leastRoomForMost_l26s
    rcases Nat.lt_or_eq_of_le hi with hin | hin
    · obtain ⟨v1, v2, v3, v4, v5⟩ := hv_d i hin
      generalize 512 / 2 ^ i = st at v1 v2 v3 v4 v5
      refine okF (fun z => by have := (leN (b := 0) (by omega) (by omega)).1 z; omega) ?_
      have eh : J (st : Nat) / (2 : Int32) = J ((512 / 2 ^ (i + 1) : Nat) : Int) := by
        rw [← v5]
        exact divN (b := 2) (by omega) (by decide) (by decide)
      rw [addN, eh]
      by_cases c1 : 999 ≤ L + st
      · exact okT ((leN (a := 999) (by omega) (by omega)).2 c1) (okL (okS ⟨hin, by omega, rfl, L, rfl, x1, x2, x3, fun r hr => mono 999 r T999 (by omega), x5, x6⟩))
      · refine okF (fun z => c1 ((leN (a := 999) (by omega) (by omega)).1 z)) (okL ?_)
        generalize hK : wrM X 46 4 (J ((L + st : Nat) : Int)) = K
        have K4 : K.1 46 4 = J ((L + st : Nat) : Int) := by rw [← hK]; exact wrM_eq
        have Kn : ∀ r j, ¬ (r = 46 ∧ j = 4) → K.1 r j = X.1 r j := fun r j hr => by rw [← hK, wrM_at, if_neg hr]
        have hKP : PX K m s (rmP P (L + st)) := h.room (by omega) K4 (fun r j r1 r2 r3 => (Kn r j r3).trans (x5 r j (by omega) r3))
        have mK : MT K := fun S hS l hl hb => by rw [Kn 53 _ (by omega)]; exact x6 S hS l hl hb
        obtain ⟨N, q, e2, g1, g2, -, g3, g4⟩ := with_e (w := w) hKP mK hw
        refine okE e2 ?_
        have key : (J (top : Nat) ≤ J (q : Nat)) ↔ T (L + st) := by
          rw [leN (by omega) (by omega), hT']
          exact Tq (P := rmP P (L + st)) g4
        have fN : ∀ r' j, r' ≠ 53 → ¬ (r' = 46 ∧ j = 4) → N.1 r' j = A.1 r' j := fun r' j h1 h2 => (g1 r' j h1).trans ((Kn r' j h2).trans (x5 r' j h1 h2))
        by_cases hq : T (L + st)
        · exact okT (key.2 hq) (okL (okS ⟨hin, by omega, rfl, L, rfl, x1, x2, x3, fun r hr => mono (L + st) r hq (by omega), fN, g2⟩))
        · refine okF (fun z => hq (key.1 z)) (okL (okL ?_))
          have e4 : N.1 46 4 = J ((L + st : Nat) : Int) := (g1 46 4 (by decide)).trans K4
          show ok (some (Sum.inl (N.1 46 4, J ((512 / 2 ^ (i + 1) : Nat) : Int), N))) _
          rw [e4]
          refine okS ⟨hin, by omega, rfl, L + st, rfl, by omega, by omega, fun r h1 h2 z => hq (mono r _ z h2), fun r hr => x4 r (by omega), fN, g2⟩
    · subst hin
      exact okT (by decide) (okS ⟨L, rfl, x1, x2, x3, x4 (L + 1) (Nat.le_refl _), fun r' j hr => x5 r' j (by omega) (by omega), x6⟩))
  have q1 : ra = J (L : Nat) := q1
  subst q1
  refine ⟨L + 1, top, X, ?_, q6, q7, t9, g0, by omega, by omega, (hT' _).1 q5, fun r h1 h2 z => q4 r h1 (by omega) ((hT' r).2 z)⟩
  unfold fpX0_leastRoomForMost letv
  dsimp only
  rw [e1, Option.bind_some]
  have ev : fpJ9_max_7cf53 (J (w : Nat)) (1 : Int32) - 1 = J ((w - 1 : Nat) : Int) := by
    rw [show fpJ9_max_7cf53 (J (w : Nat)) (1 : Int32) = J (max w 1 : Nat) from maxN (b := 1) (by omega) (by omega), show J (max w 1 : Nat) - (1 : Int32) = J ((max w 1 - 1 : Nat) : Int) from subN (b := 1) (by omega), show max w 1 - 1 = w - 1 by omega]
  rw [ev]
  have er : lp (fpX0_leastRoomForMost_l26 (J (w : Nat)) (J (top : Nat))) FU (J ((w - 1 : Nat) : Int), (512 : Int32), B) = some (J (L : Nat), X) := er
  rw [er]
  show some (J (L : Nat) + 1, X) = _
  rw [J_succ]
theorem ROw.r2 {n r : Nat} {s : Nat → Int32} (h : RO n s) (r1 : 1 ≤ r) (r2 : r ≤ 999) : ROw n (upd s 2 (J (r : Nat))) := by
  refine ⟨0, ?_⟩
  have e : upd (upd s 2 (J (r : Nat))) 8 0 = upd (upd s 8 0) 2 (J (r : Nat)) := funext fun k => by
    by_cases c : k = 8
    · subst c
      rw [upd_eq, upd_ne (by decide), upd_eq]
    · rw [upd_ne c]
      by_cases c2 : k = 2
      · subst c2
        rw [upd_eq, upd_eq]
      · rw [upd_ne c2, upd_ne c2, upd_ne c]
  rw [e]
  have k2 := h.k2
  have h8 : RO n (upd s 8 0) := h.up (Nat.le_refl n) (by decide) (by decide) (show (0 : Int) ≤ 0 by decide) (show (0 : Int) ≤ (s 2).toInt by omega)
  have hr : (J (r : Nat)).toInt = r := tJn (by omega)
  exact h8.up2 (Nat.le_refl n) (by rw [hr]; omega) (by rw [hr]; omega) (by rw [upd_eq, hr]; show (0 : Int) ≤ _; omega)
/-- the model's most at a room -/
theorem mwR {M X : Me} {n w r : Nat} {v : Int32} (hO : RO n (M.1 1)) (hn : n ≤ 1000) (hw : w < 1000) (r1 : 1 ≤ r) (r2 : r ≤ 999) (hX : fyG (wrM M 1 2 v) X) : ∃ N q, fpX6_mostWith (J (w : Nat)) (wrM X 1 2 (J (r : Nat))) = some (J (q : Nat), N) ∧ fyG (wrM M 1 2 (J (r : Nat))) N ∧ q < 1000 ∧ Bst (rmP (PR (M.1 1) (vn (M.1 1) 4)) r) 0 (vn (M.1 1) 7) w (pab (PR (M.1 1) (vn (M.1 1) 4))) (fun _ => True) (some q) := by
  have wY := hX.w (v' := J (r : Nat))
  have er : (wrM X 1 2 (J (r : Nat))).1 1 = upd (M.1 1) 2 (J (r : Nat)) := wY.w1
  obtain ⟨N, q, e1, g1, g2, -, g4⟩ := mww_e (M := wrM X 1 2 (J (r : Nat))) (n := n) (w := w) (by rw [er]; exact ROw.r2 hO r1 r2) hn hw
  refine ⟨N, q, e1, wY.tr g1, g2, ?_⟩
  have v4 : vn (upd (M.1 1) 2 (J (r : Nat))) 4 = vn (M.1 1) 4 := by unfold vn; rw [upd_ne (by decide)]
  have v7 : vn (upd (M.1 1) 2 (J (r : Nat))) 7 = vn (M.1 1) 7 := by unfold vn; rw [upd_ne (by decide)]
  have v3 : vn (upd (M.1 1) 2 (J (r : Nat))) 3 = vn (M.1 1) 3 := by unfold vn; rw [upd_ne (by decide)]
  have v2 : vn (upd (M.1 1) 2 (J (r : Nat))) 2 = r := by unfold vn; rw [upd_eq, tJn (by omega)]; omega
  have eP : PR (upd (M.1 1) 2 (J (r : Nat))) (vn (M.1 1) 4) = rmP (PR (M.1 1) (vn (M.1 1) 4)) r := by
    rw [PR_up (s := M.1 1) (fun k hk => upd_ne (by omega)), v2, v3]
    rfl
  rw [er, v4, v7, eP] at g4
  exact g4
theorem s24 : sim24 Rr := by
  intro n M1 M2 a hn R
  show SM n _ _
  unfold fpX5_room fpX6_room
  have k2 := R.2.k2
  by_cases h : 0 ≤ a.toInt ∧ a.toInt ≤ (M2.1 1 2).toInt
  · refine .t1 ((nc0 R).2 h) (.f2 (fun z => iw0.1 z h) ?_)
    obtain ⟨w, rfl, hw'⟩ := ofI h.1
    have w9 : w < 1000 := by omega
    obtain ⟨A, e1, f1, mA, hA, -⟩ := layR R (by omega)
    obtain ⟨hh, top, X, e2, x1, x2, x3, x4, x5, x6, x7, x8⟩ := lrm_e hA mA w9
    obtain ⟨D, q, e3, d1, d2, d3⟩ := mwR (X := M2) (v := M2.1 1 2) (w := w) (r := 999) R.2 (by omega) w9 (by decide) (by decide) (by rw [wrM_id rfl]; exact fyG.rf)
    have eq : top = q := by
      have := x4.uniq d3
      exact Option.some.inj this
    subst eq
    generalize hT : (fun r => Can (rmP (PR (M2.1 1) (vn (M2.1 1) 4)) r) 0 top 0 (CC none) (vn (M2.1 1) 7) w) = T
    have hT' : ∀ r, T r ↔ Can (rmP (PR (M2.1 1) (vn (M2.1 1) 4)) r) 0 top 0 (CC none) (vn (M2.1 1) 7) w := fun r => by rw [← hT]
    have mono : ∀ r r', T r → r ≤ r' → T r' := fun r r' h1 h2 => (hT' r').2 (Can.mr (rm := r) (rm' := r') h2 (fun _ _ => Nat.le_refl _) ((hT' r).1 h1))
    have T999 : T 999 := (hT' 999).2 ((Tq (P := rmP (PR (M2.1 1) (vn (M2.1 1) 4)) 999) d3).1 (Nat.le_refl _))
    refine .b1 e1 (.b1 e2 ?_)
    show SM n _ ((fpX6_mostWith (J (w : Nat)) (wrM M2 1 2 (999 : Int32))).bind fun q4 => (if J (w : Nat) ≤ (1 : Int32) then fpX6_room_b49 (J (w : Nat)) (M2.1 1 2) q4.1 (0 : Int32) q4.2 else fpX6_room_b49 (J (w : Nat)) (M2.1 1 2) q4.1 (J (w : Nat) - (1 : Int32)) q4.2))
    refine .b2 e3 ?_
    have fin : SM n (some (J (hh : Nat), X)) (fpX6_room_b49 (J (w : Nat)) (M2.1 1 2) (J (top : Nat)) (J ((w - 1 : Nat) : Int)) D) := by
      unfold fpX6_room_b49
      obtain ⟨⟨ra, Y⟩, er, hi, q1, q2, q3, q4, q5, v, q6⟩ := lp_ok (step := fpX6_room_l56 (J (w : Nat)) (M2.1 1 2) (J (top : Nat))) (Q := fun r => ∃ hi : Nat, r.1 = J (hi : Nat) ∧ w - 1 < hi ∧ hi ≤ 999 ∧ T hi ∧ (∀ r, w - 1 < r → r < hi → ¬ T r) ∧ ∃ v, fyG (wrM M2 1 2 v) r.2) (fun i st => ∃ lo hi : Nat, st.1 = J (lo : Nat) ∧ st.2.1 = J (hi : Nat) ∧ w - 1 ≤ lo ∧ lo < hi ∧ hi ≤ 999 ∧ hi + i ≤ lo + 1000 ∧ T hi ∧ (∀ r, w - 1 < r → r ≤ lo → ¬ T r) ∧ ∃ v, fyG (wrM M2 1 2 v) st.2.2) 1000 (by omega) (s := (J ((w - 1 : Nat) : Int), (999 : Int32), D)) ⟨w - 1, 999, rfl, rfl, Nat.le_refl _, by omega, by omega, by omega, T999, fun r h1 h2 => by omega, _, d1⟩ (by
        intro i st hi hst
        obtain ⟨la, ha, Z⟩ := st
        obtain ⟨lo, hh, s1, s2, z1, z2, z3, z4, z5, z6, v, z7⟩ := hst
        have s1 : la = J (lo : Nat) := s1
        have s2 : ha = J (hh : Nat) := s2
        have z7 : fyG (wrM M2 1 2 v) Z := z7
        subst s1
        subst s2
        show ok (fpX6_room_l56s (J (w : Nat)) (M2.1 1 2) (J (top : Nat)) (J (lo : Nat)) (J (hh : Nat)) Z) _
        unfold fpX6_room_l56s
        rw [subN (by omega)]
        by_cases hc : hh - lo ≤ 1
        · exact okT ((leN (b := 1) (by omega) (by omega)).2 hc) (okS ⟨hh, rfl, by omega, z3, z5, fun r h1 h2 => z6 r h1 (by omega), v, z7⟩)
        · refine okF (fun z => hc ((leN (b := 1) (by omega) (by omega)).1 z)) (okL ?_)
          have em : (J (lo : Nat) + J (hh : Nat)) / (2 : Int32) = J (((lo + hh) / 2 : Nat) : Int) := by
            rw [addN]
            exact divN (b := 2) (by omega) (by decide) (by decide)
          rw [em]
          generalize hk : (lo + hh) / 2 = k
          have k1 : lo < k := by omega
          have k3 : k < hh := by omega
          obtain ⟨N, q, e5, g1, g2, g3⟩ := mwR (w := w) (r := k) R.2 (by omega) w9 (by omega) (by omega) z7
          refine okE e5 ?_
          have key : (J (top : Nat) ≤ J (q : Nat)) ↔ T k := by
            rw [leN (by omega) (by omega), hT']
            exact Tq (P := rmP (PR (M2.1 1) (vn (M2.1 1) 4)) k) g3
          have eN : N.1 1 2 = J (k : Nat) := by rw [g1.w1, upd_eq]
          by_cases hq : T k
          · refine okT (key.2 hq) (okL ?_)
            show ok (some (Sum.inl (J (lo : Nat), N.1 1 2, N))) _
            rw [eN]
            exact okS ⟨by omega, lo, k, rfl, rfl, z1, k1, by omega, by omega, hq, z6, _, g1⟩
          · refine okF (fun z => hq (key.1 z)) (okL ?_)
            show ok (some (Sum.inl (N.1 1 2, J (hh : Nat), N))) _
            rw [eN]
            exact okS ⟨by omega, k, hh, rfl, rfl, by omega, k3, z3, by omega, z5, fun r h1 h2 z => hq (mono r k z h2), _, g1⟩)
      have q1 : ra = J (hi : Nat) := q1
      subst q1
      have q6 : fyG (wrM M2 1 2 v) Y := q6
      have fY : fyG M2 (wrM Y 1 2 (M2.1 1 2)) := by
        have := q6.w (v' := M2.1 1 2)
        rw [wrM_id rfl] at this
        exact this
      have ee : hh = hi := by
        rcases Nat.lt_trichotomy hh hi with c | c | c
        · exact absurd ((hT' hh).2 x7) (q5 hh x5 c)
        · exact c
        · exact absurd ((hT' hi).1 q4) (x8 hi q2 c)
      subst ee
      refine .b2 er ?_
      show SM n _ (some (J (hh : Nat), wrM Y 1 2 (M2.1 1 2)))
      exact .e rfl ((R.H (fun r j hr => (x1 r j hr).trans (f1 r j (by omega))) x2 fY.h).mono (Nat.le_succ n))
    by_cases c1 : w ≤ 1
    · refine .t2 ((leN (b := 1) (by omega) (by omega)).2 c1) ?_
      have e0 : w - 1 = 0 := by omega
      rw [e0] at fin
      exact fin
    · refine .f2 (fun z => c1 ((leN (b := 1) (by omega) (by omega)).1 z)) ?_
      rw [show J (w : Nat) - (1 : Int32) = J ((w - 1 : Nat) : Int) from subN (b := 1) (by omega)]
      exact fin
  · exact .f1 (fun z => h ((nc0 R).1 z)) (.t2 (iw0.2 h) (.fi R 0 (by decide) rfl rfl))
