/-! The class's planner is laid over the road -/
def spb (a b c : Int32) : Int32 := if c = 0 then 0 else fpJ9_abs_0f7a4 (a - b) / c
theorem spb_e (a b c : Int32) : fpX5_spiltBetween a b c = some (spb a b c) := by
  unfold fpX5_spiltBetween spb dvz
  by_cases h : c = 0
  · rw [if_pos h, if_pos h]
  · rw [if_neg h, if_neg h, if_neg h]
theorem spb_J {a b c : Nat} (ha : a < 1000000) (hb : b < 1000000) (hc : c < 1000000) : spb (J (a : Nat)) (J (b : Nat)) (J (c : Nat)) = J (ls c a b : Nat) := by
  have := spX ha hb hc
  rw [spb_e] at this
  exact Option.some.inj this
def meS (M : Me) (k : Nat) : Me := (fun r j => if r = 49 ∧ j < k then spb (M.1 48 (j / 10)) (M.1 48 (j % 10)) (M.1 46 5) else M.1 r j, M.2)
theorem meS_at {M : Me} {k r j : Nat} : (meS M k).1 r j = if r = 49 ∧ j < k then spb (M.1 48 (j / 10)) (M.1 48 (j % 10)) (M.1 46 5) else M.1 r j := rfl
theorem meS_n {M : Me} {k r j : Nat} (h : r ≠ 49) : (meS M k).1 r j = M.1 r j := meS_at.trans (if_neg (fun z => h z.1))
theorem meS_s {M : Me} {i j : Nat} (hj : j < 10) : wrM (meS M (10 * i + j)) 49 (10 * i + j) (spb (M.1 48 i) (M.1 48 j) (M.1 46 5)) = meS M (10 * i + (j + 1)) := by
  refine me_ext (fun r k => ?_) rfl
  rw [wrM_at, meS_at, meS_at]
  by_cases h1 : r = 49 ∧ k = 10 * i + j
  · rw [if_pos h1, if_pos (by omega)]
    have e1 : k / 10 = i := by omega
    have e2 : k % 10 = j := by omega
    rw [e1, e2]
  · rw [if_neg h1]
    by_cases h2 : r = 49 ∧ k < 10 * i + j
    · rw [if_pos h2, if_pos (by omega)]
    · rw [if_neg h2, if_neg (by omega)]
theorem mea_e {M : Me} : fpX0_measure M = some (meS M 100) := by
  have e0 : meS M 0 = M := me_ext (fun r j => meS_at.trans (if_neg (by omega))) rfl
  have inner : ∀ i, i < 10 → lp (fpX0_measure_l10 (J (i : Nat))) FU ((0 : Int32), meS M (10 * i)) = some (meS M (10 * (i + 1))) := by
    intro i hi
    have e : lp (fpX0_measure_l10 (J (i : Nat))) FU (J ((0 : Nat) : Int), meS M (10 * i + 0)) = some (meS M (10 * (i + 1))) := by
      refine lp_tr (fun j : Nat => (J (j : Nat), meS M (10 * i + j))) 10 (by decide) (fun j hj => ?_) ?_
      · show fpX0_measure_l10s (J (i : Nat)) (J (j : Nat)) (meS M (10 * i + j)) = _
        unfold fpX0_measure_l10s letv
        have c1 : ¬ (10 : Int32) ≤ J (j : Nat) := fun z => by have := (leN (a := 10) (by omega) (by omega)).1 z; omega
        have e10 : J (i : Nat) * (10 : Int32) + J (j : Nat) = J ((10 * i + j : Nat) : Int) := by
          rw [show (10 : Int32) = J 10 from rfl, J_mul, J_add]
          congr 1
          omega
        rw [if_neg c1, inbJ hi (by decide), Option.bind_some, inbJ hj (by decide), Option.bind_some, spb_e, Option.bind_some, e10, inbJ (by omega) (by decide), Option.bind_some, meS_n (by decide), meS_n (by decide), meS_n (by decide), meS_s hj, J_succ]
      · rfl
    exact e
  have e : lp fpX0_measure_l2 FU (J ((0 : Nat) : Int), meS M (10 * 0)) = some (meS M 100) := by
    refine lp_tr (fun i : Nat => (J (i : Nat), meS M (10 * i))) 10 (by decide) (fun i hi => ?_) rfl
    show fpX0_measure_l2s (J (i : Nat)) (meS M (10 * i)) = _
    unfold fpX0_measure_l2s letv
    have c1 : ¬ (10 : Int32) ≤ J (i : Nat) := fun z => by have := (leN (a := 10) (by omega) (by omega)).1 z; omega
    rw [if_neg c1, inner i hi, Option.bind_some, J_succ]
  rw [show 10 * 0 = 0 from rfl, e0] at e
  have e : lp fpX0_measure_l2 FU ((0 : Int32), M) = some (meS M 100) := e
  unfold fpX0_measure
  rw [e]
  rfl
/-- which can be run today at all -/
def abl (s : Nat → Int32) (d : Nat) : Nat → Nat
  | 0 => 0
  | i + 1 => if s (12 + 6 * i + 5) = 0 ∧ 0 < yP s d i then nS (abl s d i) i else abl s d i
theorem abl_b {s : Nat → Int32} {d : Nat} : ∀ i, i ≤ 8 → abl s d i < 256 ∧ ∀ q, (abl s d i).testBit q = true ↔ q < i ∧ s (12 + 6 * q + 5) = 0 ∧ 0 < yP s d q
  | 0, _ => ⟨by unfold abl; decide, fun q => by unfold abl; simp⟩
  | i + 1, h => by
    obtain ⟨h1, h2⟩ := abl_b (s := s) (d := d) i (by omega)
    unfold abl
    by_cases hc : s (12 + 6 * i + 5) = 0 ∧ 0 < yP s d i
    · rw [if_pos hc]
      refine ⟨nS_lt _ h1 i (by omega), fun q => ?_⟩
      constructor
      · intro hq
        have q8 := bit_lt (nS_lt _ h1 i (by omega)) hq
        rw [nS_bit _ h1 i (by omega) q q8] at hq
        simp only [Bool.or_eq_true, decide_eq_true_eq] at hq
        rcases hq with z | z
        · have := (h2 q).1 z
          exact ⟨by omega, this.2⟩
        · subst z
          exact ⟨by omega, hc⟩
      · intro ⟨a1, a2⟩
        rw [nS_bit _ h1 i (by omega) q (by omega)]
        by_cases e : q = i
        · simp [e]
        · rw [(h2 q).2 ⟨by omega, a2⟩]
          rfl
    · rw [if_neg hc]
      refine ⟨h1, fun q => ?_⟩
      rw [h2 q]
      constructor
      · intro ⟨a1, a2⟩
        exact ⟨by omega, a2⟩
      · intro ⟨a1, a2⟩
        refine ⟨?_, a2⟩
        rcases Nat.lt_or_eq_of_le (Nat.le_of_lt_succ a1) with z | z
        · exact z
        · subst z
          exact absurd a2 hc
/-- the problem that a road tells, at a drought -/
def PR (s : Nat → Int32) (d : Nat) : Pr := (fun p => vn s (12 + 6 * p + 1), fun p => nP s d p, fun p => yP s d p, abl s d (vn s 0), vn s 2, ls (vn s 3))
def LayI (M X : Me) (s : Nat → Int32) (d i : Nat) : Prop := (∀ r j, r < 46 ∨ r = 47 ∨ r = 49 ∨ 53 ≤ r → X.1 r j = M.1 r j) ∧ (∀ j, j ≠ 3 → X.1 46 j = M.1 46 j) ∧ X.1 46 3 = J (abl s d i : Nat) ∧ ∀ p, p < i → X.1 48 p = s (12 + 6 * p + 1) ∧ X.1 51 p = J (yP s d p : Nat) ∧ X.1 50 p = J (nP s d p : Nat) ∧ X.1 52 p = s (12 + 6 * p + 3)
theorem lay_l {n d m : Nat} {M1 M2 K : Me} (R : RE M1 1 M2 1) (hO : RO n (M2.1 1)) (hn : n ≤ 1000) (hd : d < 1000) (hm : M2.1 1 0 = J (m : Nat)) (m8 : m ≤ 8) (hK : ∀ r j, r < 46 → K.1 r j = M1.1 r j) (hK2 : K.1 46 2 = J (m : Nat)) (hK3 : K.1 46 3 = 0) : ∃ N, lp (fpX0_lay_l23 1 (J (d : Nat))) FU ((0 : Int32), K) = some N ∧ LayI K N (M2.1 1) d m := by
  obtain ⟨N, e, hN⟩ := lp_ok (step := fpX0_lay_l23 1 (J (d : Nat))) (Q := fun N => LayI K N (M2.1 1) d m) (fun i st => st.1 = J (i : Nat) ∧ LayI K st.2 (M2.1 1) d i) m (by omega) (s := ((0 : Int32), K)) ⟨rfl, fun _ _ _ => rfl, fun _ _ => rfl, hK3, fun p hp => absurd hp (Nat.not_lt_zero _)⟩ (by
    intro i st hi hst
    obtain ⟨ia, X⟩ := st
    obtain ⟨s1, x1, x2, x3, x4⟩ := hst
    have s1 : ia = J (i : Nat) := s1
    have x1 : ∀ r j, r < 46 ∨ r = 47 ∨ r = 49 ∨ 53 ≤ r → X.1 r j = K.1 r j := x1
    have x2 : ∀ j, j ≠ 3 → X.1 46 j = K.1 46 j := x2
    have x3 : X.1 46 3 = J (abl (M2.1 1) d i : Nat) := x3
    have x4 : ∀ p, p < i → X.1 48 p = M2.1 1 (12 + 6 * p + 1) ∧ X.1 51 p = J (yP (M2.1 1) d p : Nat) ∧ X.1 50 p = J (nP (M2.1 1) d p : Nat) ∧ X.1 52 p = M2.1 1 (12 + 6 * p + 3) := x4
    subst s1
    show ok (fpX0_lay_l23s 1 (J (d : Nat)) (J (i : Nat)) X) _
    unfold fpX0_lay_l23s
    rw [x2 2 (by decide), hK2]
    rcases Nat.lt_or_eq_of_le hi with him | him
    · have i8 : i < 8 := by omega
      refine okF (fun z => by have := (leN (by omega) (by omega)).1 z; omega) (okE (inbJ i8 (by decide)) (okE (inbJ (show i < 10 by omega) (by decide)) (okL (okL (okL (okL ?_))))))
      have hRE : ∀ Y : Me, (∀ r j, r < 46 → Y.1 r j = X.1 r j) → RE Y 1 M2 1 := fun Y hY => R.same (fun dd j hdd => by rw [hY _ _ (by omega), x1 _ _ (by omega), hK _ _ (by omega)]) (fun j => rfl)
      have eX := hRE X (fun _ _ _ => rfl)
      have v1 : X.1 (1 + 3 + i) 1 = M2.1 1 (12 + 6 * i + 1) := eX.p i8 (by decide)
      rw [v1]
      generalize hA : wrM X 48 i (M2.1 1 (12 + 6 * i + 1)) = A
      have fA : ∀ r j, r ≠ 48 → A.1 r j = X.1 r j := fun r j hr => by rw [← hA]; exact wrM_nr hr
      have eA := hRE A (fun r j hr => fA r j (by omega))
      rw [yXY eA i8, Yp_e hO hn i8 (by omega)]
      generalize hB : wrM A 51 i (J (yP (M2.1 1) d i : Nat)) = B
      have fB : ∀ r j, r ≠ 51 → B.1 r j = A.1 r j := fun r j hr => by rw [← hB]; exact wrM_nr hr
      have eB := hRE B (fun r j hr => by rw [fB r j (by omega), fA r j (by omega)])
      have b51 : B.1 51 i = J (yP (M2.1 1) d i : Nat) := by rw [← hB]; exact wrM_eq
      have nEq : Nq (M2.1 1 (12 + 6 * i)) (J (yP (M2.1 1) d i : Nat)) = J (nP (M2.1 1) d i : Nat) := by
        have := Np_e (d := d) hO hn i8 (by omega)
        unfold Np at this
        rw [Yp_e hO hn i8 (by omega)] at this
        exact this
      rw [nX, b51, eB.p i8 (w := 0) (by decide), show 12 + 6 * i + 0 = 12 + 6 * i from rfl, nEq]
      generalize hC : wrM B 50 i (J (nP (M2.1 1) d i : Nat)) = C
      have fC : ∀ r j, r ≠ 50 → C.1 r j = B.1 r j := fun r j hr => by rw [← hC]; exact wrM_nr hr
      have eC := hRE C (fun r j hr => by rw [fC r j (by omega), fB r j (by omega), fA r j (by omega)])
      rw [eC.p i8 (w := 3) (by decide)]
      generalize hD : wrM C 52 i (M2.1 1 (12 + 6 * i + 3)) = D
      have fD : ∀ r j, r ≠ 52 → D.1 r j = C.1 r j := fun r j hr => by rw [← hD]; exact wrM_nr hr
      have eD := hRE D (fun r j hr => by rw [fD r j (by omega), fC r j (by omega), fB r j (by omega), fA r j (by omega)])
      have d51 : D.1 51 i = J (yP (M2.1 1) d i : Nat) := by rw [fD 51 i (by decide), fC 51 i (by decide)]; exact b51
      rw [eD.p i8 (w := 5) (by decide), d51]
      have y6 : yP (M2.1 1) d i ≤ 63 := yP_le hO i8
      -- all but the set
      have fr : ∀ r j, r < 46 ∨ r = 47 ∨ r = 49 ∨ 53 ≤ r → D.1 r j = K.1 r j := fun r j hr => by rw [fD r j (by omega), fC r j (by omega), fB r j (by omega), fA r j (by omega), x1 r j hr]
      have f46 : ∀ j, D.1 46 j = X.1 46 j := fun j => by rw [fD 46 j (by decide), fC 46 j (by decide), fB 46 j (by decide), fA 46 j (by decide)]
      have rows : ∀ p, p < i + 1 → D.1 48 p = M2.1 1 (12 + 6 * p + 1) ∧ D.1 51 p = J (yP (M2.1 1) d p : Nat) ∧ D.1 50 p = J (nP (M2.1 1) d p : Nat) ∧ D.1 52 p = M2.1 1 (12 + 6 * p + 3) := by
        intro p hp
        rw [fD 48 p (by decide), fC 48 p (by decide), fB 48 p (by decide), fD 51 p (by decide), fC 51 p (by decide), fD 50 p (by decide), ← hA, ← hB, ← hC, ← hD]
        rcases Nat.lt_or_eq_of_le (Nat.le_of_lt_succ hp) with z | z
        · obtain ⟨y1, y2, y3, y4⟩ := x4 p z
          rw [wrM_nj (by omega), wrM_nj (by omega), wrM_nj (by omega), wrM_nj (by omega)]
          refine ⟨y1, ?_, ?_, ?_⟩
          · rw [fA 51 p (by decide)]; exact y2
          · rw [fB 50 p (by decide), fA 50 p (by decide)]; exact y3
          · rw [fC 52 p (by decide), fB 52 p (by decide), fA 52 p (by decide)]; exact y4
        · subst z
          refine ⟨wrM_eq, wrM_eq, wrM_eq, wrM_eq⟩
      by_cases ht : M2.1 1 (12 + 6 * i + 5) = 0
      · refine okT ht ?_
        by_cases hy : yP (M2.1 1) d i = 0
        · rw [hy]
          refine okT (by decide) (okL (okS ⟨him, J_succ i, fr, fun j hj => (f46 j).trans (x2 j hj), ?_, rows⟩))
          rw [show abl (M2.1 1) d (i + 1) = abl (M2.1 1) d i from if_neg (fun z => by omega)]
          exact (f46 3).trans x3
        · refine okF (fun z => hy ?_) (okL (okL (okS ⟨him, J_succ i, fun r j hr => ?_, fun j hj => ?_, ?_, fun p hp => ?_⟩)))
          · have := (leN (b := 0) (by omega) (by omega)).1 z
            omega
          · exact (wrM_nr (by omega)).trans (fr r j hr)
          · exact (wrM_nj hj).trans ((f46 j).trans (x2 j hj))
          · show (wrM D 46 3 (D.1 46 3 ||| _)).1 46 3 = _
            rw [wrM_eq, f46 3, x3, ins_d _ (abl_b i (by omega)).1 i i8, show abl (M2.1 1) d (i + 1) = nS (abl (M2.1 1) d i) i from if_pos ⟨ht, by omega⟩]
          · obtain ⟨y1, y2, y3, y4⟩ := rows p hp
            exact ⟨(wrM_nr (by decide)).trans y1, (wrM_nr (by decide)).trans y2, (wrM_nr (by decide)).trans y3, (wrM_nr (by decide)).trans y4⟩
      · refine okF ht (okL (okS ⟨him, J_succ i, fr, fun j hj => (f46 j).trans (x2 j hj), ?_, rows⟩))
        rw [show abl (M2.1 1) d (i + 1) = abl (M2.1 1) d i from if_neg (fun z => ht z.1)]
        exact (f46 3).trans x3
    · subst him
      exact okT ((leN (by omega) (by omega)).2 (Nat.le_refl _)) (okS ⟨x1, x2, x3, x4⟩))
  exact ⟨N, e, hN⟩
/-- laid: what the planner holds -/
theorem lay_e {n d : Nat} {M1 M2 : Me} (R : RE M1 1 M2 1) (hO : RO n (M2.1 1)) (hn : n ≤ 1000) (hd : d < 1000) : ∃ N, fpX0_lay 1 (J (d : Nat)) M1 = some N ∧ (∀ r j, r < 46 ∨ r = 47 ∨ 53 ≤ r → N.1 r j = M1.1 r j) ∧ PX N (vn (M2.1 1) 0) (vn (M2.1 1) 7) (PR (M2.1 1) d) ∧ (∀ p, p < vn (M2.1 1) 0 → N.1 48 p = J (vn (M2.1 1) (12 + 6 * p + 1) : Nat) ∧ N.1 52 p = M2.1 1 (12 + 6 * p + 3)) ∧ N.1 48 8 = J (vn (M2.1 1) 7 : Nat) ∧ N.1 48 9 = J ((0 : Nat) : Int) ∧ N.1 46 5 = J (vn (M2.1 1) 3 : Nat) := by
  have k0 := hO.k0
  have k2 := hO.k2
  have k3 := hO.k3
  have k7 := hO.k7
  have hm : M2.1 1 0 = J (vn (M2.1 1) 0 : Nat) := vn_J k0.1
  have m8 : vn (M2.1 1) 0 ≤ 8 := by unfold vn; omega
  have a9 : vn (M2.1 1) 7 < 100 := by unfold vn; omega
  have sp9 : vn (M2.1 1) 3 < 100 := by unfold vn; omega
  have rm9 : vn (M2.1 1) 2 < 1000 := by unfold vn; omega
  have e2 : M1.1 1 2 = J (vn (M2.1 1) 0 : Nat) := (R 0 (by decide)).trans hm
  have e6 : M1.1 1 6 = J (vn (M2.1 1) 2 : Nat) := (R 2 (by decide)).trans (vn_J (by omega))
  have e7 : M1.1 1 7 = J (vn (M2.1 1) 3 : Nat) := (R 3 (by decide)).trans (vn_J k3.1)
  have e3 : M1.1 1 3 = J (vn (M2.1 1) 7 : Nat) := (R 7 (by decide)).trans (vn_J k7.1)
  generalize hK : wrM (wrM (wrM M1 46 2 (M1.1 1 2)) 46 4 (M1.1 1 6)) 46 3 0 = K
  have fK : ∀ r j, r ≠ 46 → K.1 r j = M1.1 r j := fun r j hr => by rw [← hK, wrM_nr hr, wrM_nr hr, wrM_nr hr]
  have K2 : K.1 46 2 = J (vn (M2.1 1) 0 : Nat) := by rw [← hK, wrM_nj (by decide), wrM_nj (by decide), wrM_eq]; exact e2
  have K4 : K.1 46 4 = J (vn (M2.1 1) 2 : Nat) := by rw [← hK, wrM_nj (by decide), wrM_eq]; exact e6
  have K3 : K.1 46 3 = 0 := by rw [← hK, wrM_eq]
  obtain ⟨X, eX, x1, x2, x3, x4⟩ := lay_l R hO hn hd hm m8 (fun r j hr => fK r j (by omega)) K2 K3
  generalize hT : wrM (wrM (wrM X 48 8 (J (vn (M2.1 1) 7 : Nat))) 48 9 0) 46 5 (J (vn (M2.1 1) 3 : Nat)) = T
  have fT : ∀ r j, r ≠ 46 → r ≠ 48 → T.1 r j = X.1 r j := fun r j h1 h2 => by rw [← hT, wrM_nr h1, wrM_nr h2, wrM_nr h2]
  have T46 : ∀ j, j ≠ 5 → T.1 46 j = X.1 46 j := fun j hj => by rw [← hT, wrM_nj hj, wrM_nr (by decide), wrM_nr (by decide)]
  have T5 : T.1 46 5 = J (vn (M2.1 1) 3 : Nat) := by rw [← hT, wrM_eq]
  have T8 : T.1 48 8 = J (vn (M2.1 1) 7 : Nat) := by rw [← hT, wrM_nr (by decide), wrM_nj (by decide), wrM_eq]
  have T9 : T.1 48 9 = J ((0 : Nat) : Int) := by rw [← hT, wrM_nr (by decide), wrM_eq]; rfl
  have Tp : ∀ p, p < 8 → T.1 48 p = X.1 48 p := fun p hp => by rw [← hT, wrM_nr (by decide), wrM_nj (by omega), wrM_nj (by omega)]
  have ml : ∀ p, p < vn (M2.1 1) 0 → T.1 48 p = J (vn (M2.1 1) (12 + 6 * p + 1) : Nat) := fun p hp => by
    rw [Tp p (by omega), (x4 p hp).1]
    exact vn_J (hO.p (by omega) (w := 1) (by decide)).1
  have ml9 : ∀ p, p < 8 → vn (M2.1 1) (12 + 6 * p + 1) < 100 := fun p hp => by
    have : 0 ≤ (M2.1 1 (12 + 6 * p + 1)).toInt ∧ (M2.1 1 (12 + 6 * p + 1)).toInt ≤ 99 := hO.p hp (w := 1) (by decide)
    unfold vn
    omega
  have pp : ∀ x, okp (vn (M2.1 1) 0) x → T.1 48 x = J (plc (PR (M2.1 1) d) (vn (M2.1 1) 7) x : Nat) ∧ plc (PR (M2.1 1) d) (vn (M2.1 1) 7) x < 100 := by
    intro x hx
    rcases hx with z | z | z
    · rw [plc_p (by omega)]
      exact ⟨ml x z, ml9 x (by omega)⟩
    · subst z
      exact ⟨T8, a9⟩
    · subst z
      exact ⟨T9, show 0 < 100 by decide⟩
  have okx : ∀ x, okp (vn (M2.1 1) 0) x → x < 10 := fun x hx => by unfold okp at hx; omega
  refine ⟨meS T 100, ?_, fun r j hr => ?_, ⟨m8, ?_, ?_, ?_, rm9, ?_, fun p hp => ?_, fun x y hx hy => ?_⟩, fun p hp => ?_, ?_, ?_, ?_⟩
  · unfold fpX0_lay letv
    have g1 : (wrM M1 46 2 (M1.1 1 2)).1 1 6 = M1.1 1 6 := wrM_nr (by decide)
    dsimp only
    rw [g1, hK, eX, Option.bind_some]
    have g3 : X.1 1 3 = J (vn (M2.1 1) 7 : Nat) := by rw [x1 1 3 (by omega), fK 1 3 (by decide)]; exact e3
    have g7 : (wrM (wrM X 48 8 (X.1 1 3)) 48 9 0).1 1 7 = J (vn (M2.1 1) 3 : Nat) := by
      rw [wrM_nr (by decide), wrM_nr (by decide), x1 1 7 (by omega), fK 1 7 (by decide)]
      exact e7
    rw [g7, g3, hT, mea_e]
    rfl
  · rw [meS_n (by omega)]
    by_cases h46 : r = 46 ∨ r = 48
    · omega
    · rw [fT r j (by omega) (by omega), x1 r j (by omega), fK r j (by omega)]
  · rw [meS_n (by decide), T46 2 (by decide), x2 2 (by decide)]; exact K2
  · have := abl_b (s := M2.1 1) (d := d) (vn (M2.1 1) 0) m8
    exact ⟨this.1, fun q hq => ((this.2 q).1 hq).1⟩
  · rw [meS_n (by decide), T46 3 (by decide)]; exact x3
  · rw [meS_n (by decide), T46 4 (by decide), x2 4 (by decide)]; exact K4
  · obtain ⟨y1, y2, y3, y4⟩ := x4 p hp
    have b1 : nP (M2.1 1) d p ≤ 33 := nP_le hO (by omega)
    have b2 : yP (M2.1 1) d p ≤ 63 := yP_le hO (by omega)
    refine ⟨show nP (M2.1 1) d p < 1000 by omega, ?_, show yP (M2.1 1) d p < 1000 by omega, ?_⟩
    · rw [meS_n (by decide), fT 50 p (by decide) (by decide)]; exact y3
    · rw [meS_n (by decide), fT 51 p (by decide) (by decide)]; exact y2
  · obtain ⟨u1, u2⟩ := pp x hx
    obtain ⟨w1, w2⟩ := pp y hy
    have hx10 := okx x hx
    have hy10 := okx y hy
    have hl : ls (vn (M2.1 1) 3) (plc (PR (M2.1 1) d) (vn (M2.1 1) 7) x) (plc (PR (M2.1 1) d) (vn (M2.1 1) 7) y) < 100 := ls_lt u2 w2
    refine ⟨Nat.lt_trans hl (by decide), ?_⟩
    rw [meS_at, if_pos ⟨rfl, by omega⟩, show (10 * x + y) / 10 = x by omega, show (10 * x + y) % 10 = y by omega, u1, w1, T5, spb_J (by omega) (by omega) (by omega)]
    rfl
  · rw [meS_n (by decide), meS_n (by decide), fT 52 p (by decide) (by decide)]
    exact ⟨ml p hp, (x4 p hp).2.2.2⟩
  · rw [meS_n (by decide)]; exact T8
  · rw [meS_n (by decide)]; exact T9
  · rw [meS_n (by decide)]; exact T5
