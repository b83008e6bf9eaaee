/-! bears, dear -/
theorem abl_cg {s t : Nat → Int32} {d : Nat} (h : ∀ k, k = 0 ∨ k = 5 ∨ 12 ≤ k → t k = s k) : ∀ i, abl t d i = abl s d i
  | 0 => rfl
  | i + 1 => by
    unfold abl yP vn
    rw [abl_cg h i, h _ (by omega), h _ (by omega), h _ (by omega), h _ (by omega), h 5 (by omega)]
theorem PR_up {s t : Nat → Int32} {d : Nat} (h : ∀ k, k = 0 ∨ k = 5 ∨ 12 ≤ k → t k = s k) : PR t d = ((PR s d).1, (PR s d).2.1, (PR s d).2.2.1, (PR s d).2.2.2.1, vn t 2, ls (vn t 3)) := by
  have e1 : (fun p => vn t (12 + 6 * p + 1)) = fun p => vn s (12 + 6 * p + 1) := funext fun p => by unfold vn; rw [h _ (by omega)]
  have ey : ∀ p, yP t d p = yP s d p := fun p => by
    unfold yP vn
    rw [h _ (by omega), h _ (by omega), h _ (by omega), h 5 (by omega)]
  have e3 : (fun p => yP t d p) = fun p => yP s d p := funext ey
  have e2 : (fun p => nP t d p) = fun p => nP s d p := funext fun p => by
    unfold nP
    rw [ey p]
    unfold vn
    rw [h _ (by omega)]
  have e0 : vn t 0 = vn s 0 := by unfold vn; rw [h 0 (by omega)]
  unfold PR
  rw [e1, e2, e3, abl_cg h, e0]
theorem fyG.w {M X : Me} {k : Nat} {v v' : Int32} (h : fyG (wrM M 1 k v) X) : fyG (wrM M 1 k v') (wrM X 1 k v') := by
  have at1 : ∀ r j, r ≠ 0 → r ≠ 5 → r ≠ 6 → r ≠ 7 → r ≠ 8 → (wrM X 1 k v').1 r j = (wrM M 1 k v').1 r j := fun r j h0 h5 h6 h7 h8 => by
    have := h.1 r j h0 h5 h6 h7 h8
    rw [wrM_at] at this
    rw [wrM_at, wrM_at]
    by_cases hc : r = 1 ∧ j = k
    · rw [if_pos hc, if_pos hc]
    · rw [if_neg hc] at this
      rw [if_neg hc, if_neg hc]
      exact this
  refine ⟨at1, fun j hj => ?_, ?_⟩
  · rw [wrM_nr (by decide), wrM_nr (by decide)]
    have := h.2.1 j hj
    rw [wrM_nr (by decide)] at this
    exact this
  · exact h.2.2
theorem fyG.w1 {M X : Me} {k : Nat} {v : Int32} (h : fyG (wrM M 1 k v) X) : X.1 1 = upd (M.1 1) k v := by rw [h.r1, wr_1]
def bF (M X : Me) : Prop := (∀ r j, r < 46 → X.1 r j = M.1 r j) ∧ MT X
theorem s25 : sim25 Rr := by
  intro n M1 M2 a hn R
  show SM n _ _
  unfold fpX5_bears fpX6_bears
  have k2 := R.2.k2
  have k4 := R.2.k4
  by_cases h : 0 ≤ a.toInt ∧ a.toInt ≤ (M2.1 1 2).toInt
  · refine .t1 ((nc0 R).2 h) (.f2 (fun z => iw0.1 z h) ?_)
    obtain ⟨w, rfl, hw'⟩ := ofI h.1
    have w9 : w < 1000 := by omega
    generalize hT : (fun d => Can (PR (M2.1 1) d) 0 w 0 (CC none) (vn (M2.1 1) 7) w) = T
    have hT' : ∀ d, T d ↔ Can (PR (M2.1 1) d) 0 w 0 (CC none) (vn (M2.1 1) 7) w := fun d => by rw [← hT]
    obtain ⟨r1, er1, hr1⟩ := lp_ok (step := fpX5_bears_l17 (J (w : Nat))) (Q := fun r => Sum.elim (fun X => bF M1 X ∧ ∀ d, d ≤ 9 → ¬ T d) (fun o => ∃ d : Nat, o.1 = J (d : Nat) ∧ d ≤ 9 ∧ T d ∧ (∀ d', d < d' → d' ≤ 9 → ¬ T d') ∧ bF M1 o.2) r) (fun i st => st.1 = J (9 - (i : Int)) ∧ bF M1 st.2 ∧ ∀ d, 9 < d + i → d ≤ 9 → ¬ T d) 10 (by omega) (s := ((9 : Int32), M1)) ⟨rfl, ⟨fun _ _ _ => rfl, R.1.2.2.2.2.2.2⟩, fun d h1 h2 => by omega⟩ (by
      intro i st hi hst
      obtain ⟨ia, X⟩ := st
      obtain ⟨s1, ⟨x1, x2⟩, x3⟩ := hst
      have s1 : ia = J (9 - (i : Int)) := s1
      have x1 : ∀ r j, r < 46 → X.1 r j = M1.1 r j := x1
      have x2 : MT X := x2
      subst s1
      show ok (fpX5_bears_l17s (J (w : Nat)) (J (9 - (i : Int))) X) _
      unfold fpX5_bears_l17s
      have lc : (J (9 - (i : Int)) < (0 : Int32)) ↔ i = 10 := by
        rw [J_0, ltJ (by omega) (by omega) (by omega) (by omega)]
        omega
      by_cases hc : i = 10
      · exact okT (lc.2 hc) (okS ⟨⟨x1, x2⟩, fun d hd => x3 d (by omega) hd⟩)
      · refine okF (fun z => hc (lc.1 z)) ?_
        have ed : J (9 - (i : Int)) = J ((9 - i : Nat) : Int) := by congr 1; omega
        obtain ⟨A, e1, f1, hA, -⟩ := lay_e (M1 := X) (M2 := M2) (n := n) (d := 9 - i) (R.1.1.same (fun dd j hdd => x1 _ _ (by omega)) (fun _ => rfl)) R.2 (by omega) (by omega)
        have mA : MT A := fun S hS l hl hb => by rw [f1 53 _ (by omega)]; exact x2 S hS l hl hb
        obtain ⟨B, q, e2, g1, g2, -, g3, g4⟩ := with_e (w := w) hA mA w9
        rw [ed]
        refine okE e1 (okE e2 ?_)
        have key : (J (q : Nat) < J (w : Nat)) ↔ ¬ T (9 - i) := by
          rw [ltN (by omega) (by omega), hT', CCn, ← g4.can]
          exact ⟨fun z ⟨q', z1, z2⟩ => by cases z1; omega, fun z => Nat.lt_of_not_le (fun y => z ⟨q, rfl, y⟩)⟩
        have fB : bF M1 B := ⟨fun r j hr => (g1 r j (by omega)).trans ((f1 r j (by omega)).trans (x1 r j hr)), g2⟩
        by_cases hq : T (9 - i)
        · refine okF (fun z => key.1 z hq) (okS ⟨9 - i, rfl, by omega, hq, fun d' h1 h2 => x3 d' (by omega) h2, fB⟩)
        · refine okT (key.2 hq) (okL (okS ⟨by omega, ?_, fB, fun d' h1 h2 => ?_⟩))
          · show J ((9 - i : Nat) : Int) + (-1 : Int32) = J (9 - ((i + 1 : Nat) : Int))
            rw [J_m1, J_add]
            congr 1
            omega
          · by_cases c : d' = 9 - i
            · rw [c]; exact hq
            · exact x3 d' (by omega) h2)
    obtain ⟨⟨fa, Y⟩, er2, ⟨v, q1⟩, q2⟩ := lp_ok (step := fpX6_bears_l28 (J (w : Nat)) (M2.1 1 4)) (Q := fun r => (∃ v, fyG (wrM M2 1 4 v) r.2) ∧ ((r.1 = (-1 : Int32) ∧ ∀ d, d ≤ 9 → ¬ T d) ∨ ∃ d : Nat, r.1 = J (d : Nat) ∧ d ≤ 9 ∧ T d ∧ ∀ d', d < d' → d' ≤ 9 → ¬ T d')) (fun i st => st.2.1 = J (9 - (i : Int)) ∧ (∃ v, fyG (wrM M2 1 4 v) st.2.2) ∧ ((st.1 = (-1 : Int32) ∧ ∀ d, 9 < d + i → d ≤ 9 → ¬ T d) ∨ ∃ d : Nat, st.1 = J (d : Nat) ∧ d ≤ 9 ∧ T d ∧ ∀ d', d < d' → d' ≤ 9 → ¬ T d')) 10 (by omega) (s := ((-1 : Int32), (9 : Int32), M2)) ⟨rfl, ⟨M2.1 1 4, by rw [wrM_id rfl]; exact fyG.rf⟩, Or.inl ⟨rfl, fun d h1 h2 => by omega⟩⟩ (by
      intro i st hi hst
      obtain ⟨fa, ia, X⟩ := st
      obtain ⟨s1, ⟨v, x1⟩, x2⟩ := hst
      have s1 : ia = J (9 - (i : Int)) := s1
      have x1 : fyG (wrM M2 1 4 v) X := x1
      subst s1
      show ok (fpX6_bears_l28s (J (w : Nat)) (M2.1 1 4) fa (J (9 - (i : Int))) X) _
      unfold fpX6_bears_l28s
      have lc : (J (9 - (i : Int)) < (0 : Int32)) ↔ i = 10 := by
        rw [J_0, ltJ (by omega) (by omega) (by omega) (by omega)]
        omega
      by_cases hc : i = 10
      · refine okT (lc.2 hc) (okS ⟨⟨v, x1⟩, ?_⟩)
        rcases x2 with ⟨y1, y2⟩ | y
        · exact Or.inl ⟨y1, fun d hd => y2 d (by omega) hd⟩
        · exact Or.inr y
      · refine okF (fun z => hc (lc.1 z)) ?_
        rcases x2 with ⟨y1, y2⟩ | ⟨d, y1, y2, y3⟩
        · have y1 : fa = (-1 : Int32) := y1
          subst y1
          refine okF (by decide) (okL ?_)
          have ed : J (9 - (i : Int)) = J ((9 - i : Nat) : Int) := by congr 1; omega
          rw [ed]
          have wY := x1.w (v' := J ((9 - i : Nat) : Int))
          have hd9 : (J ((9 - i : Nat) : Int)).toInt = ((9 - i : Nat) : Int) := tJn (by omega)
          have r1 := wY.w1
          rw [show (wrM X 1 4 (J ((9 - i : Nat) : Int))).1 1 = upd (M2.1 1) 4 (J ((9 - i : Nat) : Int)) from r1] at r1
          have r1 : (wrM X 1 4 (J ((9 - i : Nat) : Int))).1 1 = upd (M2.1 1) 4 (J ((9 - i : Nat) : Int)) := wY.w1
          have rO : RO n ((wrM X 1 4 (J ((9 - i : Nat) : Int))).1 1) := by
            rw [r1]
            exact R.2.up (Nat.le_refl n) (by decide) (by decide) (by rw [hd9]; show (0 : Int) ≤ _; omega) (by rw [hd9]; show _ ≤ (9 : Int); omega)
          obtain ⟨N, q, e1, g1, g2, -, g4⟩ := mwY_e (w := w) rO (by omega) w9
          have v4 : vn ((wrM X 1 4 (J ((9 - i : Nat) : Int))).1 1) 4 = 9 - i := by
            rw [r1]
            unfold vn
            rw [upd_eq, hd9]
            omega
          have v7 : vn ((wrM X 1 4 (J ((9 - i : Nat) : Int))).1 1) 7 = vn (M2.1 1) 7 := by
            rw [r1]
            unfold vn
            rw [upd_ne (by decide)]
          have eP : PR ((wrM X 1 4 (J ((9 - i : Nat) : Int))).1 1) (9 - i) = PR (M2.1 1) (9 - i) := by
            rw [r1, PR_up (s := M2.1 1) (fun k hk => upd_ne (by omega))]
            have a2 : vn (upd (M2.1 1) 4 (J ((9 - i : Nat) : Int))) 2 = vn (M2.1 1) 2 := by unfold vn; rw [upd_ne (by decide)]
            have a3 : vn (upd (M2.1 1) 4 (J ((9 - i : Nat) : Int))) 3 = vn (M2.1 1) 3 := by unfold vn; rw [upd_ne (by decide)]
            rw [a2, a3]
            rfl
          rw [v4, v7, eP] at g4
          refine okE e1 ?_
          have key : (J (q : Nat) < J (w : Nat)) ↔ ¬ T (9 - i) := by
            rw [ltN (by omega) (by omega), hT', CCn, ← g4.can]
            exact ⟨fun z ⟨q', z1, z2⟩ => by cases z1; omega, fun z => Nat.lt_of_not_le (fun y => z ⟨q, rfl, y⟩)⟩
          have es : J ((9 - i : Nat) : Int) + (-1 : Int32) = J (9 - ((i + 1 : Nat) : Int)) := by
            rw [J_m1, J_add]
            congr 1
            omega
          by_cases hq : T (9 - i)
          · exact okF (fun z => key.1 z hq) (okL (okS ⟨by omega, es, ⟨_, wY.tr g1⟩, Or.inr ⟨9 - i, rfl, by omega, hq, fun d' h1 h2 => y2 d' (by omega) h2⟩⟩))
          · refine okT (key.2 hq) (okL (okS ⟨by omega, es, ⟨_, wY.tr g1⟩, Or.inl ⟨rfl, fun d' h1 h2 => ?_⟩⟩))
            by_cases c : d' = 9 - i
            · rw [c]; exact hq
            · exact y2 d' (by omega) h2
        · have y1 : fa = J (d : Nat) := y1
          subst y1
          exact okT (nn0 (by omega)) (okS ⟨⟨v, x1⟩, Or.inr ⟨d, rfl, y2, y3⟩⟩))
    have q1 : fyG (wrM M2 1 4 v) Y := q1
    have fY : fyG M2 (wrM Y 1 4 (M2.1 1 4)) := by
      have := q1.w (v' := M2.1 1 4)
      rw [wrM_id rfl] at this
      exact this
    refine .b1 er1 ?_
    show SM n _ ((lp (fpX6_bears_l28 (J (w : Nat)) (M2.1 1 4)) FU ((-1 : Int32), (9 : Int32), M2)).bind fun r10 => fpX6_bears_b67 (M2.1 1 4) r10.1 r10.2)
    refine .b2 er2 ?_
    unfold fpX6_bears_b67
    show SM n _ (if (0 : Int32) ≤ fa then some (fa, wrM Y 1 4 (M2.1 1 4)) else (fpX6_finds (-1000004 : Int32) (wrM Y 1 4 (M2.1 1 4))).bind fun q => some (q.1, q.2))
    rcases r1 with X | ⟨da, X⟩
    · obtain ⟨z1, z2⟩ := hr1
      rcases q2 with ⟨y1, -⟩ | ⟨d, y1, y2, y3, -⟩
      · have y1 : fa = (-1 : Int32) := y1
        subst y1
        exact .f2 (by decide) (.fi (R.H z1.1 z1.2 fY.h) 3 (by decide) rfl rfl)
      · exact absurd y3 (z2 d y2)
    · obtain ⟨d, z1, z2, z3, z4, z5⟩ := hr1
      have z1 : da = J (d : Nat) := z1
      subst z1
      rcases q2 with ⟨-, y2⟩ | ⟨d', y1, y2, y3, y4⟩
      · exact absurd z3 (y2 d z2)
      · have y1 : fa = J (d' : Nat) := y1
        subst y1
        have : d = d' := by
          rcases Nat.lt_trichotomy d d' with c | c | c
          · exact absurd y3 (z4 d' c y2)
          · exact c
          · exact absurd z3 (y4 d c z2)
        subst this
        exact .t2 (nn0 (by omega)) (.e rfl ((R.H z5.1 z5.2 fY.h).mono (Nat.le_succ n)))
  · exact .f1 (fun z => h ((nc0 R).1 z)) (.t2 (iw0.2 h) (.fi R 0 (by decide) rfl rfl))
/-- two problems alike at some pumps -/
def lik (P Q : Pr) (p : Nat) : Prop := pml P p = pml Q p ∧ pnd P p = pnd Q p ∧ pyl P p = pyl Q p ∧ (pab P).testBit p = (pab Q).testBit p
theorem fr_cg {P Q : Pr} (hr : prom P = prom Q) (hl : pls P = pls Q) : ∀ (u : List Nat) (a w : Nat), (∀ p, p ∈ u → lik P Q p) → fr P a w u = fr Q a w u
  | [], _, _, _ => rfl
  | p :: t, a, w, h => by
    obtain ⟨h1, h2, h3, h4⟩ := h p (by simp)
    show (rn P p (cr P w a (pml P p))).bind (fun x => fr P (pml P p) x t) = (rn Q p (cr Q w a (pml Q p))).bind (fun x => fr Q (pml Q p) x t)
    have er : rn P p (cr P w a (pml P p)) = rn Q p (cr Q w a (pml Q p)) := by
      unfold rn cr
      rw [h1, h2, h3, h4, hr, hl]
    rw [er, h1]
    cases rn Q p (cr Q w a (pml Q p)) with
    | none => rfl
    | some x => exact fr_cg hr hl t _ x (fun q hq => h q (List.mem_cons_of_mem _ hq))
theorem bk_cg {P Q : Pr} {u : List Nat} {e a w : Nat} (hr : prom P = prom Q) (hl : pls P = pls Q) (h : ∀ p, p ∈ u → lik P Q p) : bk P e a w u = bk Q e a w u := by
  unfold bk cr
  rw [fr_cg hr hl u a w h, hl]
theorem Bst.cg {P Q : Pr} {e a w may : Nat} {C : Nat → Prop} {o : Option Nat} (hr : prom P = prom Q) (hl : pls P = pls Q) (h : ∀ p, may.testBit p = true → lik P Q p) (hb : Bst P e a w may C o) : Bst Q e a w may C o := by
  constructor
  · intro q hq
    obtain ⟨u, g1, g2⟩ := hb.1 q hq
    exact ⟨u, g1, by rw [← bk_cg hr hl (fun p hp => h p (g1.2.1 p hp))]; exact g2⟩
  · intro u q g1 g2
    exact hb.2 u q g1 (by rw [bk_cg hr hl (fun p hp => h p (g1.2.1 p hp))]; exact g2)
theorem PX.able {M N : Me} {m s ab' : Nat} {P : Pr} (h : PX M m s P) (hb : ab' < 256) (hm : ∀ q, ab'.testBit q = true → q < m) (f3 : N.1 46 3 = J (ab' : Nat)) (f : ∀ r j, 46 ≤ r → r < 53 → ¬ (r = 46 ∧ j = 3) → N.1 r j = M.1 r j) : PX N m s (P.1, P.2.1, P.2.2.1, ab', P.2.2.2.2) := by
  obtain ⟨h1, h2, h3, h4, h5, h6, h7, h8⟩ := h
  refine ⟨h1, by rw [f _ _ (by omega) (by omega) (by omega)]; exact h2, ⟨hb, hm⟩, f3, h5, by rw [f _ _ (by omega) (by omega) (by omega)]; exact h6, fun p hp => ?_, fun x y hx hy => ?_⟩
  · rw [f _ _ (by omega) (by omega) (by omega), f _ _ (by omega) (by omega) (by omega)]
    exact h7 p hp
  · rw [f _ _ (by omega) (by omega) (by omega)]
    exact h8 x y hx hy
theorem s21 : sim21 Rr := by
  intro n M1 M2 a hn R
  show SM n _ _
  unfold fpX5_dear fpX6_dear
  have k0 := R.2.k0
  have k2 := R.2.k2
  have k7 := R.2.k7
  by_cases h : 0 ≤ a.toInt ∧ a.toInt ≤ (M2.1 1 2).toInt
  · refine .t1 ((nc0 R).2 h) (.f2 (fun z => iw0.1 z h) ?_)
    obtain ⟨w, rfl, hw'⟩ := ofI h.1
    have w9 : w < 1000 := by omega
    obtain ⟨D, e4, d1, hD⟩ := fy_e R.2 (by omega)
    obtain ⟨A, e1, f1, mA, hA, -⟩ := layR R (by omega)
    have m8 := hA.1
    have a9 : vn (M2.1 1) 7 < 1000 := by unfold vn; omega
    have a7 : D.1 1 7 = J (vn (M2.1 1) 7 : Nat) := (d1.1 1 7 (by decide) (by decide) (by decide) (by decide)).trans (vn_J k7.1)
    have em : M1.1 1 2 = J (vn (M2.1 1) 0 : Nat) := (R.1.1 0 (by decide)).trans (vn_J k0.1)
    have rO := R.2
    generalize hP : PR (M2.1 1) (vn (M2.1 1) 4) = P at hA hD
    generalize hs : vn (M2.1 1) 7 = s at hA a7 a9
    generalize hm : vn (M2.1 1) 0 = m at hA hD m8 em
    have ab := hA.2.2.1
    refine .b2 e4 ?_
    rw [em]
    by_cases hz : m = 0
    · refine .t1 ((eqN (b := 0) (by omega) (by omega)).2 hz) ?_
      have e5 : lp (fpX6_dear_l26 (J (w : Nat))) FU ((-1 : Int32), (0 : Int32), (0 : Int32), D) = some ((-1 : Int32), D) := by
        refine lp_tr (fun _ => ((-1 : Int32), (0 : Int32), (0 : Int32), D)) 0 (by decide) (fun j hj => absurd hj (Nat.not_lt_zero _)) ?_
        show fpX6_dear_l26s (J (w : Nat)) (-1 : Int32) (0 : Int32) (0 : Int32) D = _
        unfold fpX6_dear_l26s
        rw [hD.2.1, hz, if_pos (show J ((0 : Nat) : Int) ≤ (0 : Int32) by decide)]
      exact .b2 e5 (.f2 (show ¬ (0 : Int32) ≤ (-1 : Int32) by decide) (.fi (R.H (fun _ _ _ => rfl) R.1.2.2.2.2.2.2 d1.g.h) 3 (by decide) rfl rfl))
    · refine .f1 (fun z => hz ((eqN (b := 0) (by omega) (by omega)).1 z)) ?_
      obtain ⟨⟨ra, X⟩, ⟨rb, Y⟩, l1, l2, b, b8, q1, q2, x1, x2, y1⟩ := lpp (s1 := fpX0_dearest_l14 (J (w : Nat)) (J (pab P : Nat))) (s2 := fpX6_dear_l26 (J (w : Nat))) (Q := fun r1 r2 => ∃ b : Nat, b < 8 ∧ r1.1 = J (b : Nat) ∧ r2.1 = J (b : Nat) ∧ (∀ r j, r < 46 → r1.2.1 r j = A.1 r j) ∧ MT r1.2 ∧ (∀ r j, r ≠ 8 → r2.2.1 r j = D.1 r j)) (fun i x y => x.2.2.1 = J (i : Nat) ∧ y.2.2.1 = J (i : Nat) ∧ ((i = 0 ∧ x.1 = 0 ∧ x.2.1 = 1000000 ∧ y.1 = (-1 : Int32)) ∨ ∃ b l : Nat, x.1 = J (b : Nat) ∧ y.1 = J (b : Nat) ∧ b < 8 ∧ l < 1000 ∧ x.2.1 = J (l : Nat) ∧ y.2.1 = J (l : Nat)) ∧ (∀ r j, r ≠ 53 → ¬ (r = 46 ∧ j = 3) → x.2.2.2.1 r j = A.1 r j) ∧ MT x.2.2.2 ∧ (∀ r j, r ≠ 8 → y.2.2.2.1 r j = D.1 r j)) m (by omega) (x := ((0 : Int32), (1000000 : Int32), (0 : Int32), A)) (y := ((-1 : Int32), (0 : Int32), (0 : Int32), D)) ⟨rfl, rfl, Or.inl ⟨rfl, rfl, rfl, rfl⟩, fun _ _ _ _ => rfl, mA, fun _ _ _ => rfl⟩ (by
        intro i x y hi hxy
        obtain ⟨xa, xl, xi, X⟩ := x
        obtain ⟨ya, yl, yi, Y⟩ := y
        obtain ⟨s1, s2, hc, x1, x2, y1⟩ := hxy
        have s1 : xi = J (i : Nat) := s1
        have s2 : yi = J (i : Nat) := s2
        have x1 : ∀ r j, r ≠ 53 → ¬ (r = 46 ∧ j = 3) → X.1 r j = A.1 r j := x1
        have x2 : MT X := x2
        have y1 : ∀ r j, r ≠ 8 → Y.1 r j = D.1 r j := y1
        subst s1
        subst s2
        show (∃ x' y', fpX0_dearest_l14s (J (w : Nat)) (J (pab P : Nat)) xa xl (J (i : Nat)) X = some (.inl x') ∧ fpX6_dear_l26s (J (w : Nat)) ya yl (J (i : Nat)) Y = some (.inl y') ∧ _) ∨ (∃ r1 r2, fpX0_dearest_l14s (J (w : Nat)) (J (pab P : Nat)) xa xl (J (i : Nat)) X = some (.inr r1) ∧ fpX6_dear_l26s (J (w : Nat)) ya yl (J (i : Nat)) Y = some (.inr r2) ∧ _)
        have hY : PY Y m P := hD.same y1
        have eX2 : X.1 46 2 = J (m : Nat) := (x1 46 2 (by decide) (by omega)).trans hA.2.1
        unfold fpX0_dearest_l14s fpX6_dear_l26s
        rw [eX2, hY.2.1]
        rcases Nat.lt_or_eq_of_le hi with him | him
        · have cn : ¬ J (m : Nat) ≤ J (i : Nat) := fun z => by have := (leN (by omega) (by omega)).1 z; omega
          rw [if_neg cn, if_neg cn]
          have i8 : i < 8 := by omega
          have dlt := dl_lt _ ab.1 i i8
          have dsub : ∀ q, (dl (pab P) i).testBit q = true → (pab P).testBit q = true := fun q hq => by
            have q8 := bit_lt dlt hq
            rw [dl_bit _ ab.1 i i8 q q8] at hq
            simp only [Bool.and_eq_true] at hq
            exact hq.1
          have dm : ∀ q, (dl (pab P) i).testBit q = true → q < m := fun q hq => ab.2 q (dsub q hq)
          rw [hY.2.2.2.1, (y1 1 7 (by decide)).trans a7, del_d _ ab.1 i i8]
          generalize hK : wrM X 46 3 (J (dl (pab P) i : Nat)) = K
          have K3 : K.1 46 3 = J (dl (pab P) i : Nat) := by rw [← hK]; exact wrM_eq
          have Kn : ∀ r j, ¬ (r = 46 ∧ j = 3) → K.1 r j = X.1 r j := fun r j hr => by rw [← hK, wrM_at, if_neg hr]
          have hKP : PX K m s (P.1, P.2.1, P.2.2.1, dl (pab P) i, P.2.2.2.2) := hA.able dlt dm K3 (fun r j r1 r2 r3 => (Kn r j r3).trans (x1 r j (by omega) r3))
          have mK : MT K := fun S hS l hl hb => by rw [Kn 53 _ (by omega)]; exact x2 S hS l hl hb
          obtain ⟨B, q, e5, g1, g2, -, g3, g4⟩ := with_e (w := w) hKP mK w9
          obtain ⟨E, o, e6, g5, -, g6, g7⟩ := best_e (a := s) (w := w) (e := 0) (may := dl (pab P) i) (cnt := -1) (C := fun _ => True) hY a9 w9 (by decide) dlt dm ⟨fun z => absurd z (by decide), fun z => absurd trivial z⟩ (fun S _ => ⟨fun _ => trivial, fun _ => Or.inl (by decide)⟩)
          have eo : o = some q := by
            refine g6.uniq (Bst.cg (P := (P.1, P.2.1, P.2.2.1, dl (pab P) i, P.2.2.2.2)) rfl rfl (fun p hp => ⟨rfl, rfl, rfl, ?_⟩) g4)
            show (dl (pab P) i).testBit p = (pab P).testBit p
            rw [hp, dsub p hp]
          subst eo
          have e6 : fpX6_bestFrom (J (s : Nat)) (J (w : Nat)) (J (dl (pab P) i : Nat)) (-1 : Int32) (0 : Int32) Y = some (J (q : Nat), E) := e6
          unfold letv
          dsimp only
          rw [e5, Option.bind_some, e6, Option.bind_some, J_succ]
          have fB : ∀ r j, r ≠ 53 → ¬ (r = 46 ∧ j = 3) → B.1 r j = A.1 r j := fun r j h53 h46 => (g1 r j h53).trans ((Kn r j h46).trans (x1 r j h53 h46))
          have fE : ∀ r j, r ≠ 8 → E.1 r j = D.1 r j := fun r j hr => (g5 r j hr).trans (y1 r j hr)
          rcases hc with ⟨-, c1, c2, c3⟩ | ⟨b, l, c1, c2, c3, c4, c5, c6⟩
          · have c1 : xa = 0 := c1
            have c2 : xl = 1000000 := c2
            have c3 : ya = (-1 : Int32) := c3
            subst c1
            subst c2
            subst c3
            rw [if_neg (show ¬ (1000000 : Int32) ≤ J (q : Nat) from fun z => by have := (leN (a := 1000000) (by omega) (by omega)).1 z; omega), if_pos (show (-1 : Int32) < 0 by decide)]
            exact Or.inl ⟨_, _, rfl, rfl, him, rfl, rfl, Or.inr ⟨i, q, rfl, rfl, i8, g3, rfl, rfl⟩, fB, g2, fE⟩
          · have c1 : xa = J (b : Nat) := c1
            have c2 : ya = J (b : Nat) := c2
            have c5 : xl = J (l : Nat) := c5
            have c6 : yl = J (l : Nat) := c6
            subst c1
            subst c2
            subst c5
            subst c6
            rw [if_neg (show ¬ J (b : Nat) < (0 : Int32) from fun z => by have := (ltN (b := 0) (by omega) (by omega)).1 z; omega)]
            by_cases cq : J (l : Nat) ≤ J (q : Nat)
            · rw [if_pos cq, if_pos cq]
              exact Or.inl ⟨_, _, rfl, rfl, him, rfl, rfl, Or.inr ⟨b, l, rfl, rfl, c3, c4, rfl, rfl⟩, fB, g2, fE⟩
            · rw [if_neg cq, if_neg cq]
              exact Or.inl ⟨_, _, rfl, rfl, him, rfl, rfl, Or.inr ⟨i, q, rfl, rfl, i8, g3, rfl, rfl⟩, fB, g2, fE⟩
        · have cn : J (m : Nat) ≤ J (i : Nat) := (leN (by omega) (by omega)).2 (by omega)
          rw [if_pos cn, if_pos cn]
          rcases hc with ⟨c0, -⟩ | ⟨b, l, c1, c2, c3⟩
          · exact absurd (him.symm.trans c0) hz
          · exact Or.inr ⟨_, _, rfl, rfl, b, c3.1, c1, c2, fun r j hr => x1 r j (by omega) (by omega), x2, y1⟩)
      have q1 : ra = J (b : Nat) := q1
      have q2 : rb = J (b : Nat) := q2
      have x1 : ∀ r j, r < 46 → X.1 r j = A.1 r j := x1
      have x2 : MT X := x2
      have y1 : ∀ r j, r ≠ 8 → Y.1 r j = D.1 r j := y1
      subst q1
      subst q2
      have eD : fpX0_dearest (J (w : Nat)) A = some (J (b : Nat), wrM X 46 3 (J (pab P : Nat))) := by
        unfold fpX0_dearest letv
        dsimp only
        rw [hA.2.2.2.1, l1]
        rfl
      refine .b1 e1 (.b1 eD (.b2 l2 ?_))
      refine .t2 (show (0 : Int32) ≤ J (b : Nat) from nn0 (by omega)) (.e rfl ?_)
      · refine (R.H (fun r j hr => (wrM_nr (by omega)).trans ((x1 r j hr).trans (f1 r j (by omega)))) (fun S hS l hl hb => (wrM_nr (by decide)).trans (x2 S hS l hl hb)) ?_).mono (Nat.le_succ n)
        exact ⟨fun r j hr => (y1 r j (by omega)).trans (d1.1 r j (by omega) (by omega) (by omega) (by omega)), fun j h8 h12 => (y1 0 j (by decide)).trans (d1.2.1 j h8)⟩
  · exact .f1 (fun z => h ((nc0 R).1 z)) (.t2 (iw0.2 h) (.fi R 0 (by decide) rfl rfl))
