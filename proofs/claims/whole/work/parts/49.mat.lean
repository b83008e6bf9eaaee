/-! matters -/
def spP (P : Pr) (v : Nat) : Pr := (P.1, P.2.1, P.2.2.1, P.2.2.2.1, P.2.2.2.2.1, ls v)
theorem ls_mono {v v' a b : Nat} (h : 1 ≤ v) (hv : v ≤ v') : ls v' a b ≤ ls v a b := by
  unfold ls
  rw [if_neg (by omega), if_neg (by omega)]
  exact Nat.div_le_div_left hv (by omega)
theorem PX.meas {A X : Me} {m s v : Nat} {P : Pr} (h : PX A m s P) (hv : v < 1000) (h48 : ∀ x, okp m x → A.1 48 x = J (plc P s x : Nat) ∧ plc P s x < 100) (f : ∀ r j, r ≠ 53 → r ≠ 49 → ¬ (r = 46 ∧ j = 5) → X.1 r j = A.1 r j) (h5 : X.1 46 5 = J (v : Nat)) : PX (meS X 100) m s (spP P v) := by
  obtain ⟨h1, h2, h3, h4, h5', h6, h7, h8⟩ := h
  have okx : ∀ x, okp m x → x < 10 := fun x hx => by unfold okp at hx; omega
  refine ⟨h1, ?_, h3, ?_, h5', ?_, fun p hp => ?_, fun x y hx hy => ?_⟩
  · rw [meS_n (by decide), f _ _ (by omega) (by omega) (by omega)]; exact h2
  · rw [meS_n (by decide), f _ _ (by omega) (by omega) (by omega)]; exact h4
  · rw [meS_n (by decide), f _ _ (by omega) (by omega) (by omega)]; exact h6
  · rw [meS_n (by decide), meS_n (by decide), f _ _ (by omega) (by omega) (by omega), f _ _ (by omega) (by omega) (by omega)]
    exact h7 p hp
  · obtain ⟨u1, u2⟩ := h48 x hx
    obtain ⟨w1, w2⟩ := h48 y hy
    have hx10 := okx x hx
    have hy10 := okx y hy
    have hl : ls v (plc P s x) (plc P s y) < 100 := ls_lt u2 w2
    refine ⟨Nat.lt_trans hl (by decide), ?_⟩
    rw [meS_at, if_pos ⟨rfl, by omega⟩, show (10 * x + y) / 10 = x by omega, show (10 * x + y) % 10 = y by omega, f _ _ (by omega) (by omega) (by omega), f _ _ (by omega) (by omega) (by omega), u1, w1, h5, spb_J (by omega) (by omega) (by omega)]
    rfl
theorem hs_d : ∀ i, i < 7 → 0 < 64 / 2 ^ i ∧ 64 / 2 ^ i ≤ 64 ∧ 128 / 2 ^ i = 2 * (64 / 2 ^ i) ∧ 128 / 2 ^ (i + 1) = 64 / 2 ^ i ∧ 64 / 2 ^ i / 2 = 64 / 2 ^ (i + 1) := by decide
/-- the class's greatest spills that cost -/
theorem gsp_e {A : Me} {m s w : Nat} {P : Pr} (h : PX A m s P) (mA : MT A) (hw : w < 1000) (h48 : ∀ x, okp m x → A.1 48 x = J (plc P s x : Nat) ∧ plc P s x < 100) : ∃ c top X, fpX0_greatestSpillsThatCost (J (w : Nat)) A = some (J (c : Nat), X) ∧ (∀ r j, r < 46 → X.1 r j = A.1 r j) ∧ MT X ∧ top < 1000 ∧ Bst (spP P 0) 0 s w (pab P) (fun _ => True) (some top) ∧ c ≤ 99 ∧ (c = 0 ∨ ¬ Can (spP P c) 0 top 0 (CC none) s w) ∧ ∀ v, c < v → v ≤ 99 → Can (spP P v) 0 top 0 (CC none) s w := by
  have mS : ∀ X : Me, MT X → MT (meS X 100) := fun X hX S hS l hl hb => (meS_n (by decide)).trans (hX S hS l hl hb)
  have f0 : ∀ r j, ¬ (r = 46 ∧ j = 5) → (wrM A 46 5 (0 : Int32)).1 r j = A.1 r j := fun r j hr => by rw [wrM_at, if_neg hr]
  have h0 : PX (meS (wrM A 46 5 (0 : Int32)) 100) m s (spP P 0) := h.meas (by decide) h48 (fun r j _ _ hr => f0 r j hr) wrM_eq
  have m0 : MT (meS (wrM A 46 5 (0 : Int32)) 100) := mS _ (fun S hS l hl hb => (f0 53 _ (by omega)).trans (mA S hS l hl hb))
  obtain ⟨B, top, e1, b1, b2, -, t9, g0⟩ := with_e (w := w) h0 m0 hw
  have g0 : Bst (spP P 0) 0 s w (pab P) (fun _ => True) (some top) := g0
  generalize hT : (fun r => Can (spP P r) 0 top 0 (CC none) s w) = T
  have hT' : ∀ r, T r ↔ Can (spP P r) 0 top 0 (CC none) s w := fun r => by rw [← hT]
  have mono : ∀ r r', 1 ≤ r → T r → r ≤ r' → T r' := fun r r' h0 h1 h2 => (hT' r').2 (Can.mr (L := ls r) (L' := ls r') (Nat.le_refl _) (fun _ _ => ls_mono h0 h2) ((hT' r).1 h1))
  obtain ⟨⟨ra, X⟩, er, L, q1, q2, q3, q4, q5, q6⟩ := lp_ok (step := fpX0_greatestSpillsThatCost_l21 (J (w : Nat)) (J (top : Nat))) (Q := fun r => ∃ L : Nat, r.1 = J (L : Nat) ∧ L ≤ 99 ∧ (L = 0 ∨ ¬ T L) ∧ (∀ v, L < v → v ≤ 99 → T v) ∧ (∀ r' j, r' < 46 → r.2.1 r' j = A.1 r' j) ∧ MT r.2) (fun i st => i ≤ 7 ∧ st.2.1 = J (64 / 2 ^ i : Nat) ∧ ∃ L : Nat, st.1 = J (L : Nat) ∧ L ≤ 99 ∧ (L = 0 ∨ ¬ T L) ∧ (∀ v, L + 128 / 2 ^ i ≤ v → v ≤ 99 → T v) ∧ (∀ r' j, r' ≠ 53 → r' ≠ 49 → ¬ (r' = 46 ∧ j = 5) → st.2.2.1 r' j = A.1 r' j) ∧ MT st.2.2) 7 (by omega) (s := ((0 : Int32), (64 : Int32), B)) ⟨by omega, rfl, 0, rfl, by omega, Or.inl rfl, fun v h1 h2 => by omega, fun r' j h1 h2 h3 => (b1 r' j h1).trans ((meS_n h2).trans (f0 r' j h3)), b2⟩ (by
    intro i st hi hst
    obtain ⟨la, sa, X⟩ := st
    obtain ⟨-, s1, L, s2, x1, x2, x3, x5, x6⟩ := hst
    have s1 : sa = J (64 / 2 ^ i : Nat) := s1
    have s2 : la = J (L : Nat) := s2
    have x5 : ∀ r' j, r' ≠ 53 → r' ≠ 49 → ¬ (r' = 46 ∧ j = 5) → X.1 r' j = A.1 r' j := x5
    have x6 : MT X := x6
    subst s1
    subst s2
    show ok (fpX0_greatestSpillsThatCost_l21s (J (w : Nat)) (J (top : Nat)) (J (L : Nat)) (J (64 / 2 ^ i : Nat)) X) _
    unfold fpX0_greatestSpillsThatCost_l21s
    rcases Nat.lt_or_eq_of_le hi with hin | hin
    · obtain ⟨v1, v2, v3, v4, v5⟩ := hs_d i hin
      generalize 64 / 2 ^ i = st at v1 v2 v3 v4 v5
      refine okF (fun z => by have := (leN (b := 0) (by omega) (by omega)).1 z; omega) ?_
      have eh : J (st : Nat) / (2 : Int32) = J ((64 / 2 ^ (i + 1) : Nat) : Int) := by
        rw [← v5]
        exact divN (b := 2) (by omega) (by decide) (by decide)
      rw [addN, eh]
      by_cases c1 : 99 < L + st
      · exact okT ((ltN (a := 99) (by omega) (by omega)).2 c1) (okL (okS ⟨hin, by omega, rfl, L, rfl, x1, x2, fun v h1 h2 => by omega, x5, x6⟩))
      · refine okF (fun z => c1 ((ltN (a := 99) (by omega) (by omega)).1 z)) (okL ?_)
        generalize hK : wrM X 46 5 (J ((L + st : Nat) : Int)) = K
        have K5 : K.1 46 5 = J ((L + st : Nat) : Int) := by rw [← hK]; exact wrM_eq
        have Kn : ∀ r j, ¬ (r = 46 ∧ j = 5) → K.1 r j = X.1 r j := fun r j hr => by rw [← hK, wrM_at, if_neg hr]
        have hKP : PX (meS K 100) m s (spP P (L + st)) := h.meas (by omega) h48 (fun r j h1 h2 h3 => (Kn r j h3).trans (x5 r j h1 h2 h3)) K5
        have mK : MT (meS K 100) := mS _ (fun S hS l hl hb => by rw [Kn 53 _ (by omega)]; exact x6 S hS l hl hb)
        obtain ⟨N, q, e2, g1, g2, -, g3, g4⟩ := with_e (w := w) hKP mK hw
        refine okE mea_e (okE e2 ?_)
        have key : (J (top : Nat) ≤ J (q : Nat)) ↔ T (L + st) := by
          rw [leN (by omega) (by omega), hT']
          exact Tq (P := spP P (L + st)) g4
        have fN : ∀ r' j, r' ≠ 53 → r' ≠ 49 → ¬ (r' = 46 ∧ j = 5) → N.1 r' j = A.1 r' j := fun r' j h1 h2 h3 => (g1 r' j h1).trans ((meS_n h2).trans ((Kn r' j h3).trans (x5 r' j h1 h2 h3)))
        by_cases hq : T (L + st)
        · exact okT (key.2 hq) (okL (okS ⟨hin, by omega, rfl, L, rfl, x1, x2, fun v h1 h2 => mono (L + st) v (by omega) hq (by omega), fN, g2⟩))
        · refine okF (fun z => hq (key.1 z)) (okL (okL ?_))
          have e5 : N.1 46 5 = J ((L + st : Nat) : Int) := (g1 46 5 (by decide)).trans ((meS_n (by decide)).trans K5)
          show ok (some (Sum.inl (N.1 46 5, J ((64 / 2 ^ (i + 1) : Nat) : Int), N))) _
          rw [e5]
          refine okS ⟨hin, by omega, rfl, L + st, rfl, by omega, Or.inr hq, fun v h1 h2 => x3 v (by omega) h2, fN, g2⟩
    · subst hin
      exact okT (by decide) (okS ⟨L, rfl, x1, x2, fun v h1 h2 => x3 v h1 h2, fun r' j hr => x5 r' j (by omega) (by omega) (by omega), x6⟩))
  have q1 : ra = J (L : Nat) := q1
  subst q1
  refine ⟨L, top, X, ?_, q5, q6, t9, g0, q2, ?_, fun v h1 h2 => (hT' v).1 (q4 v h1 h2)⟩
  · unfold fpX0_greatestSpillsThatCost letv
    dsimp only
    rw [mea_e, Option.bind_some, e1, Option.bind_some]
    have er : lp (fpX0_greatestSpillsThatCost_l21 (J (w : Nat)) (J (top : Nat))) FU ((0 : Int32), (64 : Int32), B) = some (J (L : Nat), X) := er
    rw [er]
    rfl
  · rcases q3 with z | z
    · exact Or.inl z
    · exact Or.inr (fun y => z ((hT' L).2 y))
/-- the model's most at some spills -/
theorem mwS {M X : Me} {n w r : Nat} {v : Int32} (hO : RO n (M.1 1)) (hn : n ≤ 1000) (hw : w < 1000) (r2 : r ≤ 99) (hX : fyG (wrM M 1 3 v) X) : ∃ N q, fpX6_mostWith (J (w : Nat)) (wrM X 1 3 (J (r : Nat))) = some (J (q : Nat), N) ∧ fyG (wrM M 1 3 (J (r : Nat))) N ∧ q < 1000 ∧ Bst (spP (PR (M.1 1) (vn (M.1 1) 4)) r) 0 (vn (M.1 1) 7) w (pab (PR (M.1 1) (vn (M.1 1) 4))) (fun _ => True) (some q) := by
  have wY := hX.w (v' := J (r : Nat))
  have er : (wrM X 1 3 (J (r : Nat))).1 1 = upd (M.1 1) 3 (J (r : Nat)) := wY.w1
  have hr : (J (r : Nat)).toInt = r := tJn (by omega)
  have rO : RO n ((wrM X 1 3 (J (r : Nat))).1 1) := by
    rw [er]
    exact hO.up (Nat.le_refl n) (by decide) (by decide) (by rw [hr]; show (0 : Int) ≤ _; omega) (by rw [hr]; show _ ≤ (99 : Int); omega)
  obtain ⟨N, q, e1, g1, g2, -, g4⟩ := mwY_e (M := wrM X 1 3 (J (r : Nat))) (n := n) (w := w) rO hn hw
  refine ⟨N, q, e1, wY.tr g1, g2, ?_⟩
  have v4 : vn (upd (M.1 1) 3 (J (r : Nat))) 4 = vn (M.1 1) 4 := by unfold vn; rw [upd_ne (by decide)]
  have v7 : vn (upd (M.1 1) 3 (J (r : Nat))) 7 = vn (M.1 1) 7 := by unfold vn; rw [upd_ne (by decide)]
  have v2 : vn (upd (M.1 1) 3 (J (r : Nat))) 2 = vn (M.1 1) 2 := by unfold vn; rw [upd_ne (by decide)]
  have v3 : vn (upd (M.1 1) 3 (J (r : Nat))) 3 = r := by unfold vn; rw [upd_eq, hr]; omega
  have eP : PR (upd (M.1 1) 3 (J (r : Nat))) (vn (M.1 1) 4) = spP (PR (M.1 1) (vn (M.1 1) 4)) r := by
    rw [PR_up (s := M.1 1) (fun k hk => upd_ne (by omega)), v2, v3]
    rfl
  rw [er, v4, v7, eP] at g4
  exact g4
theorem lay48 {n : Nat} {M2 A : Me} {d : Nat} (hO : RO n (M2.1 1)) (m8 : vn (M2.1 1) 0 ≤ 8) (h1 : ∀ p, p < vn (M2.1 1) 0 → A.1 48 p = J (vn (M2.1 1) (12 + 6 * p + 1) : Nat)) (h8 : A.1 48 8 = J (vn (M2.1 1) 7 : Nat)) (h9 : A.1 48 9 = J ((0 : Nat) : Int)) : ∀ x, okp (vn (M2.1 1) 0) x → A.1 48 x = J (plc (PR (M2.1 1) d) (vn (M2.1 1) 7) x : Nat) ∧ plc (PR (M2.1 1) d) (vn (M2.1 1) 7) x < 100 := by
  intro x hx
  have k7 := hO.k7
  rcases hx with z | z | z
  · rw [plc_p (by omega)]
    have h : 0 ≤ (M2.1 1 (12 + 6 * x + 1)).toInt ∧ (M2.1 1 (12 + 6 * x + 1)).toInt ≤ 99 := hO.p (show x < 8 by omega) (w := 1) (by decide)
    exact ⟨h1 x z, show vn (M2.1 1) (12 + 6 * x + 1) < 100 by unfold vn; omega⟩
  · subst z
    exact ⟨h8, show vn (M2.1 1) 7 < 100 by unfold vn; omega⟩
  · subst z
    exact ⟨h9, show 0 < 100 by decide⟩
theorem s23 : sim23 Rr := by
  intro n M1 M2 a hn R
  show SM n _ _
  unfold fpX5_matters fpX6_matters
  have k2 := R.2.k2
  by_cases h : 0 ≤ a.toInt ∧ a.toInt ≤ (M2.1 1 2).toInt
  · refine .t1 ((nc0 R).2 h) (.f2 (fun z => iw0.1 z h) ?_)
    obtain ⟨w, rfl, hw'⟩ := ofI h.1
    have w9 : w < 1000 := by omega
    obtain ⟨A, e1, f1, mA, hA, u1, u2, u3, u4⟩ := layR R (by omega)
    obtain ⟨c, top, X, e2, x1, x2, x3, x4, x5, x6, x7⟩ := gsp_e hA mA w9 (lay48 R.2 hA.1 (fun p hp => (u1 p hp).1) u2 u3)
    obtain ⟨D, q, e3, d1, d2, d3⟩ := mwS (X := M2) (v := M2.1 1 3) (w := w) (r := 0) R.2 (by omega) w9 (by decide) (by rw [wrM_id rfl]; exact fyG.rf)
    have eq : top = q := by
      have := x4.uniq d3
      exact Option.some.inj this
    subst eq
    generalize hT : (fun r => Can (spP (PR (M2.1 1) (vn (M2.1 1) 4)) r) 0 top 0 (CC none) (vn (M2.1 1) 7) w) = T
    have hT' : ∀ r, T r ↔ Can (spP (PR (M2.1 1) (vn (M2.1 1) 4)) r) 0 top 0 (CC none) (vn (M2.1 1) 7) w := fun r => by rw [← hT]
    refine .b1 e1 (.b1 e2 ?_)
    show SM n (if J (c : Nat) = 0 then (fpX5_finding (3 : Int32) X).bind fun q5 => some (q5.1, q5.2) else some (J (c : Nat), X)) ((fpX6_mostWith (J (w : Nat)) (wrM M2 1 3 (0 : Int32))).bind fun q4 => (lp (fpX6_matters_l42 (J (w : Nat)) (M2.1 1 3) q4.1) FU ((-1 : Int32), (99 : Int32), q4.2)).bind fun r12 => fpX6_matters_b83 (M2.1 1 3) r12.1 r12.2)
    refine .b2 e3 ?_
    obtain ⟨⟨fa, Y⟩, er, ⟨v, q1⟩, q2⟩ := lp_ok (step := fpX6_matters_l42 (J (w : Nat)) (M2.1 1 3) (J (top : Nat))) (Q := fun r => (∃ v, fyG (wrM M2 1 3 v) r.2) ∧ ((r.1 = (-1 : Int32) ∧ ∀ d, 1 ≤ d → d ≤ 99 → T d) ∨ ∃ d : Nat, r.1 = J (d : Nat) ∧ 1 ≤ d ∧ d ≤ 99 ∧ ¬ T d ∧ ∀ d', d < d' → d' ≤ 99 → T d')) (fun i st => st.2.1 = J ((99 - i : Nat) : Int) ∧ (∃ v, fyG (wrM M2 1 3 v) st.2.2) ∧ ((st.1 = (-1 : Int32) ∧ ∀ d, 99 < d + i → d ≤ 99 → T d) ∨ ∃ d : Nat, st.1 = J (d : Nat) ∧ 1 ≤ d ∧ d ≤ 99 ∧ ¬ T d ∧ ∀ d', d < d' → d' ≤ 99 → T d')) 99 (by omega) (s := ((-1 : Int32), (99 : Int32), D)) ⟨rfl, ⟨_, d1⟩, Or.inl ⟨rfl, fun d h1 h2 => by omega⟩⟩ (by
      intro i st hi hst
      obtain ⟨fa, ia, Z⟩ := st
      obtain ⟨s1, ⟨v, z1⟩, z2⟩ := hst
      have s1 : ia = J ((99 - i : Nat) : Int) := s1
      have z1 : fyG (wrM M2 1 3 v) Z := z1
      subst s1
      show ok (fpX6_matters_l42s (J (w : Nat)) (M2.1 1 3) (J (top : Nat)) fa (J ((99 - i : Nat) : Int)) Z) _
      unfold fpX6_matters_l42s
      by_cases hc : i = 99
      · subst hc
        refine okT (by decide) (okS ⟨⟨v, z1⟩, ?_⟩)
        rcases z2 with ⟨y1, y2⟩ | y
        · exact Or.inl ⟨y1, fun d h1 hd => y2 d (by omega) hd⟩
        · exact Or.inr y
      · refine okF (fun z => by have := (leN (b := 0) (by omega) (by omega)).1 z; omega) ?_
        rcases z2 with ⟨y1, y2⟩ | ⟨d, y1, y2, y3, y4⟩
        · have y1 : fa = (-1 : Int32) := y1
          subst y1
          refine okF (by decide) (okL ?_)
          obtain ⟨N, q, e5, g1, g2, g3⟩ := mwS (w := w) (r := 99 - i) R.2 (by omega) w9 (by omega) z1
          refine okE e5 ?_
          have key : (J (top : Nat) ≤ J (q : Nat)) ↔ T (99 - i) := by
            rw [leN (by omega) (by omega), hT']
            exact Tq (P := spP (PR (M2.1 1) (vn (M2.1 1) 4)) (99 - i)) g3
          have es : J ((99 - i : Nat) : Int) + (-1 : Int32) = J ((99 - (i + 1) : Nat) : Int) := by
            rw [J_m1, J_add, show ((99 - i : Nat) : Int) + -1 = ((99 - (i + 1) : Nat) : Int) by omega]
          by_cases hq : T (99 - i)
          · refine okT (key.2 hq) (okL (okS ⟨by omega, es, ⟨_, g1⟩, Or.inl ⟨rfl, fun d' h1 h2 => ?_⟩⟩))
            by_cases c : d' = 99 - i
            · rw [c]; exact hq
            · exact y2 d' (by omega) h2
          · exact okF (fun z => hq (key.1 z)) (okL (okS ⟨by omega, es, ⟨_, g1⟩, Or.inr ⟨99 - i, rfl, by omega, by omega, hq, fun d' h1 h2 => y2 d' (by omega) h2⟩⟩))
        · have y1 : fa = J (d : Nat) := y1
          subst y1
          exact okT (nn0 (by omega)) (okS ⟨⟨v, z1⟩, Or.inr ⟨d, rfl, y2, y3, y4⟩⟩))
    have q1 : fyG (wrM M2 1 3 v) Y := q1
    have fY : fyG M2 (wrM Y 1 3 (M2.1 1 3)) := by
      have := q1.w (v' := M2.1 1 3)
      rw [wrM_id rfl] at this
      exact this
    have RN : Rr n X (wrM Y 1 3 (M2.1 1 3)) := R.H (fun r j hr => (x1 r j hr).trans (f1 r j (by omega))) x2 fY.h
    refine .b2 er ?_
    unfold fpX6_matters_b83
    show SM n _ (if (0 : Int32) ≤ fa then some (fa, wrM Y 1 3 (M2.1 1 3)) else (fpX6_finds (-1000004 : Int32) (wrM Y 1 3 (M2.1 1 3))).bind fun q => some (q.1, q.2))
    rcases q2 with ⟨y1, y2⟩ | ⟨d, y1, y2, y3, y4, y5⟩
    · have y1 : fa = (-1 : Int32) := y1
      subst y1
      have c0 : c = 0 := by
        rcases x6 with z | z
        · exact z
        · refine Classical.byContradiction (fun y => z ((hT' c).1 (y2 c (by omega) x5)))
      rw [c0]
      exact .t1 rfl (.f2 (by decide) (.fi RN 3 (by decide) rfl rfl))
    · have y1 : fa = J (d : Nat) := y1
      subst y1
      have ec : c = d := by
        rcases Nat.lt_trichotomy c d with z | z | z
        · exact absurd ((hT' d).2 (x7 d z y3)) y4
        · exact z
        · rcases x6 with y | y
          · omega
          · exact absurd ((hT' c).1 (y5 c z x5)) y
      subst ec
      exact .f1 (fun z => by have := (eqN (b := 0) (by omega) (by omega)).1 z; omega) (.t2 (nn0 (by omega)) (.e rfl (RN.mono (Nat.le_succ n))))
  · exact .f1 (fun z => h ((nc0 R).1 z)) (.t2 (iw0.2 h) (.fi R 0 (by decide) rfl rfl))
