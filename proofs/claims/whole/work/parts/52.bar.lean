/-! barrel, judge -/
def sS (g : Nat → Int32) : Nat → Nat
  | 0 => 0
  | i + 1 => nS (sS g i) (vn g i)
def gd (g : Nat → Int32) (m i : Nat) : Prop := 0 ≤ (g i).toInt ∧ (g i).toInt < m ∧ (sS g i).testBit (vn g i) = false
theorem pc_le {S : Nat} : pc S ≤ 8 := by
  unfold pc
  exact Nat.le_trans (List.length_filter_le _ _) (by simp)
theorem gd_v {g : Nat → Int32} {m i : Nat} (h : gd g m i) : g i = J (vn g i : Nat) ∧ vn g i < m := by
  refine ⟨vn_J h.1, ?_⟩
  have := h.2.1
  have := h.1
  unfold vn
  omega
theorem sS_b {g : Nat → Int32} {m : Nat} (m8 : m ≤ 8) : ∀ i, (∀ k, k < i → gd g m k) → sS g i < 256 ∧ pc (sS g i) = i
  | 0, _ => ⟨by unfold sS; decide, by unfold sS; rfl⟩
  | i + 1, h => by
    obtain ⟨h1, h2⟩ := sS_b m8 i (fun k hk => h k (by omega))
    have hg := h i (by omega)
    have hv := (gd_v hg).2
    refine ⟨nS_lt _ h1 _ (by omega), ?_⟩
    show pc (nS (sS g i) (vn g i)) = i + 1
    rw [pc_nS _ h1 _ (by omega) hg.2.2, h2]
theorem gd_8 {g : Nat → Int32} {m i : Nat} (m8 : m ≤ 8) (h : ∀ k, k < i → gd g m k) : i ≤ 8 := by
  have := (sS_b m8 i h).2
  have := pc_le (S := sS g i)
  omega
theorem tks_e {M : Me} {s m len : Nat} (hs : s < 4) (hl : M.1 13 s = J (len : Nat)) (l40 : len ≤ 40) (hm : M.1 1 0 = J (m : Nat)) (m8 : m ≤ 8) : ∃ nn Y, fpX6_takesSheet (J (s : Nat)) M = some (J (nn : Nat), Y) ∧ nn ≤ len ∧ (∀ k, k < nn → gd (fun k => M.1 14 (40 * s + k)) m k) ∧ (nn = len ∨ ¬ gd (fun k => M.1 14 (40 * s + k)) m nn) ∧ (∀ r j, r ≠ 9 → Y.1 r j = M.1 r j) ∧ ∀ k, k < nn → Y.1 9 k = J (vn (fun k => M.1 14 (40 * s + k)) k : Nat) := by
  generalize hg : (fun k => M.1 14 (40 * s + k)) = g
  have eg : ∀ k, M.1 14 (40 * s + k) = g k := fun k => by rw [← hg]
  obtain ⟨⟨ra, Y⟩, er, nn, q1, q2, q3, q4, q5, q6⟩ := lp_ok (step := fpX6_takesSheet_l4 (J (s : Nat))) (Q := fun r => ∃ nn : Nat, r.1 = J (nn : Nat) ∧ nn ≤ len ∧ (∀ k, k < nn → gd g m k) ∧ (nn = len ∨ ¬ gd g m nn) ∧ (∀ r' j, r' ≠ 9 → r.2.1 r' j = M.1 r' j) ∧ ∀ k, k < nn → r.2.1 9 k = J (vn g k : Nat)) (fun i st => st.1 = J (sS g i : Nat) ∧ st.2.1 = J (i : Nat) ∧ (∀ k, k < i → gd g m k) ∧ (∀ r' j, r' ≠ 9 → st.2.2.1 r' j = M.1 r' j) ∧ ∀ k, k < i → st.2.2.1 9 k = J (vn g k : Nat)) len (by omega) (s := ((0 : Int32), (0 : Int32), M)) ⟨rfl, rfl, fun k hk => absurd hk (Nat.not_lt_zero _), fun _ _ _ => rfl, fun k hk => absurd hk (Nat.not_lt_zero _)⟩ (by
    intro i st hi hst
    obtain ⟨sa, ia, X⟩ := st
    obtain ⟨s1, s2, x1, x2, x3⟩ := hst
    have s1 : sa = J (sS g i : Nat) := s1
    have s2 : ia = J (i : Nat) := s2
    have x2 : ∀ r' j, r' ≠ 9 → X.1 r' j = M.1 r' j := x2
    have x3 : ∀ k, k < i → X.1 9 k = J (vn g k : Nat) := x3
    subst s1
    subst s2
    have S8 := (sS_b m8 i x1).1
    show ok (fpX6_takesSheet_l4s (J (s : Nat)) (J (sS g i : Nat)) (J (i : Nat)) X) _
    unfold fpX6_takesSheet_l4s
    refine okE (inbJ hs (by decide)) ?_
    rw [x2 13 s (by decide), hl]
    rcases Nat.lt_or_eq_of_le hi with hin | hin
    · refine okF (fun z => by have := (leN (by omega) (by omega)).1 z; omega) ?_
      refine okE (by rw [j40]; exact inbJ (show 40 * s + i < 160 by omega) (by decide)) ?_
      rw [x2 14 _ (by decide), eg]
      have eP : fpX6_isPump (g i) X = 0 ↔ ¬ (0 ≤ (g i).toInt ∧ (g i).toInt < (m : Int)) := by
        have e0 : X.1 1 0 = J (m : Nat) := (x2 1 0 (by decide)).trans hm
        have et : (X.1 1 0).toInt = m := by rw [e0]; exact tJn (by omega)
        rw [isP0 (by rw [et]; omega), et]
      by_cases c1 : 0 ≤ (g i).toInt ∧ (g i).toInt < (m : Int)
      · refine okF (fun z => eP.1 z c1) ?_
        have ev : g i = J (vn g i : Nat) := vn_J c1.1
        have vm : vn g i < m := by unfold vn; omega
        rw [ev, has_d _ S8 _ (show vn g i < 8 by omega)]
        by_cases c2 : (sS g i).testBit (vn g i) = true
        · rw [if_pos c2]
          refine okF (by decide) (okS ⟨i, rfl, hi, x1, Or.inr (fun z => ?_), x2, x3⟩)
          rw [z.2.2] at c2
          cases c2
        · rw [if_neg c2]
          have c2 : (sS g i).testBit (vn g i) = false := by
            cases z : (sS g i).testBit (vn g i) with
            | true => exact absurd z c2
            | false => rfl
          refine okT rfl (okE (inbJ (show i < 40 by omega) (by decide)) (okL (okL (okL ?_))))
          rw [wrM_eq, ins_d _ S8 _ (by omega)]
          refine okS ⟨hin, rfl, J_succ i, fun k hk => ?_, fun r j hr => (wrM_nr hr).trans (x2 r j hr), fun k hk => ?_⟩
          · rcases Nat.lt_or_eq_of_le (Nat.le_of_lt_succ hk) with z | z
            · exact x1 k z
            · rw [z]; exact ⟨c1.1, c1.2, c2⟩
          · show (wrM X 9 i (J (vn g i : Nat))).1 9 k = _
            rcases Nat.lt_or_eq_of_le (Nat.le_of_lt_succ hk) with z | z
            · rw [wrM_nj (by omega)]; exact x3 k z
            · rw [z]; exact wrM_eq
      · exact okT (eP.2 c1) (okS ⟨i, rfl, hi, x1, Or.inr (fun z => c1 ⟨z.1, z.2.1⟩), x2, x3⟩)
    · subst hin
      exact okT ((leN (by omega) (by omega)).2 (Nat.le_refl _)) (okS ⟨i, rfl, hi, x1, Or.inl rfl, x2, x3⟩))
  have q1 : ra = J (nn : Nat) := q1
  subst q1
  refine ⟨nn, Y, ?_, q2, q3, q4, q5, q6⟩
  unfold fpX6_takesSheet
  have er : lp (fpX6_takesSheet_l4 (J (s : Nat))) FU ((0 : Int32), (0 : Int32), M) = some (J (nn : Nat), Y) := er
  rw [er]
  rfl
theorem plf_e {A : Me} {r m len : Nat} {g : Nat → Int32} (hr : r + 1 < 46) (hl : A.1 r 2 = J (len : Nat)) (l40 : len ≤ 40) (hg : ∀ i, i < 40 → A.1 (r + 1) i = g i) (hm : A.1 46 2 = J (m : Nat)) (m8 : m ≤ 8) : ∃ v X, fpX0_planFrom r A = some (v, X) ∧ (∀ r' j, r' ≠ 47 → ¬ (r' = 46 ∧ j = 1) → X.1 r' j = A.1 r' j) ∧ ((v = 0 ∧ ∃ k, k < len ∧ ¬ gd g m k) ∨ (v = 1 ∧ (∀ k, k < len → gd g m k) ∧ X.1 46 1 = J (len : Nat) ∧ ∀ k, k < len → X.1 47 k = J (vn g k : Nat))) := by
  have f0 : ∀ r' j, ¬ (r' = 46 ∧ j = 1) → (wrM A 46 1 (0 : Int32)).1 r' j = A.1 r' j := fun r' j h => by rw [wrM_at, if_neg h]
  obtain ⟨o, er, ho⟩ := lp_ok (step := fpX0_planFrom_l9 r) (Q := fun o => Sum.elim (fun X => (∀ r' j, r' ≠ 47 → ¬ (r' = 46 ∧ j = 1) → X.1 r' j = A.1 r' j) ∧ (∀ k, k < len → gd g m k) ∧ X.1 46 1 = J (len : Nat) ∧ ∀ k, k < len → X.1 47 k = J (vn g k : Nat)) (fun p => p.1 = 0 ∧ (∀ r' j, r' ≠ 47 → ¬ (r' = 46 ∧ j = 1) → p.2.1 r' j = A.1 r' j) ∧ ∃ k, k < len ∧ ¬ gd g m k) o) (fun i st => st.1 = J (sS g i : Nat) ∧ st.2.1 = J (i : Nat) ∧ (∀ k, k < i → gd g m k) ∧ (∀ r' j, r' ≠ 47 → ¬ (r' = 46 ∧ j = 1) → st.2.2.1 r' j = A.1 r' j) ∧ st.2.2.1 46 1 = J (i : Nat) ∧ ∀ k, k < i → st.2.2.1 47 k = J (vn g k : Nat)) len (by omega) (s := ((0 : Int32), (0 : Int32), wrM A 46 1 (0 : Int32))) ⟨rfl, rfl, fun k hk => absurd hk (Nat.not_lt_zero _), fun r' j _ h => f0 r' j h, wrM_eq, fun k hk => absurd hk (Nat.not_lt_zero _)⟩ (by
    intro i st hi hst
    obtain ⟨sa, ia, X⟩ := st
    obtain ⟨s1, s2, x1, x2, x3, x4⟩ := hst
    have s1 : sa = J (sS g i : Nat) := s1
    have s2 : ia = J (i : Nat) := s2
    have x2 : ∀ r' j, r' ≠ 47 → ¬ (r' = 46 ∧ j = 1) → X.1 r' j = A.1 r' j := x2
    have x3 : X.1 46 1 = J (i : Nat) := x3
    have x4 : ∀ k, k < i → X.1 47 k = J (vn g k : Nat) := x4
    subst s1
    subst s2
    have S8 := (sS_b m8 i x1).1
    show ok (fpX0_planFrom_l9s r (J (sS g i : Nat)) (J (i : Nat)) X) _
    unfold fpX0_planFrom_l9s
    rw [x2 r 2 (by omega) (by omega), hl]
    rcases Nat.lt_or_eq_of_le hi with hin | hin
    · refine okF (fun z => by have := (leN (by omega) (by omega)).1 z; omega) (okE (inbJ (show i < 40 by omega) (by decide)) (okL ?_))
      rw [x2 (r + 1) i (by omega) (by omega), hg i (by omega), x2 46 2 (by decide) (by omega), hm]
      by_cases c0 : 0 ≤ (g i).toInt
      · refine okF (fun z => by rw [Int32.lt_iff_toInt_lt] at z; have z : (g i).toInt < 0 := z; omega) ?_
        have ev : g i = J (vn g i : Nat) := vn_J c0
        by_cases c1 : vn g i < m
        · have c1' : (g i).toInt < (m : Int) := by unfold vn at c1; omega
          rw [ev]
          refine okF (fun z => by have := (leN (by omega) (by omega)).1 z; omega) ?_
          rw [isIn_d _ S8 _ (show vn g i < 8 by omega)]
          by_cases c2 : (sS g i).testBit (vn g i) = true
          · rw [if_pos c2]
            refine okF (by decide) (okS ⟨rfl, x2, i, hin, fun z => ?_⟩)
            rw [z.2.2] at c2
            cases c2
          · rw [if_neg c2]
            have c2 : (sS g i).testBit (vn g i) = false := by
              cases z : (sS g i).testBit (vn g i) with
              | true => exact absurd z c2
              | false => rfl
            have hgi : gd g m i := ⟨c0, c1', c2⟩
            have x1' : ∀ k, k < i + 1 → gd g m k := fun k hk => by
              rcases Nat.lt_or_eq_of_le (Nat.le_of_lt_succ hk) with z | z
              · exact x1 k z
              · rw [z]; exact hgi
            have i8 := gd_8 m8 x1'
            rw [ins_d _ S8 _ (by omega), x3]
            refine okT rfl (okL (okE (inbJ (show i < 8 by omega) (by decide)) (okL (okL (okL ?_)))))
            rw [wrM_nr (by decide), x3, J_succ]
            refine okS ⟨hin, rfl, rfl, x1', fun r' j h1 h2 => ?_, wrM_eq, fun k hk => ?_⟩
            · rw [wrM_at, if_neg h2, wrM_nr h1]; exact x2 r' j h1 h2
            · show (wrM (wrM X 47 i (J (vn g i : Nat))) 46 1 (J ((i + 1 : Nat) : Int))).1 47 k = _
              rw [wrM_nr (by decide)]
              rcases Nat.lt_or_eq_of_le (Nat.le_of_lt_succ hk) with z | z
              · rw [wrM_nj (by omega)]; exact x4 k z
              · rw [z]; exact wrM_eq
        · refine okT ?_ (okS ⟨rfl, x2, i, hin, fun z => c1 (gd_v z).2⟩)
          rw [ev]
          exact (leN (by omega) (by have := thi (g i); unfold vn; omega)).2 (by omega)
      · refine okT ?_ (okS ⟨rfl, x2, i, hin, fun z => c0 z.1⟩)
        rw [Int32.lt_iff_toInt_lt]
        show (g i).toInt < 0
        omega
    · subst hin
      exact okT ((leN (by omega) (by omega)).2 (Nat.le_refl _)) (okS ⟨x2, x1, x3, x4⟩))
  unfold fpX0_planFrom letv
  dsimp only
  have er : lp (fpX0_planFrom_l9 r) FU ((0 : Int32), (0 : Int32), wrM A 46 1 (0 : Int32)) = some o := er
  rw [er, Option.bind_some]
  rcases o with X | ⟨v, X⟩
  · obtain ⟨h1, h2, h3, h4⟩ := ho
    exact ⟨1, X, rfl, h1, Or.inr ⟨rfl, h2, h3, h4⟩⟩
  · obtain ⟨h1, h2, h3⟩ := ho
    exact ⟨v, X, rfl, h2, Or.inl ⟨h1, h3⟩⟩
theorem s30 : sim30 Rr := by
  intro n M1 M2 a b hn R
  show SM n _ _
  unfold fpX5_barrel fpX6_barrel
  have k0 := R.2.k0
  have k2 := R.2.k2
  have k7 := R.2.k7
  refine .sheet R (fun s hs ha hz => ?_)
  subst ha
  obtain ⟨a1, a2, a3, a4⟩ := R.1.2.2.2.2.1 s hs
  obtain ⟨A, e1, f1, mA, hA, -⟩ := layR R (by omega)
  have m8 := hA.1
  have rm := hA.2.2.2.2.1
  have hs2 : M2.1 1 0 = J (vn (M2.1 1) 0 : Nat) := vn_J k0.1
  have hl2 : M2.1 13 s = J (vn (M2.1 13) s : Nat) := vn_J a3.1
  have l40 : vn (M2.1 13) s ≤ 40 := by unfold vn; omega
  obtain ⟨nn, Y, e2, t1, t2, t3, t4, t5⟩ := tks_e hs hl2 l40 hs2 m8
  obtain ⟨v, X, e3, x1, x2⟩ := plf_e (A := A) (r := 37 + 2 * s) (g := fun k => M2.1 14 (40 * s + k)) (by omega) ((f1 _ _ (by omega)).trans (a2.trans hl2)) l40 (fun i hi => (f1 _ _ (by omega)).trans (a4 i hi)) hA.2.1 m8
  have fX : ∀ r j, r < 46 → X.1 r j = M1.1 r j := fun r j hr => (x1 r j (by omega) (by omega)).trans (f1 r j (by omega))
  have mX : MT X := fun S hS l hl hb => (x1 53 _ (by decide) (by omega)).trans (mA S hS l hl hb)
  have fY : fyH M2 Y := ⟨fun r j hr => t4 r j (by omega), fun j _ _ => t4 0 j (by decide)⟩
  refine .b1 e1 (.b1 e3 (.b2 e2 (.b2 (inbJ hs (by decide)) ?_)))
  rw [show Y.1 13 s = J (vn (M2.1 13) s : Nat) from (t4 13 s (by decide)).trans hl2]
  generalize hg : (fun k => M2.1 14 (40 * s + k)) = g at t2 t3 t5 x2
  generalize hlen : vn (M2.1 13) s = len at t1 t3 x2 l40
  have RN := R.H fX mX fY
  rcases x2 with ⟨rfl, k, c1, c2⟩ | ⟨rfl, c1, c2, c3⟩
  · refine .t1 rfl (.f2 (fun z => ?_) (.fi RN 4 (by decide) rfl rfl))
    have := (leN (by omega) (by omega)).1 z
    exact c2 (t2 k (by omega))
  · have en : nn = len := by
      rcases t3 with z | z
      · exact z
      · rcases Nat.lt_or_eq_of_le t1 with y | y
        · exact absurd (c1 nn y) z
        · exact y
    subst en
    have n8 := gd_8 m8 t2
    refine .f1 (show ¬ (1 : Int32) = 0 by decide) (.t2 ((leN (by omega) (by omega)).2 (Nat.le_refl _)) ?_)
    by_cases h : 0 ≤ b.toInt ∧ b.toInt ≤ 999
    · refine .t1 (out0.2 h) (.f2 (fun z => in0.1 z h) ?_)
      have Y1 : Y.1 1 = M2.1 1 := funext fun j => t4 1 j (by decide)
      obtain ⟨D, e4, d1, hD⟩ := fy_e (M := Y) (n := n) (by rw [Y1]; exact R.2) (by omega)
      rw [Y1] at hD
      have hX : PX X (vn (M2.1 1) 0) (vn (M2.1 1) 7) (PR (M2.1 1) (vn (M2.1 1) 4)) := hA.sm (fun j hj => x1 46 j (by decide) (by omega)) (fun r j hr => x1 r j (by omega) (by omega))
      have a7 : D.1 1 7 = J (vn (M2.1 1) 7 : Nat) := by
        rw [d1.1 1 7 (by decide) (by decide) (by decide) (by decide), Y1]
        exact vn_J k7.1
      have a9 : vn (M2.1 1) 7 < 1000 := by unfold vn; omega
      have d9 : ∀ k, k < nn → D.1 9 k = J (vn g k : Nat) := fun k hk => (d1.1 9 k (by decide) (by decide) (by decide) (by decide)).trans (t5 k hk)
      have e6 : X.1 1 6 = J (vn (M2.1 1) 2 : Nat) := (fX 1 6 (by decide)).trans ((R.1.1 2 (by decide)).trans (vn_J (by omega)))
      have e2' : D.1 1 2 = J (vn (M2.1 1) 2 : Nat) := hD.2.2.2.2.2.1
      have rm9 : vn (M2.1 1) 2 < 1000 := by unfold vn; omega
      obtain ⟨r1, r2, l1, l2, lq⟩ := lpp (s1 := fpX5_barrel_l90 b X) (s2 := fpX6_barrel_l67 b (J (nn : Nat)) D) (Q := fun r1 r2 => (r1 = Sum.inl () ∧ r2 = J ((vn (M2.1 1) 2 + 1 : Nat) : Int)) ∨ ∃ i : Nat, i ≤ vn (M2.1 1) 2 ∧ r1 = Sum.inr (J (i : Nat), X) ∧ r2 = J (i : Nat)) (fun i x y => x = J (i : Nat) ∧ y = J (i : Nat)) (vn (M2.1 1) 2 + 1) (by omega) (x := (0 : Int32)) (y := (0 : Int32)) ⟨rfl, rfl⟩ (by
        intro i x y hi hxy
        obtain ⟨rfl, rfl⟩ := hxy
        show (∃ x' y', fpX5_barrel_l90s b (J (i : Nat)) X = some (.inl x') ∧ fpX6_barrel_l67s b (J (nn : Nat)) (J (i : Nat)) D = some (.inl y') ∧ _) ∨ (∃ r1 r2, fpX5_barrel_l90s b (J (i : Nat)) X = some (.inr r1) ∧ fpX6_barrel_l67s b (J (nn : Nat)) (J (i : Nat)) D = some (.inr r2) ∧ _)
        unfold fpX5_barrel_l90s fpX6_barrel_l67s
        rw [e6, e2']
        rcases Nat.lt_or_eq_of_le hi with him | him
        · have cn : ¬ J (vn (M2.1 1) 2 : Nat) < J (i : Nat) := fun z => by have := (ltN (by omega) (by omega)).1 z; omega
          rw [if_neg cn, if_neg cn]
          rw [plb_e (w := i) (bt := -1) (pl := fun k => vn g k) hX n8 c2 (fun k hk => ⟨(gd_v (t2 k hk)).2, c3 k hk⟩) (by omega), Option.bind_some, brY_e (w := i) (bt := -1) (n := nn) (pl := fun k => vn g k) hD a7 a9 (by omega) (fun k hk => ⟨(gd_v (t2 k hk)).2, d9 k hk⟩) (by omega), Option.bind_some]
          unfold letv
          by_cases cq : J (brg (PR (M2.1 1) (vn (M2.1 1) 4)) (vn (M2.1 1) 7) i (fun k => vn g k) (-1) nn : Nat) = b
          · rw [if_pos cq, if_pos cq]
            exact Or.inr ⟨_, _, rfl, rfl, Or.inr ⟨i, by omega, rfl, rfl⟩⟩
          · rw [if_neg cq, if_neg cq]
            exact Or.inl ⟨_, _, rfl, rfl, him, J_succ i, J_succ i⟩
        · subst him
          have cn : J (vn (M2.1 1) 2 : Nat) < J ((vn (M2.1 1) 2 + 1 : Nat) : Int) := (ltN (by omega) (by omega)).2 (by omega)
          rw [if_pos cn, if_pos cn]
          exact Or.inr ⟨_, _, rfl, rfl, Or.inl ⟨rfl, rfl⟩⟩)
      have RD := R.H fX mX (fY.tr d1.g.h)
      refine .b1 l1 (.b2 e4 (.b2 l2 ?_))
      unfold fpX6_barrel_b97
      rw [e2']
      rcases lq with ⟨rfl, rfl⟩ | ⟨i, ci, rfl, rfl⟩
      · exact .f2 (fun z => by have := (leN (by omega) (by omega)).1 z; omega) (.fi RD 3 (by decide) rfl rfl)
      · exact .t2 ((leN (by omega) (by omega)).2 ci) (.e rfl (RD.mono (Nat.le_succ n)))
    · exact .f1 (fun z => h (out0.1 z)) (.t2 (in0.2 h) (.fi RN 0 (by decide) rfl rfl))
