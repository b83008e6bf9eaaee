/-! spring: the call -/
theorem wthT_e {M : Me} {m s w : Nat} {P : Pr} (h : PX M m s P) (hMT : MT M) (hw : w < 1000) : ∃ N q, fpX0_mostWith (J (w : Nat)) M = some (J (q : Nat), N) ∧ (∀ r j, r ≠ 53 → N.1 r j = M.1 r j) ∧ MT N ∧ TabX N P s w (pab P) (2 ^ m) ∧ q < 1000 ∧ (q = cr P w s 0 ∨ ∃ S l x, 0 < S ∧ S < 2 ^ m ∧ sb S (pab P) ∧ S.testBit l = true ∧ tb N S l = some x ∧ q = cr P x (pml P l) 0) ∧ cr P w s 0 ≤ q ∧ ∀ S l x, 0 < S → S < 2 ^ m → sb S (pab P) → S.testBit l = true → tb N S l = some x → cr P x (pml P l) 0 ≤ q := by
  have h1 := h.1
  have ec : fpX0_carried (J (w : Nat)) (8 : Int32) (9 : Int32) M = some (J (cr P w s 0 : Nat)) := car_e (x := 8) (y := 9) h (Or.inr (Or.inl rfl)) (Or.inr (Or.inr rfl)) (by omega)
  have hc : cr P w s 0 < 1000 := by unfold cr; omega
  have m1 : 1 ≤ 2 ^ m := Nat.one_le_two_pow
  obtain ⟨N, q, e, f1, f2, f3, q9, q1, q2, q3⟩ := from_e (s0 := 1) (b0 := cr P w s 0) h hMT hw hc (by decide) m1 (fun S l a1 a2 => by omega)
  have e : fpX0_mostFrom (1 : Int32) (J (w : Nat)) (J (cr P w s 0 : Nat)) M = some (J (q : Nat), N) := e
  refine ⟨N, q, ?_, f1, f2, f3, q9, q1, q2, q3⟩
  unfold fpX0_mostWith
  rw [ec, Option.bind_some, e]
  rfl
def SX (A X : Me) (m ab : Nat) : Prop := (∀ r j, r < 46 → X.1 r j = A.1 r j) ∧ MT X ∧ X.1 46 2 = J ((m + 1 : Nat) : Int) ∧ X.1 46 3 = J (nS ab m : Nat) ∧ X.1 46 4 = A.1 46 4 ∧ X.1 46 5 = A.1 46 5 ∧ (∀ p, p ≠ m → X.1 50 p = A.1 50 p ∧ X.1 51 p = A.1 51 p) ∧ X.1 50 m = 0 ∧ X.1 51 m = 1 ∧ ∀ x, x ≠ m → X.1 48 x = A.1 48 x
theorem SX.px {A X : Me} {m a i sp : Nat} {P Q : Pr} (h : PX A m a P) (hX : SX A X m (pab P)) (hm : m < 8) (hi : i < 100) (h48 : ∀ x, okp m x → A.1 48 x = J (plc P a x : Nat) ∧ plc P a x < 100) (hsp : A.1 46 5 = J (sp : Nat)) (sp9 : sp < 1000) (hls : pls P = ls sp) (q1 : pab Q = nS (pab P) m) (q2 : prom P = prom Q) (q3 : pls P = pls Q) (q4 : ∀ p, p < m → lik P Q p) (q5 : pml Q m = i) (q6 : pnd Q m = 0) (q7 : pyl Q m = 1) : PX (meS (wrM X 48 m (J (i : Nat))) 100) (m + 1) a Q := by
  obtain ⟨h1, h2, h3, h4, h5, h6, h7, h8⟩ := h
  obtain ⟨x1, x2, x3, x4, x5, x6, x7, x8, x9, x10⟩ := hX
  have k48 : ∀ x, okp (m + 1) x → (wrM X 48 m (J (i : Nat))).1 48 x = J (plc Q a x : Nat) ∧ plc Q a x < 100 := by
    intro x hx
    by_cases c : x = m
    · subst c
      rw [wrM_eq, plc_p hm, q5]
      exact ⟨rfl, hi⟩
    · have hx' : okp m x := by unfold okp at hx ⊢; omega
      have e : plc Q a x = plc P a x := by
        rcases hx' with z | z | z
        · rw [plc_p (by omega), plc_p (by omega)]
          exact (q4 x z).1.symm
        · subst z; rfl
        · subst z; rfl
      rw [wrM_nj c, x10 x c, e]
      exact h48 x hx'
  have okx : ∀ x, okp (m + 1) x → x < 10 := fun x hx => by unfold okp at hx; omega
  have K5 : (wrM X 48 m (J (i : Nat))).1 46 5 = J (sp : Nat) := (wrM_nr (by decide)).trans (x6.trans hsp)
  refine ⟨by omega, ?_, ⟨?_, fun q hq => ?_⟩, ?_, ?_, ?_, fun p hp => ?_, fun x y hx hy => ?_⟩
  · rw [meS_n (by decide), wrM_nr (by decide)]; exact x3
  · rw [q1]; exact nS_lt _ h3.1 m hm
  · rw [q1] at hq
    have q8 := bit_lt (nS_lt _ h3.1 m hm) hq
    rw [nS_bit _ h3.1 m hm q q8] at hq
    simp only [Bool.or_eq_true, decide_eq_true_eq] at hq
    rcases hq with z | z
    · have := h3.2 q z; omega
    · omega
  · rw [meS_n (by decide), wrM_nr (by decide), q1]; exact x4
  · rw [← q2]; exact h5
  · rw [meS_n (by decide), wrM_nr (by decide), x5, ← q2]; exact h6
  · rw [meS_n (by decide), meS_n (by decide), wrM_nr (by decide), wrM_nr (by decide)]
    by_cases c : p = m
    · subst c
      rw [q6, q7, x8, x9]
      exact ⟨by decide, rfl, by decide, rfl⟩
    · obtain ⟨l1, l2, l3, l4⟩ := q4 p (by omega)
      rw [← l2, ← l3, (x7 p c).1, (x7 p c).2]
      exact h7 p (by omega)
  · obtain ⟨u1, u2⟩ := k48 x hx
    obtain ⟨w1, w2⟩ := k48 y hy
    have hx10 := okx x hx
    have hy10 := okx y hy
    rw [← q3, hls]
    have hl : ls sp (plc Q a x) (plc Q a y) < 100 := ls_lt u2 w2
    refine ⟨Nat.lt_trans hl (by decide), ?_⟩
    rw [meS_at, if_pos ⟨rfl, by omega⟩, show (10 * x + y) / 10 = x by omega, show (10 * x + y) % 10 = y by omega, u1, w1, K5, spb_J (by omega) (by omega) (by omega)]
theorem SX.same {A X N : Me} {m ab i : Nat} (hX : SX A X m ab) (f : ∀ r j, r ≠ 53 → N.1 r j = (meS (wrM X 48 m (J (i : Nat))) 100).1 r j) (mN : MT N) : SX A N m ab := by
  obtain ⟨x1, x2, x3, x4, x5, x6, x7, x8, x9, x10⟩ := hX
  have g : ∀ r j, r ≠ 53 → r ≠ 49 → r ≠ 48 → N.1 r j = X.1 r j := fun r j h1 h2 h3 => (f r j h1).trans ((meS_n h2).trans (wrM_nr h3))
  refine ⟨fun r j hr => (g r j (by omega) (by omega) (by omega)).trans (x1 r j hr), mN, (g _ _ (by decide) (by decide) (by decide)).trans x3, (g _ _ (by decide) (by decide) (by decide)).trans x4, (g _ _ (by decide) (by decide) (by decide)).trans x5, (g _ _ (by decide) (by decide) (by decide)).trans x6, fun p hp => ⟨(g _ _ (by decide) (by decide) (by decide)).trans (x7 p hp).1, (g _ _ (by decide) (by decide) (by decide)).trans (x7 p hp).2⟩, (g _ _ (by decide) (by decide) (by decide)).trans x8, (g _ _ (by decide) (by decide) (by decide)).trans x9, fun x hx => ?_⟩
  exact (f 48 x (by decide)).trans ((meS_n (by decide)).trans ((wrM_nj hx).trans (x10 x hx)))
def fyS (M Y : Me) (m : Nat) : Prop := (∀ r j, r = 2 ∨ r = 4 ∨ 11 ≤ r → Y.1 r j = M.1 r j) ∧ (∀ j, j ≠ 8 → Y.1 0 j = M.1 0 j) ∧ (∀ j, j < 70 → Y.1 3 j = M.1 1 j) ∧ ∃ k, Y.1 1 = sk (M.1 1) m k
theorem s22 : sim22 Rr := by
  intro n M1 M2 a hn R
  show SM n _ _
  unfold fpX5_spring fpX6_spring
  have k0 := R.2.k0
  have k2 := R.2.k2
  have k3 := R.2.k3
  by_cases h : 0 ≤ a.toInt ∧ a.toInt ≤ (M2.1 1 2).toInt
  · refine .t1 ((nc0 R).2 h) (.f2 (fun z => iw0.1 z h) ?_)
    obtain ⟨w, rfl, hw'⟩ := ofI h.1
    have w9 : w < 1000 := by omega
    obtain ⟨A, e1, f1, mA, hA, u1, u2, u3, u4⟩ := layR R (by omega)
    have h48 := lay48 (d := vn (M2.1 1) 4) R.2 hA.1 (fun p hp => (u1 p hp).1) u2 u3
    have hs2 : M2.1 1 0 = J (vn (M2.1 1) 0 : Nat) := vn_J k0.1
    have hs1 : M1.1 1 2 = J (vn (M2.1 1) 0 : Nat) := (R.1.1 0 (by decide)).trans hs2
    have m8 := hA.1
    generalize hm : vn (M2.1 1) 0 = m at hA h48 hs1 hs2 m8
    unfold fpX2_isFull
    rw [hs1, hs2]
    by_cases h4 : m < 8
    · refine .t1 (if_pos ((ltN (b := 8) (by omega) (by omega)).2 h4)) (.f2 (fun z => ?_) ?_)
      · have := (eqN (b := 8) (by omega) (by omega)).1 z
        omega
      obtain ⟨B, q0, e2, b1, b2, b3, b4, F1, F2, F3⟩ := wthT_e (w := w) hA mA w9
      -- the class's planner with one more pump
      have ab := hA.2.2.1
      have eb2 : B.1 46 2 = J (m : Nat) := (b1 _ _ (by decide)).trans hA.2.1
      have eb3 : B.1 46 3 = J (pab (PR (M2.1 1) (vn (M2.1 1) 4)) : Nat) := (b1 _ _ (by decide)).trans hA.2.2.2.1
      generalize hP : PR (M2.1 1) (vn (M2.1 1) 4) = P at hA h48 ab eb3 b3 F1 F2 F3
      generalize hM7 : wrM (wrM (wrM (wrM B 46 2 (J ((m + 1 : Nat) : Int))) 46 3 (J (nS (pab P) m : Nat))) 50 m 0) 51 m 1 = M7
      have f7 : ∀ r j, ¬ (r = 46 ∧ j = 2) → ¬ (r = 46 ∧ j = 3) → ¬ (r = 50 ∧ j = m) → ¬ (r = 51 ∧ j = m) → M7.1 r j = B.1 r j := fun r j a1 a2 a3 a4 => by
        rw [← hM7, wrM_at, if_neg a4, wrM_at, if_neg a3, wrM_at, if_neg a2, wrM_at, if_neg a1]
      have hSX : SX A M7 m (pab P) := by
        refine ⟨fun r j hr => (f7 r j (by omega) (by omega) (by omega) (by omega)).trans (b1 r j (by omega)), fun S hS l hl hb => (f7 53 _ (by omega) (by omega) (by omega) (by omega)).trans (b2 S hS l hl hb), ?_, ?_, ?_, ?_, fun p hp => ⟨?_, ?_⟩, ?_, ?_, fun x hx => ?_⟩
        · rw [← hM7, wrM_nr (by decide), wrM_nr (by decide), wrM_nj (by decide), wrM_eq]
        · rw [← hM7, wrM_nr (by decide), wrM_nr (by decide), wrM_eq]
        · exact (f7 _ _ (by omega) (by omega) (by omega) (by omega)).trans (b1 _ _ (by decide))
        · exact (f7 _ _ (by omega) (by omega) (by omega) (by omega)).trans (b1 _ _ (by decide))
        · exact (f7 _ _ (by omega) (by omega) (by omega) (by omega)).trans (b1 _ _ (by decide))
        · exact (f7 _ _ (by omega) (by omega) (by omega) (by omega)).trans (b1 _ _ (by decide))
        · rw [← hM7, wrM_nr (by decide), wrM_eq]
        · rw [← hM7, wrM_eq]
        · exact (f7 _ _ (by omega) (by omega) (by omega) (by omega)).trans (b1 _ _ (by decide))
      have t7 : TabX M7 P (vn (M2.1 1) 7) w (pab P) (2 ^ m) := fun S l s0 s1 s2 s3 => by
        have es : M7.1 53 (8 * S + l) = B.1 53 (8 * S + l) := f7 _ _ (by omega) (by omega) (by omega) (by omega)
        obtain ⟨z1, z2⟩ := b3 S l s0 s1 s2 s3
        exact ⟨by rw [tb_same es]; exact z1, z2.same es⟩
      -- the model's row with one more pump
      have c3 : ∀ j, j < 70 → (cpY 3 1 70 M2).1 3 j = M2.1 1 j := fun j hj => if_pos ⟨rfl, hj⟩
      have cn : ∀ r j, r ≠ 3 → (cpY 3 1 70 M2).1 r j = M2.1 r j := fun r j hr => if_neg (fun z => hr z.1)
      have c1 : (cpY 3 1 70 M2).1 1 = M2.1 1 := funext fun j => cn 1 j (by decide)
      have en : fpX6_newPump (2 : Int32) (0 : Int32) (1 : Int32) (0 : Int32) (cpY 3 1 70 M2) = some (J (m : Nat), addY m 2 (J ((0 : Nat) : Int)) 1 0 (cpY 3 1 70 M2)) := new_e (by rw [c1]; exact hs2) h4
      have an : ∀ r j, r ≠ 1 → (addY m 2 (J ((0 : Nat) : Int)) 1 0 (cpY 3 1 70 M2)).1 r j = (cpY 3 1 70 M2).1 r j := fun r j hr => by
        unfold addY
        rw [wrM_nr hr, wrM_nr hr, wrM_nr hr, wrM_nr hr, wrM_nr hr, wrM_nr hr, wrM_nr hr]
      have hSY : fyS M2 (addY m 2 (J ((0 : Nat) : Int)) 1 0 (cpY 3 1 70 M2)) m := ⟨fun r j hr => (an r j (by omega)).trans (cn r j (by omega)), fun j hj => (an 0 j (by decide)).trans (cn 0 j (by decide)), fun j hj => (an 3 j (by decide)).trans (c3 j hj), 0, sk_add c1⟩
      obtain ⟨⟨ra, X⟩, ⟨rb, Y⟩, l1, l2, q1, q2, q3⟩ := lpp (s1 := fpX0_bestSpring_l56 (J (w : Nat)) (J (q0 : Nat)) (J (m : Nat))) (s2 := fpX6_spring_l54 (J (w : Nat)) (J (m : Nat))) (Q := fun r1 r2 => r1.1 = r2.1 ∧ SX A r1.2 m (pab P) ∧ fyS M2 r2.2 m) (fun i x y => ∃ b mo : Int32, ∃ X Y : Me, x = (b, mo, J (i : Nat), X) ∧ y = (b, mo, J (i : Nat), Y) ∧ SX A X m (pab P) ∧ TabX X P (vn (M2.1 1) 7) w (pab P) (2 ^ m) ∧ fyS M2 Y m) 100 (by omega) (x := ((0 : Int32), (-1 : Int32), (0 : Int32), M7)) (y := ((0 : Int32), (-1 : Int32), (0 : Int32), addY m 2 (J ((0 : Nat) : Int)) 1 0 (cpY 3 1 70 M2))) ⟨0, -1, _, _, rfl, rfl, hSX, t7, hSY⟩ (by
        intro i x y hi hxy
        obtain ⟨b, mo, X, Y, rfl, rfl, x1, x2, y1, y2, y3, k, y4⟩ := hxy
        show (∃ x' y', fpX0_bestSpring_l56s (J (w : Nat)) (J (q0 : Nat)) (J (m : Nat)) b mo (J (i : Nat)) X = some (.inl x') ∧ fpX6_spring_l54s (J (w : Nat)) (J (m : Nat)) b mo (J (i : Nat)) Y = some (.inl y') ∧ _) ∨ (∃ r1 r2, fpX0_bestSpring_l56s (J (w : Nat)) (J (q0 : Nat)) (J (m : Nat)) b mo (J (i : Nat)) X = some (.inr r1) ∧ fpX6_spring_l54s (J (w : Nat)) (J (m : Nat)) b mo (J (i : Nat)) Y = some (.inr r2) ∧ _)
        unfold fpX0_bestSpring_l56s fpX6_spring_l54s
        rcases Nat.lt_or_eq_of_le hi with him | him
        · have ca : ¬ (99 : Int32) < J (i : Nat) := fun z => by have := (ltN (a := 99) (by omega) (by omega)).1 z; omega
          have cb : ¬ (100 : Int32) ≤ J (i : Nat) := fun z => by have := (leN (a := 100) (by omega) (by omega)).1 z; omega
          obtain ⟨p1, p2, p3, p4, p5, p6, p7⟩ := sk_PR (s := M2.1 1) (m := m) (k := i) (d := vn (M2.1 1) 4) hm h4
          rw [hP] at p1 p2 p3 p4
          have pls3 : pls P = ls (vn (M2.1 1) 3) := by rw [← hP]; rfl
          have hK := x1.px hA h4 (show i < 100 by omega) h48 u4 (by unfold vn; omega) pls3 p1 p2 p3 p4 (p5 (by omega)) p6 p7
          have mK : MT (meS (wrM X 48 m (J (i : Nat))) 100) := fun S hS l hl hb => (meS_n (by decide)).trans ((wrM_nr (by decide)).trans (x1.2.1 S hS l hl hb))
          have tK : TabX (meS (wrM X 48 m (J (i : Nat))) 100) P (vn (M2.1 1) 7) w (pab P) (2 ^ m) := fun S l s0 s1 s2 s3 => by
            have es : (meS (wrM X 48 m (J (i : Nat))) 100).1 53 (8 * S + l) = X.1 53 (8 * S + l) := (meS_n (by decide)).trans (wrM_nr (by decide))
            obtain ⟨z1, z2⟩ := x2 S l s0 s1 s2 s3
            exact ⟨by rw [tb_same es]; exact z1, z2.same es⟩
          obtain ⟨N, q, e5, g1, g2, g3, g4, g5⟩ := spr_k (T0 := fun S l => tb B S l) hK mK w9 b4 p2 p3 p4 tK (fun S l s0 s1 s2 s3 => (b3 S l s0 s1 s2 s3).1) F1 F2 F3
          have iA : inb (fpX6_at (J (m : Nat)) (1 : Int32)) 70 = some (12 + 6 * m + 1) := inA (w := 1) h4 (by decide)
          have rY : (wrM Y 1 (12 + 6 * m + 1) (J (i : Nat))).1 1 = sk (M2.1 1) m i := by rw [wr_1, y4, sk_w]
          obtain ⟨E, q', e6, ⟨h1, h2, h3⟩, -, -, h6⟩ := mwY_e (M := wrM Y 1 (12 + 6 * m + 1) (J (i : Nat))) (n := n) (w := w) (by rw [rY]; exact sk_RO R.2 hs2 h4 (by omega)) (by omega) w9
          have v4 : vn (sk (M2.1 1) m i) 4 = vn (M2.1 1) 4 := vn_eq (sk_o (by decide) (by omega))
          have v7 : vn (sk (M2.1 1) m i) 7 = vn (M2.1 1) 7 := vn_eq (sk_o (by decide) (by omega))
          rw [rY, v4, v7] at h6
          have eq : q' = q := Option.some.inj (h6.uniq g5)
          subst eq
          rw [if_neg ca, if_neg cb, inbJ (show m < 10 by omega) (by decide), Option.bind_some, iA, Option.bind_some]
          unfold letv
          dsimp only
          rw [mea_e, Option.bind_some, shl_d m (by omega), e5, Option.bind_some, e6, Option.bind_some, J_succ]
          have fN : SX A N m (pab P) := x1.same g1 g2
          have fE : fyS M2 E m := by
            refine ⟨fun r j hr => ?_, fun j hj => ?_, fun j hj => ?_, i, ?_⟩
            · rw [h1 r j (by omega) (by omega) (by omega) (by omega) (by omega), wrM_nr (by omega)]; exact y1 r j hr
            · rw [h2 j hj, wrM_nr (by decide)]; exact y2 j hj
            · rw [h1 3 j (by decide) (by decide) (by decide) (by decide) (by decide), wrM_nr (by decide)]; exact y3 j hj
            · rw [← rY]
              exact funext fun j => h1 1 j (by decide) (by decide) (by decide) (by decide) (by decide)
          unfold fpX6_spring_b93_54 letv
          by_cases cq : J (q' : Nat) ≤ mo
          · rw [if_pos cq, if_pos cq]
            refine Or.inl ⟨_, _, rfl, ?_, him, b, mo, N, E, rfl, rfl, fN, g3, fE⟩
            dsimp only
            rw [if_pos cq, J_succ]
          · rw [if_neg cq, if_neg cq]
            refine Or.inl ⟨_, _, rfl, ?_, him, J (i : Nat), J (q' : Nat), N, E, rfl, rfl, fN, g3, fE⟩
            dsimp only
            rw [if_neg cq, J_succ]
        · subst him
          exact Or.inr ⟨_, _, rfl, rfl, rfl, x1, y1, y2, y3, k, y4⟩)
      have q1 : ra = rb := q1
      subst q1
      have q2 : SX A X m (pab P) := q2
      obtain ⟨y1, y2, y3, k, y4⟩ : fyS M2 Y m := q3
      have eS : fpX0_bestSpring (J (w : Nat)) A = some (ra, X) := by
        unfold fpX0_bestSpring letv
        dsimp only
        rw [e2, Option.bind_some]
        have g3 : (wrM B 46 2 (J ((m + 1 : Nat) : Int))).1 46 3 = J (pab P : Nat) := (wrM_nj (by decide)).trans eb3
        dsimp only
        rw [eb2, J_succ, g3, ins_d _ ab.1 m h4, inbJ h4 (by decide), Option.bind_some, hM7, l1]
        rfl
      refine .b1 e1 (.b1 eS (.b2 puts_e (.b2 en (.b2 l2 (.b2 putsBack_e (.e rfl ?_))))))
      refine (R.fr (fun r j hr => (q2.1 r j hr).trans (f1 r j (by omega))) q2.2.1 (fun r j hr => ?_) ?_ ?_).mono (Nat.le_succ n)
      · show (if r = 1 ∧ j < 70 then Y.1 3 j else Y.1 r j) = _
        by_cases c : r = 1 ∧ j < 70
        · rw [if_pos c, c.1]; exact y3 j c.2
        · rw [if_neg c]
          by_cases c1 : r = 1
          · rw [c1, y4, sk_o (by omega) (by omega)]
          · exact y1 r j (by omega)
      · show (if (0 : Nat) = 1 ∧ 4 < 70 then Y.1 3 4 else Y.1 0 4) = _
        rw [if_neg (by decide)]; exact y2 4 (by decide)
      · show (if (0 : Nat) = 1 ∧ 15 < 70 then Y.1 3 15 else Y.1 0 15) = _
        rw [if_neg (by decide)]; exact y2 15 (by decide)
    · have p8 : m = 8 := by omega
      subst p8
      exact .f1 (by decide) (.t2 (by decide) (.fi R 1 (by decide) rfl rfl))
  · exact .f1 (fun z => h ((nc0 R).1 z)) (.t2 (iw0.2 h) (.fi R 0 (by decide) rfl rfl))
