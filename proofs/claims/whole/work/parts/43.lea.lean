/-! least, leastFor -/
theorem full_d : ∀ m, m ≤ 8 → ∀ S, S < 256 → S < 2 ^ m → pc S = m → S = 2 ^ m - 1 := by
  intro m hm
  match m, hm with
  | 0, _ => decide +kernel
  | 1, _ => decide +kernel
  | 2, _ => decide +kernel
  | 3, _ => decide +kernel
  | 4, _ => decide +kernel
  | 5, _ => decide +kernel
  | 6, _ => decide +kernel
  | 7, _ => decide +kernel
  | 8, _ => decide +kernel
  | m + 9, h => omega
theorem full_of {P : Pr} {m e v a q : Nat} (m8 : m ≤ 8) (hab : pab P < 256) (hb : ∀ q, (pab P).testBit q = true → q < m) (h : Can P e v 0 (CC (some m)) a q) : pab P = 2 ^ m - 1 := by
  obtain ⟨u, r, ⟨n1, n2, n3⟩, -, -⟩ := Can.pl.1 h
  have hl : u.length = m := by
    rcases n3 with z | z
    · cases z
    · exact (Option.some.inj z).symm
  obtain ⟨S, s1, s2, s3⟩ := setOf u n1 (fun q hq => bit_lt hab (n2 q hq))
  have sS : S < 2 ^ m := lt_pow (fun q hq => hb q (n2 q ((s2 q).2 hq)))
  have eS := full_d m m8 S s1 sS (by rw [s3, hl])
  refine set_ext hab (Nat.lt_of_lt_of_le (by have := Nat.one_le_two_pow (n := m); omega) (pow_le8 m8)) (fun q _ => ?_)
  have t : (2 ^ m - 1).testBit q = decide (q < m) := Nat.testBit_two_pow_sub_one m q
  rw [t]
  cases z : (pab P).testBit q with
  | true => simp [hb q z]
  | false =>
    by_cases qm : q < m
    · have b : S.testBit q = true := by rw [eS, t]; simp [qm]
      have := n2 q ((s2 q).2 b)
      rw [z] at this
      cases this
    · simp [qm]
theorem cc_cnt0 {k : Option Nat} (hk : ∀ j, k = some j → j ≤ 8) : (1 : Int32) ≤ enc k ↔ ¬ CC k 0 := by
  cases k with
  | none =>
    refine ⟨fun z => absurd z (by decide), fun z => absurd (Or.inl rfl) z⟩
  | some j =>
    have j8 := hk j rfl
    have e : ((1 : Int32) ≤ enc (some j)) ↔ 1 ≤ j := leN (a := 1) (b := j) (by omega) (by omega)
    rw [e]
    constructor
    · intro z c
      rcases c with c | c
      · cases c
      · have := Option.some.inj c
        omega
    · intro z
      refine Nat.pos_of_ne_zero (fun y => z (Or.inr (by rw [y])))
theorem cc_cnt {k : Option Nat} (hk : ∀ j, k = some j → j ≤ 8) : ∀ S, S < 256 → ((enc k < 0 ∨ J (pc S : Nat) = enc k) ↔ CC k (pc S)) := by
  intro S hS
  have pc8 : pc S ≤ 8 := by
    unfold pc
    exact Nat.le_trans (List.length_filter_le _ _) (by simp)
  cases k with
  | none => exact ⟨fun _ => Or.inl rfl, fun _ => Or.inl (by decide)⟩
  | some j =>
    have j8 := hk j rfl
    have e : (J (pc S : Nat) = enc (some j)) ↔ pc S = j := eqN (by omega) (by omega)
    have e2 : ¬ enc (some j) < (0 : Int32) := fun z => by
      have z : J (j : Nat) < J ((0 : Nat) : Int) := z
      have := (ltN (by omega) (by omega)).1 z
      omega
    rw [e]
    constructor
    · intro z
      rcases z with z | z
      · exact absurd z e2
      · exact Or.inr (by rw [z])
    · intro z
      rcases z with z | z
      · cases z
      · exact Or.inr (Option.some.inj z).symm
theorem fyG.trans8 {M A N : Me} (h : fyG M A) (g : ∀ r j, r ≠ 8 → N.1 r j = A.1 r j) (g2 : N.2 = A.2) : fyG M N :=
  ⟨fun r j h0 h5 h6 h7 h8 => (g r j h8).trans (h.1 r j h0 h5 h6 h7 h8), fun j hj => (g 0 j (by decide)).trans (h.2.1 j hj), g2.trans h.2.2⟩
theorem fyF.g {M N : Me} (h : fyF M N) : fyG M N := ⟨fun r j h0 h5 h6 h7 _ => h.1 r j h0 h5 h6 h7, h.2.1, h.2.2⟩
theorem fyG.rf {M : Me} : fyG M M := ⟨fun _ _ _ _ _ _ _ => rfl, fun _ _ => rfl, rfl⟩
theorem fyG.tr {M A N : Me} (h : fyG M A) (g : fyG A N) : fyG M N :=
  ⟨fun r j h0 h5 h6 h7 h8 => (g.1 r j h0 h5 h6 h7 h8).trans (h.1 r j h0 h5 h6 h7 h8), fun j hj => (g.2.1 j hj).trans (h.2.1 j hj), g.2.2.trans h.2.2⟩
/-- what no call of plans changes on the model's side -/
def fyH (M N : Me) : Prop := (∀ r j, r = 1 ∨ r = 2 ∨ r = 3 ∨ r = 4 ∨ 11 ≤ r → N.1 r j = M.1 r j) ∧ ∀ j, j ≠ 8 → j ≠ 12 → N.1 0 j = M.1 0 j
theorem fyG.h {M N : Me} (h : fyG M N) : fyH M N := ⟨fun r j hr => h.1 r j (by omega) (by omega) (by omega) (by omega) (by omega), fun j h8 _ => h.2.1 j h8⟩
theorem fyH.rf {M : Me} : fyH M M := ⟨fun _ _ _ => rfl, fun _ _ _ => rfl⟩
theorem fyH.tr {M A N : Me} (h : fyH M A) (g : fyH A N) : fyH M N := ⟨fun r j hr => (g.1 r j hr).trans (h.1 r j hr), fun j h8 h12 => (g.2 j h8 h12).trans (h.2 j h8 h12)⟩
theorem Rr.H {n : Nat} {M1 M2 N1 N2 : Me} (R : Rr n M1 M2) (f1 : ∀ r j, r < 46 → N1.1 r j = M1.1 r j) (f2 : MT N1) (f3 : fyH M2 N2) : Rr n N1 N2 :=
  R.fr f1 f2 (fun r j hr => f3.1 r j (by omega)) (f3.2 4 (by decide) (by decide)) (f3.2 15 (by decide) (by decide))
theorem layR {n : Nat} {M1 M2 : Me} (R : Rr n M1 M2) (hn : n ≤ 1000) : ∃ A, fpX0_lay 1 (M1.1 1 8) M1 = some A ∧ (∀ r j, r < 46 ∨ r = 47 ∨ 53 ≤ r → A.1 r j = M1.1 r j) ∧ MT A ∧ PX A (vn (M2.1 1) 0) (vn (M2.1 1) 7) (PR (M2.1 1) (vn (M2.1 1) 4)) ∧ (∀ p, p < vn (M2.1 1) 0 → A.1 48 p = J (vn (M2.1 1) (12 + 6 * p + 1) : Nat) ∧ A.1 52 p = M2.1 1 (12 + 6 * p + 3)) ∧ A.1 48 8 = J (vn (M2.1 1) 7 : Nat) ∧ A.1 48 9 = J ((0 : Nat) : Int) ∧ A.1 46 5 = J (vn (M2.1 1) 3 : Nat) := by
  have k4 := R.2.k4
  have e8 : M1.1 1 8 = J (vn (M2.1 1) 4 : Nat) := (R.1.1 4 (by decide)).trans (vn_J k4.1)
  have d9 : vn (M2.1 1) 4 < 10 := by unfold vn; omega
  rw [e8]
  obtain ⟨A, e1, f1, hA, h2⟩ := lay_e (d := vn (M2.1 1) 4) R.1.1 R.2 hn (by omega)
  exact ⟨A, e1, f1, fun S hS l hl hb => by rw [f1 53 _ (by omega)]; exact R.1.2.2.2.2.2.2 S hS l hl hb, hA, h2⟩
theorem Bst.can {P : Pr} {e a w v : Nat} {C : Nat → Prop} {o : Option Nat} (h : Bst P e a w (pab P) C o) : (∃ q, o = some q ∧ v ≤ q) ↔ Can P e v 0 C a w := (h.ge v).trans Can.pl.symm
theorem lw_eq {W w room : Nat} {T : Nat → Prop} (hT : ∀ q, q ≤ room → (W ≤ q ↔ T q)) (h1 : w ≤ room → T w) (h2 : ∀ w', w' < w → ¬ T w') : (W ≤ room ↔ w ≤ room) ∧ (W ≤ room → W = w) := by
  have a1 : w ≤ room → W ≤ w := fun z => (hT w z).2 (h1 z)
  have a2 : W ≤ room → w ≤ W := fun z => Nat.le_of_not_lt (fun y => h2 W y ((hT W z).1 (Nat.le_refl _)))
  exact ⟨⟨fun z => Nat.le_trans (a2 z) z, fun z => Nat.le_trans (a1 z) z⟩, fun z => Nat.le_antisymm (a1 (Nat.le_trans (a2 z) z)) (a2 z)⟩
theorem SM.con {n W w : Nat} {M1 M2 N1 N2 : Me} (R : Rr n M1 M2) (f1 : ∀ r j, r < 46 → N1.1 r j = M1.1 r j) (f2 : MT N1) (f3 : fyH M2 N2) (hW : W < 2000000) (hw : w < 2000000) (h : (W ≤ vn (M2.1 1) 2 ↔ w ≤ vn (M2.1 1) 2) ∧ (W ≤ vn (M2.1 1) 2 → W = w)) : SM n ((fpX5_carriedOrNone (J (W : Nat)) N1).bind fun q => some (q.1, q.2)) (if J (w : Nat) ≤ N2.1 1 2 then some (J (w : Nat), N2) else (fpX6_finds (-1000004 : Int32) N2).bind fun q => some (q.1, q.2)) := by
  have RN : Rr n N1 N2 := R.H f1 f2 f3
  have k2 := R.2.k2
  have r9 : vn (M2.1 1) 2 < 1000 := by unfold vn; omega
  have e6 : N1.1 1 6 = J (vn (M2.1 1) 2 : Nat) := (f1 1 6 (by decide)).trans ((R.1.1 2 (by decide)).trans (vn_J (by omega)))
  have e2 : N2.1 1 2 = J (vn (M2.1 1) 2 : Nat) := (f3.1 1 2 (by decide)).trans (vn_J (by omega))
  unfold fpX5_carriedOrNone
  rw [e6, e2]
  by_cases hc : W ≤ vn (M2.1 1) 2
  · rw [if_pos ((leN (by omega) (by omega)).2 hc)]
    refine .t2 ((leN (by omega) (by omega)).2 (h.1.1 hc)) ?_
    rw [h.2 hc]
    exact .e rfl (RN.mono (Nat.le_succ n))
  · rw [if_neg (fun z => hc ((leN (by omega) (by omega)).1 z))]
    refine .f2 (fun z => hc (h.1.2 ((leN (by omega) (by omega)).1 z))) ?_
    obtain ⟨v, A, B, h1, h2, h3⟩ := fnd RN 3 (by decide)
    have h1 : fpX5_finding (3 : Int32) N1 = some (v, A) := h1
    have h2 : fpX6_finds (-1000004 : Int32) N2 = some (v, B) := h2
    rw [h1, h2]
    exact ⟨v, A, B, rfl, rfl, h3⟩
theorem lea_l {D : Me} {m a : Nat} {P : Pr} (hD : PY D m P) (ha : D.1 1 7 = J (a : Nat)) (a9 : a < 1000) : ∃ w X, lp fpX6_least_l30 FU ((0 : Int32), D) = some (J (w : Nat), X) ∧ (∀ r j, r ≠ 8 → X.1 r j = D.1 r j) ∧ X.2 = D.2 ∧ w ≤ prom P + 1 ∧ (w ≤ prom P → Can P 0 0 0 (CC (some m)) a w) ∧ ∀ w', w' < w → ¬ Can P 0 0 0 (CC (some m)) a w' := by
  have m8 := hD.1
  have rm := hD.2.2.2.2.1
  have hk : ∀ j, some m = some j → j ≤ 8 := fun j hj => by cases hj; exact m8
  obtain ⟨⟨rw', X⟩, er, w, q1, q2, q3, q4, q5, q6⟩ := lp_ok (step := fpX6_least_l30) (Q := fun r => ∃ w : Nat, r.1 = J (w : Nat) ∧ (∀ r' j, r' ≠ 8 → r.2.1 r' j = D.1 r' j) ∧ r.2.2 = D.2 ∧ w ≤ prom P + 1 ∧ (w ≤ prom P → Can P 0 0 0 (CC (some m)) a w) ∧ ∀ w', w' < w → ¬ Can P 0 0 0 (CC (some m)) a w') (fun i st => st.1 = J (i : Nat) ∧ (∀ r' j, r' ≠ 8 → st.2.1 r' j = D.1 r' j) ∧ st.2.2 = D.2 ∧ ∀ w', w' < i → ¬ Can P 0 0 0 (CC (some m)) a w') (prom P + 1) (by omega) (s := ((0 : Int32), D)) ⟨rfl, fun _ _ _ => rfl, rfl, fun w hw => absurd hw (Nat.not_lt_zero _)⟩ (by
    intro i st hi hst
    obtain ⟨ia, X⟩ := st
    obtain ⟨s1, x1, x2, x3⟩ := hst
    have s1 : ia = J (i : Nat) := s1
    have x1 : ∀ r' j, r' ≠ 8 → X.1 r' j = D.1 r' j := x1
    subst s1
    have hX : PY X m P := hD.same (fun r j hr => x1 r j hr)
    show ok (fpX6_least_l30s (J (i : Nat)) X) _
    unfold fpX6_least_l30s
    have e7 : X.1 1 7 = J (a : Nat) := (x1 1 7 (by decide)).trans ha
    rw [hX.2.2.2.2.2.1, e7, hX.2.2.2.1, hX.2.1]
    by_cases hc : prom P < i
    · exact okT ((ltN (by omega) (by omega)).2 hc) (okS ⟨i, rfl, x1, x2, hi, fun z => absurd z (by omega), x3⟩)
    · refine okF (fun z => hc ((ltN (by omega) (by omega)).1 z)) ?_
      obtain ⟨N, o, e1, g1, g2, g3, g4⟩ := best_e (a := a) (w := i) (e := 0) (may := pab P) (cnt := enc (some m)) (C := CC (some m)) hX a9 (by omega) (by decide) hX.2.2.1.1 hX.2.2.1.2 (cc_cnt0 hk) (cc_cnt hk)
      have e1 : fpX6_bestFrom (J (a : Nat)) (J (i : Nat)) (J (pab P : Nat)) (J (m : Nat)) (0 : Int32) X = some (enc o, N) := e1
      refine okE e1 ?_
      have key : (0 : Int32) ≤ enc o ↔ Can P 0 0 0 (CC (some m)) a i := (enc_lt (o := o) (k := 0) (fun x hx => by have := g4 x hx; omega) (by decide)).trans g3.can
      by_cases h0 : Can P 0 0 0 (CC (some m)) a i
      · exact okT (key.2 h0) (okS ⟨i, rfl, fun r j hr => (g1 r j hr).trans (x1 r j hr), g2.trans x2, hi, fun _ => h0, x3⟩)
      · refine okF (fun z => h0 (key.1 z)) (okL (okS ⟨by omega, J_succ i, fun r j hr => (g1 r j hr).trans (x1 r j hr), g2.trans x2, fun w' hw' => ?_⟩))
        rcases Nat.lt_or_eq_of_le (Nat.le_of_lt_succ hw') with z | z
        · exact x3 w' z
        · rw [z]; exact h0)
  have q1 : rw' = J (w : Nat) := q1
  subst q1
  exact ⟨w, X, er, q2, q3, q4, q5, q6⟩
theorem s15 : sim15 Rr := by
  intro n M1 M2 hn R
  show SM n _ _
  unfold fpX5_least fpX6_least
  have k0 := R.2.k0
  have k2 := R.2.k2
  have k7 := R.2.k7
  obtain ⟨A, e1, f1, mA, hA, -⟩ := layR R (by omega)
  obtain ⟨D, e4, d1, hD⟩ := fy_e R.2 (by omega)
  have em : A.1 1 2 = enc (some (vn (M2.1 1) 0)) := (f1 1 2 (by omega)).trans ((R.1.1 0 (by decide)).trans (vn_J k0.1))
  have a7 : D.1 1 7 = J (vn (M2.1 1) 7 : Nat) := (d1.1 1 7 (by decide) (by decide) (by decide) (by decide)).trans (vn_J k7.1)
  have a9 : vn (M2.1 1) 7 < 1000 := by unfold vn; omega
  have rm9 : vn (M2.1 1) 2 < 1000 := by unfold vn; omega
  have m8 := hA.1
  obtain ⟨N, W, e3, g1, ⟨t0, t1⟩, -⟩ := lst_e (v := 0) (k := some (vn (M2.1 1) 0)) hA (by omega) (fun j hj => by cases hj; exact m8)
  have e3 : fpX0_leastStart (0 : Int32) (enc (some (vn (M2.1 1) 0))) A = some (J (W : Nat), N) := e3
  have fN : ∀ r j, r < 46 → N.1 r j = M1.1 r j := fun r j hr => (g1 r j (by omega)).trans (f1 r j (by omega))
  have mN : MT N := fun S hS l hl hb => by rw [g1 53 _ (by omega)]; exact mA S hS l hl hb
  refine .b1 e1 ?_
  rw [em]
  refine .b1 e3 (.b2 e4 ?_)
  have c1 : ((1 : Int32) <<< (D.1 1 0 &&& 31)) - 1 = J ((2 ^ vn (M2.1 1) 0 - 1 : Nat) : Int) := by
    rw [hD.2.1, shl_d _ (by omega)]
    exact subN (b := 1) Nat.one_le_two_pow
  have p8 := pow_le8 m8
  have ab := hD.2.2.1.1
  rw [c1, hD.2.2.2.1]
  by_cases hf : pab (PR (M2.1 1) (vn (M2.1 1) 4)) = 2 ^ vn (M2.1 1) 0 - 1
  · refine .t2 ((eqN (by omega) (by omega)).2 hf) ?_
    obtain ⟨w, X, er, q2, q3, q4, q5, q6⟩ := lea_l hD a7 a9
    refine .b2 er ?_
    have q4 : w ≤ vn (M2.1 1) 2 + 1 := q4
    unfold fpX6_least_b72
    exact SM.con R fN mN (d1.g.trans8 q2 q3).h (by omega) (by omega) (lw_eq t1 q5 q6)
  · refine .f2 (fun z => hf ((eqN (by omega) (by omega)).1 z)) ?_
    have hW : ¬ W ≤ vn (M2.1 1) 2 := fun z => hf (full_of m8 ab hD.2.2.1.2 ((t1 W z).1 (Nat.le_refl _)))
    have := SM.con (W := W) (w := 1000) R fN mN d1.g.h (by omega) (by omega) ⟨⟨fun z => absurd z hW, fun z => absurd z (by omega)⟩, fun z => absurd z hW⟩
    have e2 : D.1 1 2 = J (vn (M2.1 1) 2 : Nat) := hD.2.2.2.2.2.1
    rw [e2, if_neg (fun z => by have := (leN (a := 1000) (by omega) (by omega)).1 z; omega)] at this
    exact this
