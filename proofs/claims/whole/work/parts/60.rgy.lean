/-! ring: the model's, and the call -/
theorem fyG.trans8' {M A N : Me} (h : fyG M A) (g : ∀ r j, r ≠ 8 → N.1 r j = A.1 r j) : fyH M N := h.h.tr ⟨fun r j hr => g r j (by omega), fun j _ _ => g 0 j (by decide)⟩
theorem irY_e {D : Me} {m S : Nat} {P : Pr} (h : PY D m P) (hl0 : ∀ a, pls P a a = 0) (hS : S < 256) (hsb : sb S (pab P)) (h2 : 2 ≤ pc S) : ∃ b N, fpX6_isRing (J (S : Nat)) D = some (b, N) ∧ (∀ r j, r ≠ 8 → N.1 r j = D.1 r j) ∧ ((b = 1 ∧ ∃ p, p < m ∧ Ring P S p) ∨ (b = 0 ∧ ¬ ∃ p, p < m ∧ Ring P S p)) := by
  have m8 := h.1
  have rm := h.2.2.2.2.1
  have ab := h.2.2.1
  have pl8 := pc_le (S := S)
  obtain ⟨⟨b, N⟩, er, q1, q2⟩ := lp_ok (step := fpX6_isRing_l4 (J (S : Nat))) (Q := fun r => (∀ r' j, r' ≠ 8 → r.2.1 r' j = D.1 r' j) ∧ ((r.1 = 1 ∧ ∃ p, p < m ∧ Ring P S p) ∨ (r.1 = 0 ∧ ¬ ∃ p, p < m ∧ Ring P S p))) (fun i st => st.2.1 = J (i : Nat) ∧ (∀ r' j, r' ≠ 8 → st.2.2.1 r' j = D.1 r' j) ∧ ((st.1 = 1 ∧ ∃ p, p < m ∧ Ring P S p) ∨ (st.1 = 0 ∧ ∀ p, p < i → ¬ Ring P S p))) m (by omega) (s := ((0 : Int32), (0 : Int32), D)) ⟨rfl, fun _ _ _ => rfl, Or.inr ⟨rfl, fun p hp => absurd hp (Nat.not_lt_zero _)⟩⟩ (by
    intro i st hi hst
    obtain ⟨ba, ia, X⟩ := st
    obtain ⟨s1, x1, x2⟩ := hst
    have s1 : ia = J (i : Nat) := s1
    have x1 : ∀ r' j, r' ≠ 8 → X.1 r' j = D.1 r' j := x1
    subst s1
    have hX : PY X m P := h.same x1
    show ok (fpX6_isRing_l4s (J (S : Nat)) ba (J (i : Nat)) X) _
    unfold fpX6_isRing_l4s
    rw [hX.2.1, hX.2.2.2.2.2.1]
    rcases Nat.lt_or_eq_of_le hi with him | him
    · have i8 : i < 8 := by omega
      refine okF (fun z => by have := (leN (by omega) (by omega)).1 z; omega) ?_
      rcases x2 with ⟨y1, y2⟩ | ⟨y1, y2⟩
      · have y1 : ba = 1 := y1
        subst y1
        exact okF (by decide) (okS ⟨x1, Or.inl ⟨rfl, y2⟩⟩)
      · have y1 : ba = 0 := y1
        subst y1
        have no : ∀ X' : Me, (∀ r' j, r' ≠ 8 → X'.1 r' j = D.1 r' j) → ¬ Ring P S i → ok (some (Sum.inl ((0 : Int32), J ((i + 1 : Nat) : Int), X')) : Option ((Int32 × Int32 × Me) ⊕ (Int32 × Me))) (Sum.elim (fun st => i < m ∧ st.2.1 = J ((i + 1 : Nat) : Int) ∧ (∀ r' j, r' ≠ 8 → st.2.2.1 r' j = D.1 r' j) ∧ ((st.1 = 1 ∧ ∃ p, p < m ∧ Ring P S p) ∨ (st.1 = 0 ∧ ∀ p, p < i + 1 → ¬ Ring P S p))) (fun r => (∀ r' j, r' ≠ 8 → r.2.1 r' j = D.1 r' j) ∧ ((r.1 = 1 ∧ ∃ p, p < m ∧ Ring P S p) ∨ (r.1 = 0 ∧ ¬ ∃ p, p < m ∧ Ring P S p)))) := fun X' hX' hr => okS ⟨him, rfl, hX', Or.inr ⟨rfl, fun p hp => by
          rcases Nat.lt_or_eq_of_le (Nat.le_of_lt_succ hp) with z | z
          · exact y2 p z
          · rw [z]; exact hr⟩⟩
        refine okT rfl ?_
        rw [has_d S hS i i8, J_succ]
        by_cases hb : S.testBit i = true
        · rw [if_pos hb]
          obtain ⟨n1, n2, -, -⟩ := hX.2.2.2.2.2.2.1 i him
          refine okF (by decide) (okE (inbJ i8 (by decide)) ?_)
          rw [n2]
          have abl : (pab P).testBit i = true := hsb i i8 hb
          have hy : rn P i (pnd P i) = some (min (prom P) (pnd P i - pnd P i + pyl P i)) := rn_of abl (Nat.le_refl _)
          have iff := ring_iff (y := min (prom P) (pnd P i - pnd P i + pyl P i)) hl0 ab.1 hsb hS hb h2 hy
          generalize min (prom P) (pnd P i - pnd P i + pyl P i) = y at hy iff
          have yr := rn_le hy
          by_cases c1 : prom P < pnd P i
          · exact okT ((ltN (by omega) (by omega)).2 c1) (okL (no X x1 (fun z => by have := (iff.1 z).1; omega)))
          · refine okF (fun z => c1 ((ltN (by omega) (by omega)).1 z)) ?_
            have ml := (hX.2.2.2.2.2.2.2.1 i him).1
            have er : fpX6_ran (J (pnd P i : Nat)) (J (i : Nat)) X = some (enc (rn P i (pnd P i))) := ranY_e (o := some (pnd P i)) hX him (fun z hz => by cases hz; omega)
            rw [hy] at er
            have hk : ∀ j, some (pc S - 1) = some j → j ≤ 8 := fun j hj => by cases hj; omega
            have dlt := dl_lt S hS i i8
            have dm : ∀ q, (dl S i).testBit q = true → q < m := fun q hq => by
              have q8 := bit_lt dlt hq
              rw [dl_bit S hS i i8 q q8] at hq
              simp only [Bool.and_eq_true] at hq
              exact ab.2 q (hsb q q8 hq.1)
            obtain ⟨Y, o, e5, g1, -, g3, g4⟩ := best_e (a := pml P i) (w := y) (e := pml P i) (may := dl S i) (cnt := enc (some (pc S - 1))) (C := CC (some (pc S - 1))) hX (by omega) (by omega) (by omega) dlt dm (cc_cnt0 hk) (cc_cnt hk)
            have ecn : J (pc S : Nat) - (1 : Int32) = enc (some (pc S - 1)) := subN (b := 1) (by omega)
            refine okE (itM_e hX him) (okE er (okE (ones_d S hS) (okE (itM_e hX him) ?_)))
            rw [ecn, del_d S hS i i8]
            refine okE e5 ?_
            have fY : ∀ r' j, r' ≠ 8 → Y.1 r' j = D.1 r' j := fun r' j hr => (g1 r' j hr).trans (x1 r' j hr)
            rw [show Y.1 6 i = J (pnd P i : Nat) from (g1 6 i (by decide)).trans n2]
            have key : (¬ enc o < J (pnd P i : Nat)) ↔ Ring P S i := by
              rw [Int32.not_lt, enc_le (fun x hx => by have := g4 x hx; omega) (by omega), g3.ge, iff]
              unfold RingY
              constructor
              · intro ⟨u, q, z1, z2, z3⟩
                exact ⟨by omega, u, q, z1, z2, z3⟩
              · intro ⟨_, u, q, z1, z2, z3⟩
                exact ⟨u, q, z1, z2, z3⟩
            by_cases hr : Ring P S i
            · refine okF (key.2 hr) (okL (okS ⟨him, rfl, fY, Or.inl ⟨rfl, i, him, hr⟩⟩))
            · exact okT (Classical.byContradiction (fun z => hr (key.1 z))) (okL (no Y fY hr))
        · rw [if_neg hb]
          exact okT rfl (okL (no X x1 (fun z => hb z.2.2.1)))
    · subst him
      refine okT ((leN (by omega) (by omega)).2 (Nat.le_refl _)) (okS ⟨x1, ?_⟩)
      rcases x2 with y | ⟨y1, y2⟩
      · exact Or.inl y
      · exact Or.inr ⟨y1, fun ⟨p, z1, z2⟩ => y2 p z1 z2⟩)
  refine ⟨b, N, ?_, q1, q2⟩
  unfold fpX6_isRing bz
  rw [er, Option.bind_some]
  have hb : b = 0 ∨ b = 1 := by
    rcases q2 with ⟨z, -⟩ | ⟨z, -⟩
    · exact Or.inr z
    · exact Or.inl z
  dsimp only
  rw [if_pos hb]
theorem s19 : sim19 Rr := by
  intro n M1 M2 hn R
  show SM n _ _
  unfold fpX5_ring fpX6_ring
  obtain ⟨A, e1, f1, mA, hA, -⟩ := layR R (by omega)
  obtain ⟨D, e4, d1, hD⟩ := fy_e R.2 (by omega)
  obtain ⟨Z, N, e2, g1, g2, hZ⟩ := smr_e hA mA
  have m8 := hA.1
  have p8 := pow_le8 m8
  have p1 : 1 ≤ 2 ^ vn (M2.1 1) 0 := Nat.one_le_two_pow
  have ab := hD.2.2.1
  have hl0 : ∀ a, pls (PR (M2.1 1) (vn (M2.1 1) 4)) a a = 0 := fun a => by
    show ls (vn (M2.1 1) 3) a a = 0
    unfold ls ad
    by_cases c : vn (M2.1 1) 3 = 0
    · rw [if_pos c]
    · rw [if_neg c, if_pos (Nat.le_refl _), Nat.sub_self, Nat.zero_div]
  generalize PR (M2.1 1) (vn (M2.1 1) 4) = P at hA hD hZ hl0 ab
  generalize vn (M2.1 1) 0 = m at hA hD hZ m8 p8 p1 ab
  obtain ⟨⟨ra, Y⟩, er, q1, B, q2, q3⟩ := lp_ok (step := fpX6_ring_l8) (Q := fun r => (∀ r' j, r' ≠ 8 → r.2.1 r' j = D.1 r' j) ∧ ∃ B : Nat, r.1 = (if B = 0 then (-1 : Int32) else J (B : Nat)) ∧ MinR (fun S => ∃ p, p < m ∧ Ring P S p) B) (fun i st => st.2.1 = J ((1 + i : Nat) : Int) ∧ (∀ r' j, r' ≠ 8 → st.2.2.1 r' j = D.1 r' j) ∧ ∃ B : Nat, B < 1 + i ∧ st.1 = (if B = 0 then (-1 : Int32) else J (B : Nat)) ∧ MinR (fun S => S < 1 + i ∧ ∃ p, p < m ∧ Ring P S p) B) (2 ^ m - 1) (by omega) (s := ((-1 : Int32), (1 : Int32), D)) ⟨rfl, fun _ _ _ => rfl, 0, by omega, rfl, Or.inl ⟨rfl, fun S ⟨z1, p, z2, z3⟩ => by have := z3.pos; omega⟩⟩ (by
    intro i st hi hst
    obtain ⟨ba, ia, X⟩ := st
    obtain ⟨s1, x1, B, x0, s2, x2⟩ := hst
    have s1 : ia = J ((1 + i : Nat) : Int) := s1
    have s2 : ba = (if B = 0 then (-1 : Int32) else J (B : Nat)) := s2
    have x1 : ∀ r' j, r' ≠ 8 → X.1 r' j = D.1 r' j := x1
    subst s1
    have hX : PY X m P := hD.same x1
    show ok (fpX6_ring_l8s ba (J ((1 + i : Nat) : Int)) X) _
    unfold fpX6_ring_l8s
    rw [hX.2.1, shl_d m (by omega), hX.2.2.2.1]
    have es : J ((1 + i : Nat) : Int) + 1 = J ((1 + (i + 1) : Nat) : Int) := J_succ _
    by_cases hin : 1 + i < 2 ^ m
    · have S8 : 1 + i < 256 := by omega
      refine okF (fun z => by have := (leN (by omega) (by omega)).1 z; omega) ?_
      -- what comes if it is passed over
      have keep : ∀ X' : Me, (∀ r' j, r' ≠ 8 → X'.1 r' j = D.1 r' j) → ((∃ p, p < m ∧ Ring P (1 + i) p) → ¬ B = 0 ∧ ordS B (1 + i)) → ok (some (Sum.inl (ba, J ((1 + (i + 1) : Nat) : Int), X')) : Option ((Int32 × Int32 × Me) ⊕ (Int32 × Me))) (Sum.elim (fun st => i < 2 ^ m - 1 ∧ st.2.1 = J ((1 + (i + 1) : Nat) : Int) ∧ (∀ r' j, r' ≠ 8 → st.2.2.1 r' j = D.1 r' j) ∧ ∃ B : Nat, B < 1 + (i + 1) ∧ st.1 = (if B = 0 then (-1 : Int32) else J (B : Nat)) ∧ MinR (fun S => S < 1 + (i + 1) ∧ ∃ p, p < m ∧ Ring P S p) B) (fun r => (∀ r' j, r' ≠ 8 → r.2.1 r' j = D.1 r' j) ∧ ∃ B : Nat, r.1 = (if B = 0 then (-1 : Int32) else J (B : Nat)) ∧ MinR (fun S => ∃ p, p < m ∧ Ring P S p) B)) := fun X' hX' hr => by
        refine okS ⟨by omega, rfl, hX', B, by omega, s2, ?_⟩
        rcases x2 with ⟨y1, y2⟩ | ⟨y1, y2, y3, y4⟩
        · refine Or.inl ⟨y1, fun S ⟨z1, z2⟩ => ?_⟩
          rcases Nat.lt_or_eq_of_le (Nat.le_of_lt_succ (show S < (1 + i) + 1 by omega)) with c | c
          · exact y2 S ⟨c, z2⟩
          · rw [c] at z2
            exact (hr z2).1 y1
        · refine Or.inr ⟨y1, y2, ⟨by omega, y3.2⟩, fun S ⟨z1, z2⟩ => ?_⟩
          rcases Nat.lt_or_eq_of_le (Nat.le_of_lt_succ (show S < (1 + i) + 1 by omega)) with c | c
          · exact y4 S ⟨c, z2⟩
          · rw [c] at z2 ⊢
            exact (hr z2).2
      have skip : ((∃ p, p < m ∧ Ring P (1 + i) p) → ¬ B = 0 ∧ ordS B (1 + i)) → ok (fpX6_ring_b58_8 ba (J ((1 + i : Nat) : Int)) X) (Sum.elim (fun st => i < 2 ^ m - 1 ∧ st.2.1 = J ((1 + (i + 1) : Nat) : Int) ∧ (∀ r' j, r' ≠ 8 → st.2.2.1 r' j = D.1 r' j) ∧ ∃ B : Nat, B < 1 + (i + 1) ∧ st.1 = (if B = 0 then (-1 : Int32) else J (B : Nat)) ∧ MinR (fun S => S < 1 + (i + 1) ∧ ∃ p, p < m ∧ Ring P S p) B) (fun r => (∀ r' j, r' ≠ 8 → r.2.1 r' j = D.1 r' j) ∧ ∃ B : Nat, r.1 = (if B = 0 then (-1 : Int32) else J (B : Nat)) ∧ MinR (fun S => ∃ p, p < m ∧ Ring P S p) B)) := fun hr => by
        unfold fpX6_ring_b58_8 fpX6_ring_b59_8
        rw [es]
        exact okT rfl (okL (keep X x1 hr))
      have try_ : sb (1 + i) (pab P) → 2 ≤ pc (1 + i) → (B = 0 ∨ pc (1 + i) < pc B) → ok (fpX6_ring_b54_8 ba (J ((1 + i : Nat) : Int)) X) (Sum.elim (fun st => i < 2 ^ m - 1 ∧ st.2.1 = J ((1 + (i + 1) : Nat) : Int) ∧ (∀ r' j, r' ≠ 8 → st.2.2.1 r' j = D.1 r' j) ∧ ∃ B : Nat, B < 1 + (i + 1) ∧ st.1 = (if B = 0 then (-1 : Int32) else J (B : Nat)) ∧ MinR (fun S => S < 1 + (i + 1) ∧ ∃ p, p < m ∧ Ring P S p) B) (fun r => (∀ r' j, r' ≠ 8 → r.2.1 r' j = D.1 r' j) ∧ ∃ B : Nat, r.1 = (if B = 0 then (-1 : Int32) else J (B : Nat)) ∧ MinR (fun S => ∃ p, p < m ∧ Ring P S p) B)) := fun hsb h2 hB => by
        unfold fpX6_ring_b54_8 fpX6_ring_b59_8
        rw [es]
        obtain ⟨b, Y, e5, w1, w2⟩ := irY_e hX hl0 S8 hsb h2
        have fY : ∀ r' j, r' ≠ 8 → Y.1 r' j = D.1 r' j := fun r' j hr => (w1 r' j hr).trans (x1 r' j hr)
        refine okF (by decide) (okE e5 ?_)
        rcases w2 with ⟨rfl, hr⟩ | ⟨rfl, hr⟩
        · refine okF (show ¬ (1 : Int32) = 0 by decide) (okL (okS ⟨by omega, rfl, fY, 1 + i, by omega, ?_, ?_⟩))
          · show J ((1 + i : Nat) : Int) = _
            rw [if_neg (by omega)]
          · refine Or.inr ⟨by omega, S8, ⟨by omega, hr⟩, fun S ⟨z1, z2⟩ => ?_⟩
            rcases Nat.lt_or_eq_of_le (Nat.le_of_lt_succ (show S < (1 + i) + 1 by omega)) with c | c
            · rcases x2 with ⟨y1, y2⟩ | ⟨y1, y2, y3, y4⟩
              · exact absurd ⟨c, z2⟩ (y2 S)
              · have := y4 S ⟨c, z2⟩
                unfold ordS at this ⊢
                omega
            · rw [c]
              exact Or.inr ⟨rfl, Nat.le_refl _⟩
        · exact okT rfl (okL (keep Y fY (fun z => absurd z hr)))
      by_cases hsb : sb (1 + i) (pab P)
      · refine okT ((sub_d S8 ab.1).2 hsb) (okE (ones_d _ S8) ?_)
        have pl := pc_le (S := 1 + i)
        by_cases h2 : pc (1 + i) ≤ 1
        · refine okT ((leN (b := 1) (by omega) (by omega)).2 h2) (skip (fun ⟨p, _, z⟩ => ?_))
          have := z.2.2.2.1
          omega
        · refine okF (fun z => h2 ((leN (b := 1) (by omega) (by omega)).1 z)) ?_
          by_cases hB : B = 0
          · rw [if_pos hB] at s2
            have s2 : ba = (-1 : Int32) := s2
            refine okT ?_ (try_ hsb (by omega) (Or.inl hB))
            rw [s2]
            decide
          · rw [if_neg hB] at s2
            have s2 : ba = J (B : Nat) := s2
            have B8 : B < 256 := by omega
            have plB := pc_le (S := B)
            refine okF ?_ (okE (ones_d _ S8) (okE (by rw [s2]; exact ones_d B B8) ?_))
            · rw [s2]
              exact fun z => by have := (ltN (b := 0) (by omega) (by omega)).1 z; omega
            · by_cases c : pc B ≤ pc (1 + i)
              · refine okT ((leN (by omega) (by omega)).2 c) (skip (fun _ => ⟨hB, ?_⟩))
                unfold ordS
                omega
              · exact okF (fun z => c ((leN (by omega) (by omega)).1 z)) (try_ hsb (by omega) (Or.inr (by omega)))
      · exact okF (fun z => hsb ((sub_d S8 ab.1).1 z)) (skip (fun ⟨p, _, z⟩ => absurd z.1 hsb))
    · refine okT ((leN (by omega) (by omega)).2 (by omega)) (okS ⟨x1, B, s2, x2.cg (fun S => ⟨fun z => z.2, fun z => ⟨?_, z⟩⟩)⟩)
      obtain ⟨p, -, z⟩ := z
      have := sb_lt z.2.1 ab.2 z.1
      omega)
  have eB : B = Z := q3.uniq hZ
  subst eB
  have q2 : ra = (if B = 0 then (-1 : Int32) else J (B : Nat)) := q2
  have B8 : B < 256 := by
    rcases hZ with ⟨z, -⟩ | ⟨-, z, -⟩
    · rw [z]; decide
    · exact z
  have RN : Rr n N Y := R.H (fun r j hr => (g1 r j (by omega)).trans (f1 r j (by omega))) g2 (d1.g.trans8' q1)
  refine .b1 e1 (.b1 e2 (.b2 e4 (.b2 er ?_)))
  by_cases hB : B = 0
  · rw [if_pos hB] at q2
    subst q2
    refine .t1 ((eqN (b := 0) (by omega) (by omega)).2 hB) (.f2 (show ¬ (0 : Int32) ≤ (-1 : Int32) by decide) (.fi RN 3 (by decide) rfl rfl))
  · rw [if_neg hB] at q2
    subst q2
    exact .f1 (fun z => hB ((eqN (b := 0) (by omega) (by omega)).1 z)) (.t2 (nn0 (by omega)) (.e rfl (RN.mono (Nat.le_succ n))))
