/-! judge -/
theorem bi_s {P : Pr} {s w i : Nat} {pl : Nat → Nat} (hi : i < 1000) : bi P s w pl (-1) (i + 1) = bst P (bi P s w pl (-1) i) (pl i) := if_neg (enc_ne (by omega))
/-- the pump at a place of the list can be run there -/
def rok (P : Pr) (s w : Nat) (pl : Nat → Nat) (i : Nat) : Option Nat := rn P (pl i) (cr P (bi P s w pl (-1) i).2 (bi P s w pl (-1) i).1 (pml P (pl i)))
theorem bi_ok {P : Pr} {s w i q : Nat} {pl : Nat → Nat} (hi : i < 1000) (h : rok P s w pl i = some q) : bi P s w pl (-1) (i + 1) = (pml P (pl i), q) := by
  rw [bi_s hi]
  unfold bst
  unfold rok at h
  rw [h]
  rfl
theorem rir_e {A : Me} {r m s w len : Nat} {P : Pr} {g : Nat → Int32} (h : PX A m s P) (hr : r + 1 < 46) (hl : A.1 r 2 = J (len : Nat)) (l40 : len ≤ 40) (hg : ∀ i, i < 40 → A.1 (r + 1) i = g i) (hw : w < 1000) : ∃ j, fpX0_runsInARow r (J (w : Nat)) A = some (J (j : Nat)) ∧ j ≤ len ∧ (∀ k, k < j → gd g m k ∧ rok P s w (vn g) k ≠ none) ∧ (j = len ∨ ¬ (gd g m j ∧ rok P s w (vn g) j ≠ none)) := by
  have m8 := h.1
  have rm := h.2.2.2.2.1
  have hb := bi_lt (s := s) (pl := vn g) (bt := -1) hw rm
  obtain ⟨o, er, j, q1, q2, q3, q4⟩ := lp_ok (step := fpX0_runsInARow_l12 r A) (Q := fun o => ∃ j : Nat, Sum.elim (fun _ => j = len) (fun v => v = J (j : Nat)) o ∧ j ≤ len ∧ (∀ k, k < j → gd g m k ∧ rok P s w (vn g) k ≠ none) ∧ (j = len ∨ ¬ (gd g m j ∧ rok P s w (vn g) j ≠ none))) (fun i st => ∃ x : Nat, st = (J (sS g i : Nat), J (x : Nat), J ((bi P s w (vn g) (-1) i).2 : Nat), J (i : Nat)) ∧ okp m x ∧ plc P s x = (bi P s w (vn g) (-1) i).1 ∧ ∀ k, k < i → gd g m k ∧ rok P s w (vn g) k ≠ none) len (by omega) (s := ((0 : Int32), (8 : Int32), J (w : Nat), (0 : Int32))) ⟨8, rfl, Or.inr (Or.inl rfl), rfl, fun k hk => absurd hk (Nat.not_lt_zero _)⟩ (by
    intro i st hi hst
    obtain ⟨x, rfl, x1, x2, x3⟩ := hst
    have x4 : ∀ k, k < i → gd g m k := fun k hk => (x3 k hk).1
    have S8 := (sS_b m8 i x4).1
    have hbi := hb i
    show ok (fpX0_runsInARow_l12s r (J (sS g i : Nat)) (J (x : Nat)) (J ((bi P s w (vn g) (-1) i).2 : Nat)) (J (i : Nat)) A) _
    unfold fpX0_runsInARow_l12s
    rw [hl]
    rcases Nat.lt_or_eq_of_le hi with hin | hin
    · refine okF (fun z => by have := (leN (by omega) (by omega)).1 z; omega) (okE (inbJ (show i < 40 by omega) (by decide)) (okL ?_))
      rw [hg i (by omega), h.2.1]
      by_cases c0 : 0 ≤ (g i).toInt
      · refine okF (fun z => by rw [Int32.lt_iff_toInt_lt] at z; have z : (g i).toInt < 0 := z; omega) ?_
        have ev : g i = J (vn g i : Nat) := vn_J c0
        by_cases c1 : vn g i < m
        · have c1' : (g i).toInt < (m : Int) := by unfold vn at c1; omega
          rw [ev]
          refine okF (fun z => by have := (leN (by omega) (by omega)).1 z; omega) ?_
          rw [isIn_d _ S8 _ (show vn g i < 8 by omega)]
          by_cases c2 : (sS g i).testBit (vn g i) = true
          · rw [if_pos c2]
            refine okF (by decide) (okS ⟨i, rfl, hi, x3, Or.inr (fun z => ?_)⟩)
            rw [z.1.2.2] at c2
            cases c2
          · rw [if_neg c2]
            have c2 : (sS g i).testBit (vn g i) = false := by
              cases z : (sS g i).testBit (vn g i) with
              | true => exact absurd z c2
              | false => rfl
            have ec := car_e (x := x) (y := vn g i) (w := (bi P s w (vn g) (-1) i).2) h x1 (Or.inl c1) (by omega)
            rw [plc_p (x := vn g i) (by omega), x2] at ec
            have hcr : cr P (bi P s w (vn g) (-1) i).2 (bi P s w (vn g) (-1) i).1 (pml P (vn g i)) ≤ (bi P s w (vn g) (-1) i).2 := by unfold cr; omega
            have er : fpX0_ran (J (vn g i : Nat)) (J (cr P (bi P s w (vn g) (-1) i).2 (bi P s w (vn g) (-1) i).1 (pml P (vn g i)) : Nat)) A = some (enc (rok P s w (vn g) i)) := ran_e (o := some (cr P (bi P s w (vn g) (-1) i).2 (bi P s w (vn g) (-1) i).1 (pml P (vn g i)))) h c1 (fun z hz => by cases hz; omega)
            refine okT rfl (okE ec (okE er ?_))
            cases hq : rok P s w (vn g) i with
            | none => exact okT rfl (okS ⟨i, rfl, hi, x3, Or.inr (fun z => z.2 hq)⟩)
            | some q =>
              have := rn_le hq
              have eb := bi_ok (by omega) hq
              rw [ins_d _ S8 _ (by omega)]
              refine okF (enc_ne (by omega)) (okL (okL (okS ⟨hin, vn g i, ?_, Or.inl c1, ?_, fun k hk => ?_⟩)))
              · rw [eb, J_succ]; rfl
              · rw [eb, plc_p (by omega)]
              · rcases Nat.lt_or_eq_of_le (Nat.le_of_lt_succ hk) with z | z
                · exact x3 k z
                · rw [z]
                  exact ⟨⟨c0, c1', c2⟩, by rw [hq]; exact fun y => by cases y⟩
        · refine okT ?_ (okS ⟨i, rfl, hi, x3, Or.inr (fun z => c1 (gd_v z.1).2)⟩)
          rw [ev]
          exact (leN (by omega) (by have := thi (g i); unfold vn; omega)).2 (by omega)
      · refine okT ?_ (okS ⟨i, rfl, hi, x3, Or.inr (fun z => c0 z.1.1)⟩)
        rw [Int32.lt_iff_toInt_lt]
        show (g i).toInt < 0
        omega
    · subst hin
      exact okT ((leN (by omega) (by omega)).2 (Nat.le_refl _)) (okS ⟨i, rfl, hi, x3, Or.inl rfl⟩))
  refine ⟨j, ?_, q2, q3, q4⟩
  unfold fpX0_runsInARow
  have er : lp (fpX0_runsInARow_l12 r A) FU ((0 : Int32), (8 : Int32), J (w : Nat), (0 : Int32)) = some o := er
  rw [er, Option.bind_some]
  rcases o with u | v
  · have q1 : j = len := q1
    show some (A.1 r 2) = _
    rw [hl, q1]
  · have q1 : v = J (j : Nat) := q1
    show some v = _
    rw [q1]
theorem jud_l {D : Me} {m s w nn : Nat} {P : Pr} {pl : Nat → Nat} {a1 : Int32} (h : PY D m P) (s9 : s < 1000) (n40 : nn ≤ 40) (hp : ∀ i, i < nn → pl i < m ∧ D.1 9 i = J (pl i : Nat)) (hw : w < 1000) : ∃ j, lp (fpX6_judge_l57 a1 (J (nn : Nat)) D) FU (J (s : Nat), J (w : Nat), (0 : Int32)) = some (J (j : Nat)) ∧ j ≤ nn ∧ (∀ k, k < j → rok P s w pl k ≠ none) ∧ (j = nn ∨ rok P s w pl j = none) := by
  have m8 := h.1
  have rm := h.2.2.2.2.1
  have hb := bi_lt (s := s) (pl := pl) (bt := -1) hw rm
  have ml : ∀ p, p < m → pml P p < 100 := fun p hp => (h.2.2.2.2.2.2.2.1 p hp).1
  have hb1 := bi_1 (P := P) (w := w) (n := nn) (bt := -1) s9 ml (fun i hi => (hp i hi).1)
  obtain ⟨o, er, j, rfl, q2, q3, q4⟩ := lp_ok (step := fpX6_judge_l57 a1 (J (nn : Nat)) D) (Q := fun o => ∃ j : Nat, o = J (j : Nat) ∧ j ≤ nn ∧ (∀ k, k < j → rok P s w pl k ≠ none) ∧ (j = nn ∨ rok P s w pl j = none)) (fun t st => (st = (J ((bi P s w pl (-1) t).1 : Nat), J ((bi P s w pl (-1) t).2 : Nat), J (t : Nat)) ∧ t ≤ nn ∧ ∀ k, k < t → rok P s w pl k ≠ none) ∨ ∃ i : Nat, i + 1 = t ∧ i < nn ∧ st.2.1 = (-1 : Int32) ∧ st.2.2 = J (i : Nat) ∧ rok P s w pl i = none ∧ ∀ k, k < i → rok P s w pl k ≠ none) (nn + 1) (by omega) (s := (J (s : Nat), J (w : Nat), (0 : Int32))) (Or.inl ⟨rfl, Nat.zero_le _, fun k hk => absurd hk (Nat.not_lt_zero _)⟩) (by
    intro t st ht hst
    rcases hst with ⟨rfl, x1, x2⟩ | ⟨i, y1, y2, y3, y4, y5, y6⟩
    · have hbi := hb t
      have hbi1 := hb1 t x1
      show ok (fpX6_judge_l57s a1 (J (nn : Nat)) (J ((bi P s w pl (-1) t).1 : Nat)) (J ((bi P s w pl (-1) t).2 : Nat)) (J (t : Nat)) D) _
      unfold fpX6_judge_l57s
      rcases Nat.lt_or_eq_of_le x1 with hin | hin
      · obtain ⟨p1, p2⟩ := hp t hin
        refine okF (fun z => by have := (leN (by omega) (by omega)).1 z; omega) (okF (fun z => by have := (ltN (b := 0) (by omega) (by omega)).1 z; omega) (okE (inbJ (show t < 40 by omega) (by decide)) ?_))
        rw [p2]
        have el := left_e (w := (bi P s w pl (-1) t).2) (a := (bi P s w pl (-1) t).1) (b := pml P (pl t)) h (by omega) (by omega) (by have := ml _ p1; omega)
        have hcr : cr P (bi P s w pl (-1) t).2 (bi P s w pl (-1) t).1 (pml P (pl t)) ≤ (bi P s w pl (-1) t).2 := by unfold cr; omega
        have er : fpX6_ran (J (cr P (bi P s w pl (-1) t).2 (bi P s w pl (-1) t).1 (pml P (pl t)) : Nat)) (J (pl t : Nat)) D = some (enc (rok P s w pl t)) := ranY_e (o := some (cr P (bi P s w pl (-1) t).2 (bi P s w pl (-1) t).1 (pml P (pl t)))) h p1 (fun z hz => by cases hz; omega)
        refine okE (itM_e h p1) (okE el (okE er (okE (itM_e h p1) ?_)))
        cases hq : rok P s w pl t with
        | none =>
          refine okF (show ¬ (0 : Int32) ≤ (-1 : Int32) by decide) (okL (okS ⟨by omega, Or.inr ⟨t, rfl, hin, rfl, ?_, hq, x2⟩⟩))
          show J (t : Nat) + (0 : Int32) = J (t : Nat)
          exact Int32.add_zero _
        | some q =>
          have := rn_le hq
          have eb := bi_ok (by omega) hq
          refine okT (nn0 (by omega)) (okL (okS ⟨by omega, Or.inl ⟨?_, by omega, fun k hk => ?_⟩⟩))
          · rw [eb, J_succ]; rfl
          · rcases Nat.lt_or_eq_of_le (Nat.le_of_lt_succ hk) with z | z
            · exact x2 k z
            · rw [z, hq]
              exact fun y => by cases y
      · subst hin
        exact okT ((leN (by omega) (by omega)).2 (Nat.le_refl _)) (okS ⟨t, rfl, x1, x2, Or.inl rfl⟩)
    · obtain ⟨ma, wa, ia⟩ := st
      have y3 : wa = (-1 : Int32) := y3
      have y4 : ia = J (i : Nat) := y4
      subst y3
      subst y4
      show ok (fpX6_judge_l57s a1 (J (nn : Nat)) ma (-1 : Int32) (J (i : Nat)) D) _
      unfold fpX6_judge_l57s
      exact okF (fun z => by have := (leN (by omega) (by omega)).1 z; omega) (okT (by decide) (okS ⟨i, rfl, by omega, y6, Or.inr y5⟩)))
  exact ⟨j, er, q2, q3, q4⟩
theorem s31 : sim31 Rr := by
  intro n M1 M2 a b hn R
  show SM n _ _
  unfold fpX5_judge fpX6_judge
  have k0 := R.2.k0
  have k2 := R.2.k2
  have k7 := R.2.k7
  refine .sheet R (fun s hs ha hz => ?_)
  subst ha
  by_cases h : 0 ≤ b.toInt ∧ b.toInt ≤ (M2.1 1 2).toInt
  · refine .t1 ((nc0 R).2 h) (.f2 (fun z => iw0.1 z h) ?_)
    obtain ⟨w, rfl, hw'⟩ := ofI h.1
    have w9 : w < 1000 := by omega
    obtain ⟨a1, a2, a3, a4⟩ := R.1.2.2.2.2.1 s hs
    obtain ⟨A, e1, f1, mA, hA, -⟩ := layR R (by omega)
    obtain ⟨D, e4, d1, hD⟩ := fy_e R.2 (by omega)
    have m8 := hA.1
    have hl2 : M2.1 13 s = J (vn (M2.1 13) s : Nat) := vn_J a3.1
    have l40 : vn (M2.1 13) s ≤ 40 := by unfold vn; omega
    have dn : ∀ r j, r ≠ 0 → r ≠ 5 → r ≠ 6 → r ≠ 7 → D.1 r j = M2.1 r j := d1.1
    obtain ⟨nn, Y, e2, t1, t2, t3, t4, t5⟩ := tks_e (M := D) hs ((dn 13 s (by decide) (by decide) (by decide) (by decide)).trans hl2) l40 hD.2.1 m8
    have hY : PY Y (vn (M2.1 1) 0) (PR (M2.1 1) (vn (M2.1 1) 4)) := hD.sm (t4 0 8 (by decide)) (fun r j hr => t4 r j (by omega))
    have eg : (fun k => D.1 14 (40 * s + k)) = fun k => M2.1 14 (40 * s + k) := funext fun k => dn 14 _ (by decide) (by decide) (by decide) (by decide)
    rw [eg] at t2 t3 t5
    have hAl : A.1 (37 + 2 * s) 2 = J (vn (M2.1 13) s : Nat) := (f1 _ _ (by omega)).trans (a2.trans hl2)
    obtain ⟨j, e3, j1, j2, j3⟩ := rir_e (r := 37 + 2 * s) (g := fun k => M2.1 14 (40 * s + k)) hA (by omega) hAl l40 (fun i hi => (f1 _ _ (by omega)).trans (a4 i hi)) w9
    have a9 : vn (M2.1 1) 7 < 1000 := by unfold vn; omega
    obtain ⟨j', e5, i1, i2, i3⟩ := jud_l (a1 := J (s : Nat)) (s := vn (M2.1 1) 7) (w := w) (nn := nn) (pl := vn (fun k => M2.1 14 (40 * s + k))) hY a9 (by omega) (fun k hk => ⟨(gd_v (t2 k hk)).2, t5 k hk⟩) w9
    have y7 : Y.1 1 7 = J (vn (M2.1 1) 7 : Nat) := (t4 1 7 (by decide)).trans ((dn 1 7 (by decide) (by decide) (by decide) (by decide)).trans (vn_J k7.1))
    have ej : j = j' := by
      rcases Nat.lt_trichotomy j j' with c | c | c
      · rcases j3 with z | z
        · omega
        · exact absurd ⟨t2 j (by omega), i2 j c⟩ z
      · exact c
      · have hj := j2 j' c
        rcases i3 with z | z
        · rcases t3 with y | y
          · omega
          · rw [← z] at y
            exact absurd hj.1 y
        · exact absurd z hj.2
    subst ej
    refine .b1 e1 (.b1 e3 (.b2 e4 (.b2 e2 ?_)))
    show SM n _ ((lp (fpX6_judge_l57 (J (s : Nat)) (J (nn : Nat)) Y) FU (Y.1 1 7, J (w : Nat), (0 : Int32))).bind fun r17 => fpX6_judge_b134 (J (s : Nat)) r17 Y)
    rw [y7]
    refine .b2 e5 ?_
    unfold fpX6_judge_b134
    refine .b2 (inbJ hs (by decide)) ?_
    rw [hAl, show Y.1 13 s = J (vn (M2.1 13) s : Nat) from (t4 13 s (by decide)).trans ((dn 13 s (by decide) (by decide) (by decide) (by decide)).trans hl2)]
    have RN : Rr (n + 1) A Y := (R.H (fun r j hr => f1 r j (by omega)) mA (d1.g.h.tr ⟨fun r j hr => t4 r j (by omega), fun j _ _ => t4 0 j (by decide)⟩)).mono (Nat.le_succ n)
    by_cases c : J (j : Nat) = J (vn (M2.1 13) s : Nat)
    · exact .t1 c (.t2 c (.e rfl RN))
    · exact .f1 c (.f2 c (.e rfl RN))
  · exact .f1 (fun z => h ((nc0 R).1 z)) (.t2 (iw0.2 h) (.fi R 0 (by decide) rfl rfl))
