/-! order, mistake -/
theorem bi_g {P : Pr} {s w t n : Nat} (hab : pab P < 256) (hr : prom P < 1000) (hw : w < 1000) (hN : Can P 0 t 0 (CC (some n)) s w) (n8 : n ≤ 8) : ∀ i, i ≤ n → bi P s w (gpl P s w t n) (-1) i = ((gst P s w t n i).2.1, (gst P s w t n i).2.2)
  | 0, _ => rfl
  | i + 1, hi => by
    obtain ⟨y, y1, y2⟩ := gp_st hab hr hw hN (show i < n by omega)
    have hb := bi_g hab hr hw hN n8 i (by omega)
    have e : rok P s w (gpl P s w t n) i = some y := by
      unfold rok
      rw [hb]
      exact y1
    rw [bi_ok (by omega) e, y2]
theorem brg_g {P : Pr} {s w t n : Nat} (hab : pab P < 256) (hr : prom P < 1000) (hw : w < 1000) (hB : Bst P 0 s w (pab P) (fun _ => True) (some t)) (hN : Can P 0 t 0 (CC (some n)) s w) (n8 : n ≤ 8) : brg P s w (gpl P s w t n) (-1) n = t := by
  obtain ⟨h1, h2, h3, h4, h5, v, v1, v2, v3⟩ := inv_i hab hr hw hN n (Nat.le_refl n)
  unfold brg
  rw [bi_g hab hr hw hN n8 n (Nat.le_refl n)]
  obtain ⟨u, r, u1, u2, u3, u4, u5⟩ := h4
  rw [h2] at u3
  have u3 := CC_some.1 u3
  have hu : u = [] := List.eq_nil_of_length_eq_zero (by omega)
  subst hu
  have u4' : some (cr P (gst P s w t n n).2.2 (gst P s w t n n).2.1 0) = some r := u4
  have := Option.some.inj u4'
  have le := le_top hB v1 v3 (by simp) (fun q hq => by cases hq) (fun q hq => by cases hq) u4
  show cr P (gst P s w t n n).2.2 (gst P s w t n n).2.1 0 = t
  omega
theorem ordR {n0 w : Nat} {M1 M2 : Me} (R : Rr n0 M1 M2) (hn : n0 ≤ 1000) (hw : w < 1000) : ∃ A X N n t pl P m s, fpX0_lay 1 (M1.1 1 8) M1 = some A ∧ fpX0_planBest (J (w : Nat)) A = some X ∧ fpX6_findOrder (J (w : Nat)) M2 = some (J (t : Nat), N) ∧ Rr n0 X N ∧ PX X m s P ∧ PY N m P ∧ X.1 46 1 = J (n : Nat) ∧ N.1 0 12 = J (n : Nat) ∧ n ≤ 8 ∧ t < 1000 ∧ (∀ i, i < n → pl i < m ∧ X.1 47 i = J (pl i : Nat) ∧ N.1 10 i = J (pl i : Nat)) ∧ s < 1000 ∧ N.1 1 7 = J (s : Nat) ∧ (∀ p, p < m → X.1 52 p = N.1 1 (12 + 6 * p + 3)) ∧ brg P s w pl (-1) n = t := by
  have k7 := R.2.k7
  have a9 : vn (M2.1 1) 7 < 1000 := by unfold vn; omega
  obtain ⟨A, e1, f1, mA, hA, u1, -⟩ := layR R hn
  obtain ⟨X, n, t, e2, x1, x2, x3, x4, x5, x6, x7, x8, x9⟩ := pbt_e hA mA hw
  obtain ⟨N, n', t', e3, y1, y2, y3, y4, y5, y6, y7, y8, y9⟩ := fo_e R.2 hn hw
  have et : t' = t := Option.some.inj (y4.uniq x4)
  subst et
  have en : n' = n := by
    rcases Nat.lt_trichotomy n' n with c | c | c
    · exact absurd y6 (x7 n' c)
    · exact c
    · exact absurd x6 (y7 n c)
  subst en
  have hX : PX X _ _ _ := hA.sm (fun j hj => x1 46 j (by decide) (by decide) (by decide) (by omega)) (fun r j hr => x1 r j (by omega) (by omega) (by omega) (by omega))
  refine ⟨A, X, N, n', t', gpl (PR (M2.1 1) (vn (M2.1 1) 4)) (vn (M2.1 1) 7) w t' n', PR (M2.1 1) (vn (M2.1 1) 4), vn (M2.1 1) 0, vn (M2.1 1) 7, e1, e2, e3, R.H (fun r j hr => (x1 r j (by omega) (by omega) (by omega) (by omega)).trans (f1 r j (by omega))) x2 y1, hX, y2, x8, y8, y5, x3, fun i hi => ⟨(x9 i hi).1, (x9 i hi).2, y9 i hi⟩, a9, ?_, fun p hp => ?_, brg_g hA.2.2.1.1 hA.2.2.2.2.1 hw x4 x6 y5⟩
  · rw [y1.1 1 7 (by omega)]
    exact vn_J k7.1
  · rw [x1 52 p (by decide) (by decide) (by decide) (by omega), (u1 p hp).2, y1.1 1 _ (by omega)]
theorem s14 : sim14 Rr := by
  intro n M1 M2 a b hn R
  show SM n _ _
  unfold fpX5_order fpX6_order
  have k2 := R.2.k2
  by_cases h : 0 ≤ a.toInt ∧ a.toInt ≤ (M2.1 1 2).toInt
  · refine .t1 ((nc0 R).2 h) (.f2 (fun z => iw0.1 z h) ?_)
    obtain ⟨w, rfl, hw'⟩ := ofI h.1
    have w9 : w < 1000 := by omega
    by_cases hb : 0 ≤ b.toInt ∧ b.toInt ≤ 7
    · refine .t1 (out0.2 hb) (.f2 (fun z => in0.1 z hb) ?_)
      obtain ⟨i, rfl, hi'⟩ := ofI hb.1
      have i8 : i < 8 := by omega
      obtain ⟨A, X, N, k, t, pl, P, m, s, e1, e2, e3, RN, hX, hN, x1, y1, k8, t9, p1, s9, n7, fl, hbr⟩ := ordR R (by omega) w9
      refine .b1 e1 (.b1 e2 (.b2 e3 ?_))
      rw [x1, y1]
      by_cases c : k ≤ i
      · have c' := (leN (a := k) (b := i) (by omega) (by omega)).2 c
        exact .t1 c' (.t2 c' (.fi RN 3 (by decide) rfl rfl))
      · have c' : ¬ J (k : Nat) ≤ J (i : Nat) := fun z => c ((leN (by omega) (by omega)).1 z)
        obtain ⟨q1, q2, q3⟩ := p1 i (by omega)
        refine .f1 c' (.f2 c' (.b1 (inbJ i8 (by decide)) (.b2 (inbJ i8 (by decide)) (.e ?_ (RN.mono (Nat.le_succ n))))))
        rw [q2, q3]
    · exact .f1 (fun z => hb (out0.1 z)) (.t2 (in0.2 hb) (.fi R 0 (by decide) rfl rfl))
  · exact .f1 (fun z => h ((nc0 R).1 z)) (.t2 (iw0.2 h) (.fi R 0 (by decide) rfl rfl))
theorem tor_e {N : Me} {k : Nat} (hk : N.1 0 12 = J (k : Nat)) (k8 : k ≤ 8) : ∃ Y, fpX6_takesOrder N = some Y ∧ (∀ r j, r ≠ 9 → Y.1 r j = N.1 r j) ∧ ∀ i, i < k → Y.1 9 i = N.1 10 i := by
  obtain ⟨Y, e, y1, y2⟩ := lp_ok (step := fpX6_takesOrder_l2) (Q := fun Y => (∀ r j, r ≠ 9 → Y.1 r j = N.1 r j) ∧ ∀ i, i < k → Y.1 9 i = N.1 10 i) (fun i st => st.1 = J (i : Nat) ∧ (∀ r j, r ≠ 9 → st.2.1 r j = N.1 r j) ∧ ∀ l, l < i → st.2.1 9 l = N.1 10 l) k (by omega) (s := ((0 : Int32), N)) ⟨rfl, fun _ _ _ => rfl, fun l hl => absurd hl (Nat.not_lt_zero _)⟩ (by
    intro i st hi hst
    obtain ⟨ia, X⟩ := st
    obtain ⟨s1, x1, x2⟩ := hst
    have s1 : ia = J (i : Nat) := s1
    have x1 : ∀ r j, r ≠ 9 → X.1 r j = N.1 r j := x1
    have x2 : ∀ l, l < i → X.1 9 l = N.1 10 l := x2
    subst s1
    show ok (fpX6_takesOrder_l2s (J (i : Nat)) X) _
    unfold fpX6_takesOrder_l2s
    rw [x1 0 12 (by decide), hk]
    rcases Nat.lt_or_eq_of_le hi with him | him
    · refine okF (fun z => by have := (leN (by omega) (by omega)).1 z; omega) (okE (inbJ (show i < 8 by omega) (by decide)) (okE (inbJ (show i < 40 by omega) (by decide)) (okL (okL (okS ⟨him, J_succ i, fun r j hr => (wrM_nr hr).trans (x1 r j hr), fun l hl => ?_⟩)))))
      show (wrM X 9 i (X.1 10 i)).1 9 l = _
      rcases Nat.lt_or_eq_of_le (Nat.le_of_lt_succ hl) with z | z
      · rw [wrM_nj (by omega)]; exact x2 l z
      · subst z
        rw [wrM_eq]; exact x1 10 l (by decide)
    · subst him
      exact okT ((leN (by omega) (by omega)).2 (Nat.le_refl _)) (okS ⟨x1, x2⟩))
  refine ⟨Y, ?_, y1, y2⟩
  unfold fpX6_takesOrder
  rw [e]
  rfl
theorem s20 : sim20 Rr := by
  intro n M1 M2 a b hn R
  show SM n _ _
  unfold fpX5_mistake fpX6_mistake
  have k2 := R.2.k2
  by_cases h : 0 ≤ a.toInt ∧ a.toInt ≤ (M2.1 1 2).toInt
  · refine .t1 ((nc0 R).2 h) (.f2 (fun z => iw0.1 z h) ?_)
    obtain ⟨w, rfl, hw'⟩ := ofI h.1
    have w9 : w < 1000 := by omega
    by_cases hb : 0 ≤ b.toInt ∧ b.toInt ≤ 7
    · refine .t1 (out0.2 hb) (.f2 (fun z => in0.1 z hb) ?_)
      obtain ⟨i, rfl, hi'⟩ := ofI hb.1
      have i8 : i < 8 := by omega
      obtain ⟨A, X, N, k, t, pl, P, m, s, e1, e2, e3, RN, hX, hN, x1, y1, k8, t9, p1, s9, n7, fl, hbr⟩ := ordR R (by omega) w9
      refine .b1 e1 (.b1 e2 (.b2 e3 ?_))
      rw [x1, y1]
      by_cases c : i < k
      · have c' := (ltN (a := i) (b := k) (by omega) (by omega)).2 c
        obtain ⟨Y, e4, t1, t2⟩ := tor_e y1 k8
        have hY : PY Y m P := hN.sm (t1 0 8 (by decide)) (fun r j hr => t1 r j (by omega))
        have b1 := plb_e (w := w) (bt := -1) (pl := pl) hX k8 x1 (fun l hl => ⟨(p1 l hl).1, (p1 l hl).2.1⟩) w9
        have b2 := plb_e (w := w) (bt := J (i : Nat)) (pl := pl) hX k8 x1 (fun l hl => ⟨(p1 l hl).1, (p1 l hl).2.1⟩) w9
        have b3 := brY_e (w := w) (n := k) (bt := J (i : Nat)) (pl := pl) hY ((t1 1 7 (by decide)).trans n7) s9 (by omega) (fun l hl => ⟨(p1 l hl).1, (t2 l hl).trans (p1 l hl).2.2⟩) w9
        rw [hbr] at b1
        refine .t1 c' (.b1 b1 (.b1 b2 (.t2 c' (.b2 e4 ?_))))
        rw [show Y.1 0 12 = J (k : Nat) from (t1 0 12 (by decide)).trans y1]
        refine .b2 b3 (.e rfl ?_)
        exact (RN.H (fun _ _ _ => rfl) RN.1.2.2.2.2.2.2 ⟨fun r j hr => t1 r j (by omega), fun j _ _ => t1 0 j (by decide)⟩).mono (Nat.le_succ n)
      · have c' : ¬ J (i : Nat) < J (k : Nat) := fun z => c ((ltN (by omega) (by omega)).1 z)
        exact .f1 c' (.f2 c' (.fi RN 3 (by decide) rfl rfl))
    · exact .f1 (fun z => hb (out0.1 z)) (.t2 (in0.2 hb) (.fi R 0 (by decide) rfl rfl))
  · exact .f1 (fun z => h ((nc0 R).1 z)) (.t2 (iw0.2 h) (.fi R 0 (by decide) rfl rfl))
