/-! rust, wipe, feed, as, tear, count, status -/
theorem s43 : sim43 Rr := by
  intro n M1 M2 _ R
  show SM n _ _
  unfold fpX5_tear fpX6_tear
  obtain ⟨⟨h1, ⟨h2, h2'⟩, h3, ⟨h4, h4', h4''⟩, h5, h6, h7⟩, h8⟩ := R.mono (Nat.le_succ n)
  have RN : Rr (n + 1) (wrM M1 0 3 0) (wrM M2 0 4 0) := by
    refine ⟨⟨h1.same (fun d j hd => wrM_nr (by omega)) (fun j => wrM_nr (by omega)), ⟨?_, ?_⟩, ?_, ⟨?_, ?_, ?_⟩, ?_, ?_, ?_⟩, ?_⟩
    · rw [wrM_eq, wrM_eq]
    · rw [wrM_eq]; exact Or.inl rfl
    · rw [wrM_eq]; intro z; exact absurd z (by decide)
    · rw [wrM_nr (by omega), wrM_nj (by omega)]; exact h4
    · rw [wrM_nj (by omega)]; exact h4'
    · intro i hi
      rw [wrM_nr (by omega), wrM_nr (by omega)]; exact h4'' i hi
    · intro s hs
      obtain ⟨a1, a2, a3, a4⟩ := h5 s hs
      refine ⟨?_, ?_, ?_, fun i hi => ?_⟩
      · rw [wrM_nr (by omega), wrM_nr (by omega)]; exact a1
      · rw [wrM_nr (by omega), wrM_nr (by omega)]; exact a2
      · rw [wrM_nr (by omega)]; exact a3
      · rw [wrM_nr (by omega), wrM_nr (by omega)]; exact a4 i hi
    · intro i hi
      rw [wrM_nr (by omega), wrM_nr (by omega)]; exact h6 i hi
    · intro S hS l hl z
      rw [wrM_nr (by omega)]; exact h7 S hS l hl z
    · rw [wr_n (by omega)]; exact h8
  rw [h2]
  by_cases z : M2.1 0 4 = 0
  · exact .t1 z (.t2 z (.e rfl RN))
  · exact .f1 z (.f2 z (.e rfl RN))
theorem Rr.tp {n : Nat} {M1 M2 N1 N2 : Me} (R : Rr n M1 M2) (f1 : ∀ r j, r ≠ 34 → r ≠ 35 → N1.1 r j = M1.1 r j) (f2 : ∀ r j, r ≠ 0 → r ≠ 11 → N2.1 r j = M2.1 r j) (f4 : N2.1 0 4 = M2.1 0 4) (t : TP N1 N2) : Rr n N1 N2 := by
  obtain ⟨⟨h1, ⟨h2, h2'⟩, h3, h4, h5, h6, h7⟩, h8⟩ := R
  refine ⟨⟨h1.same (fun d j hd => f1 _ _ (by omega) (by omega)) (fun j => f2 _ _ (by omega) (by omega)), ⟨?_, ?_⟩, ?_, t, ?_, ?_, ?_⟩, h8.same (fun k => f2 _ _ (by omega) (by omega))⟩
  · rw [f1 _ _ (by omega) (by omega), f4]; exact h2
  · rw [f4]; exact h2'
  · rw [f4]
    intro z
    exact ⟨(h3 z).1.same (fun d j hd' => f1 _ _ (by omega) (by omega)) (fun j => f2 _ _ (by omega) (by omega)), (h3 z).2.same (fun k => f2 _ _ (by omega) (by omega))⟩
  · intro s hs
    obtain ⟨a1, a2, a3, a4⟩ := h5 s hs
    refine ⟨?_, ?_, ?_, fun i hi => ?_⟩
    · rw [f1 _ _ (by omega) (by omega), f2 _ _ (by omega) (by omega)]; exact a1
    · rw [f1 _ _ (by omega) (by omega), f2 _ _ (by omega) (by omega)]; exact a2
    · rw [f2 _ _ (by omega) (by omega)]; exact a3
    · rw [f1 _ _ (by omega) (by omega), f2 _ _ (by omega) (by omega)]; exact a4 i hi
  · intro i hi
    rw [f1 _ _ (by omega) (by omega), f2 _ _ (by omega) (by omega)]; exact h6 i hi
  · intro S hS l hl z
    rw [f1 _ _ (by omega) (by omega)]; exact h7 S hS l hl z
theorem s33 : sim33 Rr := by
  intro n M1 M2 _ R
  show SM n _ _
  unfold fpX5_wipe fpX6_wipe
  refine .e R.1.2.2.2.1.1 ((R.mono (Nat.le_succ n)).tp (fun r j a b => wrM_nr a) (fun r j a b => wrM_nr a) (wrM_nj (by decide)) ⟨?_, ?_, fun i hi => ?_⟩)
  · rw [wrM_eq, wrM_eq]
  · rw [wrM_eq]; exact ⟨by decide, by decide⟩
  · rw [wrM_nr (by omega), wrM_nr (by omega)]
    exact R.1.2.2.2.1.2.2 i hi
theorem shr_b (x : Int32) : ∀ i : Nat, i < 4 → (jushr x ((8 : Int32) * J (i : Nat))) &&& (255 : Int32) = (x >>> (((8 : Int32) * J (i : Nat)) &&& 31)) &&& (255 : Int32) := by
  have key : ∀ k : Nat, k ≤ 24 → (x.toBitVec >>> k) &&& 255#32 = (x.toBitVec.sshiftRight k) &&& 255#32 := by
    intro k hk
    refine BitVec.eq_of_getLsbD_eq (fun q hq => ?_)
    rw [BitVec.getLsbD_and, BitVec.getLsbD_and, BitVec.getLsbD_ushiftRight, BitVec.getLsbD_sshiftRight]
    by_cases h8 : q < 8
    · have h3 : k + q < 32 := by omega
      have h32 : ¬ 32 ≤ q := by omega
      simp [h3, h32]
    · have e : (255#32).getLsbD q = false := by
        rw [BitVec.getLsbD_ofNat]
        have : Nat.testBit 255 q = false := Nat.testBit_lt_two_pow (Nat.lt_of_lt_of_le (show 255 < 2 ^ 8 by decide) (Nat.pow_le_pow_right (by decide) (by omega)))
        rw [this]
        simp
      rw [e]
      simp
  intro i hi
  refine Int32.toBitVec_inj.1 ?_
  match i, hi with
  | 0, _ => exact key 0 (by decide)
  | 1, _ => exact key 8 (by decide)
  | 2, _ => exact key 16 (by decide)
  | 3, _ => exact key 24 (by decide)
  | i + 4, h => omega
theorem s32 : sim32 Rr := by
  intro n M1 M2 a b _ R
  show SM n _ _
  unfold fpX5_feed fpX6_feed
  have hT := R.1.2.2.2.1
  obtain ⟨t, ht, ht'⟩ := ofI hT.2.1.1
  have ht1 : M1.1 34 1 = J (t : Nat) := hT.1.trans ht
  have t120 : t ≤ 120 := by have := hT.2.1.2; omega
  by_cases h : 1 ≤ b.toInt ∧ b.toInt ≤ 4
  · refine .t1 (out0.2 h) (.f2 (in1 h) ?_)
    obtain ⟨k, rfl, hk'⟩ := ofI (show 0 ≤ b.toInt by omega)
    have hk : 1 ≤ k ∧ k ≤ 4 := by omega
    rw [ht1, ht, addN]
    by_cases hf : t + k ≤ 120
    · have hf' : J ((t + k : Nat) : Int) ≤ (120 : Int32) := (leN (b := 120) (by omega) (by omega)).2 hf
      refine .t1 hf' (.t2 hf' ?_)
      show SM n ((lp (fpX5_feed_l39 a) FU (J (k : Nat) - 1, M1)).bind _) ((lp (fpX6_feed_l41 a) FU (J (k : Nat) - 1, M2)).bind _)
      have e1 : J (k : Nat) - 1 = J ((k : Int) - 1 - ((0 : Nat) : Int)) := by
        rw [J_1, J_sub]
        congr 1
        omega
      rw [e1]
      obtain ⟨r1, r2, q1, q2, q3, q4⟩ := lpp (s1 := fpX5_feed_l39 a) (s2 := fpX6_feed_l41 a) (Q := fun x y => Rr (n + 1) x y ∧ x.1 34 1 = y.1 0 15) (fun i x y => x.1 = J ((k : Int) - 1 - (i : Int)) ∧ y.1 = J ((k : Int) - 1 - (i : Int)) ∧ Rr (n + 1) x.2 y.2 ∧ y.2.1 0 15 = J ((t + i : Nat) : Int)) k (by omega) (x := (J ((k : Int) - 1 - ((0 : Nat) : Int)), M1)) (y := (J ((k : Int) - 1 - ((0 : Nat) : Int)), M2)) ⟨rfl, rfl, R.mono (Nat.le_succ n), ht⟩ (by
        intro i x y hi ⟨x1, y1, RR, hy⟩
        obtain ⟨xa, X⟩ := x
        obtain ⟨ya, Y⟩ := y
        have x1 : xa = J ((k : Int) - 1 - (i : Int)) := x1
        have y1 : ya = J ((k : Int) - 1 - (i : Int)) := y1
        have hy : Y.1 0 15 = J ((t + i : Nat) : Int) := hy
        have RR : Rr (n + 1) X Y := RR
        subst x1
        subst y1
        have hx : X.1 34 1 = J ((t + i : Nat) : Int) := RR.1.2.2.2.1.1.trans hy
        rcases Nat.lt_or_eq_of_le hi with hik | hik
        · refine Or.inl ⟨(J ((k : Int) - 1 - ((i + 1 : Nat) : Int)), wrM (wrM X 35 (t + i) ((jushr a ((8 : Int32) * J ((k : Int) - 1 - (i : Int)))) &&& 255)) 34 1 (J ((t + (i + 1) : Nat) : Int))), (J ((k : Int) - 1 - ((i + 1 : Nat) : Int)), wrM (wrM Y 11 (t + i) ((a >>> (((8 : Int32) * J ((k : Int) - 1 - (i : Int))) &&& 31)) &&& 255)) 0 15 (J ((t + (i + 1) : Nat) : Int))), ?_, ?_, hik, rfl, rfl, ?_, ?_⟩
          · show fpX5_feed_l39s a _ X = _
            unfold fpX5_feed_l39s fpX4_add
            rw [if_neg (fun z => by have := (ltJ (b := 0) (by omega) (by omega) (by omega) (by omega)).1 z; omega), hx, inbJ (by omega) (by decide)]
            show some (Sum.inl (J ((k : Int) - 1 - (i : Int)) + (-1 : Int32), wrM (wrM X 35 (t + i) _) 34 1 ((wrM X 35 (t + i) _).1 34 1 + 1))) = _
            rw [wrM_nr (by decide), hx, J_succ, J_m1, J_add]
            congr 3
            congr 1
            omega
          · show fpX6_feed_l41s a _ Y = _
            unfold fpX6_feed_l41s
            rw [if_neg (fun z => by have := (ltJ (b := 0) (by omega) (by omega) (by omega) (by omega)).1 z; omega), hy, inbJ (by omega) (by decide)]
            show some (Sum.inl (J ((k : Int) - 1 - (i : Int)) + (-1 : Int32), wrM (wrM Y 11 (t + i) _) 0 15 ((wrM Y 11 (t + i) _).1 0 15 + 1))) = _
            rw [wrM_nr (by decide), hy, J_succ, J_m1, J_add]
            congr 3
            congr 1
            omega
          · have eb : (jushr a ((8 : Int32) * J ((k : Int) - 1 - (i : Int)))) &&& 255 = (a >>> (((8 : Int32) * J ((k : Int) - 1 - (i : Int))) &&& 31)) &&& 255 := by
              have := shr_b a (k - 1 - i) (by omega)
              rw [show ((k - 1 - i : Nat) : Int) = (k : Int) - 1 - (i : Int) by omega] at this
              exact this
            rw [eb]
            refine RR.tp (fun r j a b => ?_) (fun r j a b => ?_) ?_ ⟨?_, ?_, fun l hl => ?_⟩
            · show (wrM (wrM X 35 _ _) 34 1 _).1 r j = _
              rw [wrM_nr a, wrM_nr b]
            · show (wrM (wrM Y 11 _ _) 0 15 _).1 r j = _
              rw [wrM_nr a, wrM_nr b]
            · show (wrM (wrM Y 11 _ _) 0 15 _).1 0 4 = _
              rw [wrM_nj (by decide), wrM_nr (by decide)]
            · show (wrM (wrM X 35 _ _) 34 1 _).1 34 1 = (wrM (wrM Y 11 _ _) 0 15 _).1 0 15
              rw [wrM_eq, wrM_eq]
            · show 0 ≤ ((wrM (wrM Y 11 _ _) 0 15 _).1 0 15).toInt ∧ _
              rw [wrM_eq, tJn (by omega)]
              omega
            · show (wrM (wrM X 35 _ _) 34 1 _).1 35 l = (wrM (wrM Y 11 _ _) 0 15 _).1 11 l
              rw [wrM_nr (show (35 : Nat) ≠ 34 by decide), wrM_nr (show (11 : Nat) ≠ 0 by decide), wrM_at, wrM_at]
              by_cases e : l = t + i
              · rw [if_pos ⟨rfl, e⟩, if_pos ⟨rfl, e⟩]
              · rw [if_neg (fun z => e z.2), if_neg (fun z => e z.2)]
                exact RR.1.2.2.2.1.2.2 l hl
          · show (wrM (wrM Y 11 _ _) 0 15 _).1 0 15 = _
            rw [wrM_eq]
        · refine Or.inr ⟨X, Y, ?_, ?_, RR, RR.1.2.2.2.1.1⟩
          · show fpX5_feed_l39s a _ X = _
            unfold fpX5_feed_l39s
            rw [if_pos (show J ((k : Int) - 1 - (i : Int)) < (0 : Int32) from (ltJ (b := 0) (by omega) (by omega) (by omega) (by omega)).2 (by omega))]
          · show fpX6_feed_l41s a _ Y = _
            unfold fpX6_feed_l41s
            rw [if_pos (show J ((k : Int) - 1 - (i : Int)) < (0 : Int32) from (ltJ (b := 0) (by omega) (by omega) (by omega) (by omega)).2 (by omega))])
      refine .b1 q1 (.b2 q2 (.e q4 q3))
    · have hf' : ¬ J ((t + k : Nat) : Int) ≤ (120 : Int32) := fun z => hf ((leN (b := 120) (by omega) (by omega)).1 z)
      exact .f1 hf' (.f2 hf' (.fi R 1 (by decide) rfl rfl))
  · exact .f1 (fun z => h (out0.1 z)) (.t2 (in0.2 h) (.fi R 0 (by decide) rfl rfl))
theorem isOf_d : ∀ k, k < 7 → ∀ w, w < 7 → ((lp (fpX1_isOf_l7 (J (w : Nat)) ((fun _ _ => 0, 0) : Me)) FU (J (k : Nat), (0 : Int32))).bind fun r8 => Sum.elim (fun _ => some (0 : Int32)) (fun u10 => some u10) r8) = some (if w = 0 ∨ k = w ∨ (w = 1 ∧ k = 4) ∨ (w = 3 ∧ k = 6) then (1 : Int32) else 0) := by decide +kernel
theorem isOf_e {r k w : Nat} {M : Me} (h : M.1 r 0 = J (k : Nat)) (hk : k < 7) (hw : w < 7) : fpX1_isOf r (J (w : Nat)) M = some (if w = 0 ∨ k = w ∨ (w = 1 ∧ k = 4) ∨ (w = 3 ∧ k = 6) then (1 : Int32) else 0) := by
  rw [← isOf_d k hk w hw]
  unfold fpX1_isOf
  rw [h]
  rfl
theorem as_T {k w : Nat} (hk : k < 7) (hw : w < 7) {v : Int32} {M : Me} : (if J (w : Nat) = 0 then fpX6_as_b94 v M else if J (k : Nat) = J (w : Nat) then fpX6_as_b94 v M else if J (w : Nat) = 1 then (if J (k : Nat) = 4 then fpX6_as_b94 v M else fpX6_as_b82 (J (w : Nat)) v (J (k : Nat)) M) else fpX6_as_b82 (J (w : Nat)) v (J (k : Nat)) M) = if w = 0 ∨ k = w ∨ (w = 1 ∧ k = 4) ∨ (w = 3 ∧ k = 6) then fpX6_as_b94 v M else fpX6_as_b98 v M := by
  unfold fpX6_as_b82
  have e0 : (J (w : Nat) = (0 : Int32)) ↔ w = 0 := eqN (b := 0) (by omega) (by omega)
  have e1 : (J (w : Nat) = (1 : Int32)) ↔ w = 1 := eqN (b := 1) (by omega) (by omega)
  have e3 : (J (w : Nat) = (3 : Int32)) ↔ w = 3 := eqN (b := 3) (by omega) (by omega)
  have e4 : (J (k : Nat) = (4 : Int32)) ↔ k = 4 := eqN (b := 4) (by omega) (by omega)
  have e6 : (J (k : Nat) = (6 : Int32)) ↔ k = 6 := eqN (b := 6) (by omega) (by omega)
  have ee : (J (k : Nat) = J (w : Nat)) ↔ k = w := eqN (by omega) (by omega)
  simp only [e0, e1, e3, e4, e6, ee]
  repeat' split
  all_goals first | rfl | omega
theorem s36 : sim36 Rr := by
  intro n M1 M2 a b _ R
  show SM n _ _
  unfold fpX5_as fpX6_as
  have k0 := R.2.k0
  have R' := R.mono (Nat.le_succ n)
  by_cases h : 0 ≤ a.toInt ∧ a.toInt ≤ 9
  · refine .t1 (out0.2 h) (.f2 (in1 h) ?_)
    by_cases hb : 0 ≤ b.toInt ∧ b.toInt ≤ 6
    · refine .t1 (out0.2 hb) (.f2 (in1 hb) ?_)
      obtain ⟨k, rfl, hke⟩ := ofI h.1
      have hk : k < 10 := by omega
      obtain ⟨w, rfl, hwe⟩ := ofI hb.1
      have hw : w < 7 := by omega
      have ev : (60 : Int32) + J (k : Nat) = J ((60 + k : Nat) : Int) := by
        rw [show (60 : Int32) = J 60 from rfl, J_add]
        rfl
      refine .b1 (inbJ hk (by decide)) (.b2 (by rw [ev]; exact inbJ (by omega) (by decide)) ?_)
      have es : M1.1 3 k = M2.1 1 (60 + k) := R.1.1.s hk
      have hs := R.2.s hk
      rw [es]
      generalize M2.1 1 (60 + k) = v at hs
      show SM n (if fpX2_has 1 v M1 = 0 then _ else _) (if 0 ≤ v then _ else _)
      by_cases hv : 0 ≤ v.toInt
      · refine .f1 (fun z => (h0P R).1 z ⟨hv, by omega⟩) (.t2 (Int32.le_iff_toInt_le.2 hv) ?_)
        obtain ⟨p, rfl, hpe⟩ := ofI hv
        have hp : p < 8 := by omega
        have hkd : 0 ≤ (M2.1 1 (12 + 6 * p + 0)).toInt ∧ (M2.1 1 (12 + 6 * p + 0)).toInt ≤ 6 := R.2.p hp (w := 0) (by decide)
        obtain ⟨q, hq, hq'⟩ := ofI hkd.1
        have hX : M1.1 (1 + 3 + p) 0 = J (q : Nat) := (R.1.1.p hp (w := 0) (by decide)).trans hq
        have hY : fpX6_its (J (p : Nat)) (0 : Int32) M2 = some (J (q : Nat)) := (itsE (w := 0) hp (by decide)).trans (by rw [hq])
        refine .b1 (inbJ hp (by decide)) (.b1 (isOf_e hX (by omega) hw) (.b2 hY ?_))
        rw [as_T (by omega) hw]
        by_cases hc : w = 0 ∨ q = w ∨ (w = 1 ∧ q = 4) ∨ (w = 3 ∧ q = 6)
        · rw [if_pos hc, if_pos hc]
          unfold fpX6_as_b94 fpX6_as_b99
          exact .f1 (by decide) (.f2 (by decide) (.e rfl R'))
        · rw [if_neg hc, if_neg hc]
          unfold fpX6_as_b98 fpX6_as_b99
          exact .t1 (by decide) (.t2 (by decide) (.fi R 2 (by decide) rfl rfl))
      · refine .t1 ((h0P R).2 (fun z => hv z.1)) (.f2 (fun z => hv (Int32.le_iff_toInt_le.1 z)) (.fi R 5 (by decide) rfl rfl))
    · exact .f1 (fun z => hb (out0.1 z)) (.t2 (in0.2 hb) (.fi R 0 (by decide) rfl rfl))
  · exact .f1 (fun z => h (out0.1 z)) (.t2 (in0.2 h) (.fi R 0 (by decide) rfl rfl))
theorem s28 : sim28 Rr := by
  intro n M1 M2 a _ R
  show SM n _ _
  unfold fpX5_rust fpX6_rust
  have k0 := R.2.k0
  by_cases h : 1 ≤ a.toInt ∧ a.toInt ≤ 12
  · refine .t1 (out0.2 h) (.f2 (in1 h) ?_)
    have e2 : M1.1 1 2 = M2.1 1 0 := R.1.1 0 (by decide)
    rw [e2]
    by_cases hz : M2.1 1 0 = 0
    · exact .t1 hz (.t2 hz (.fi R 4 (by decide) rfl rfl))
    · refine .f1 hz (.f2 hz ?_)
      obtain ⟨N, hN, hN'⟩ := ofI k0.1
      have hN0 : 0 < N := by
        refine Nat.pos_of_ne_zero (fun z => hz ?_)
        rw [hN, z]
        rfl
      obtain ⟨k, rfl, hk'⟩ := ofI (show 0 ≤ a.toInt by omega)
      obtain ⟨r1, r2, q1, q2, q3, q4⟩ := lpp (s1 := fpX5_rust_l34 (J (k : Nat))) (s2 := fpX6_rust_l37 (J (k : Nat))) (Q := fun x y => Rr (n + 1) x y ∧ y.1 1 0 = J (N : Nat)) (fun i x y => x.1 = J (i : Nat) ∧ y.1 = J (i : Nat) ∧ Rr (n + 1) x.2 y.2 ∧ y.2.1 1 0 = J (N : Nat)) k (by omega) (x := (J ((0 : Nat) : Int), M1)) (y := (J ((0 : Nat) : Int), M2)) ⟨rfl, rfl, R.mono (Nat.le_succ n), hN⟩ (by
        intro i x y hi hxy
        obtain ⟨xa, X⟩ := x
        obtain ⟨ya, Y⟩ := y
        obtain ⟨x1, y1, RR, hy⟩ := hxy
        have x1 : xa = J (i : Nat) := x1
        have y1 : ya = J (i : Nat) := y1
        have hy : Y.1 1 0 = J (N : Nat) := hy
        have RR : Rr (n + 1) X Y := RR
        subst x1
        subst y1
        rcases Nat.lt_or_eq_of_le hi with hik | hik
        · have ez : X.1 1 13 = Y.1 1 1 := RR.1.1 1 (by decide)
          have es : X.1 1 2 = J (N : Nat) := (RR.1.1 0 (by decide)).trans hy
          generalize hu1 : zz (Y.1 1 1) = u1
          generalize hu2 : zz u1 = u2
          obtain ⟨p, hp, hpN⟩ := jremP u1 (J (N : Nat)) (by rw [tJn (by omega)]; omega)
          rw [tJn (by omega)] at hpN
          obtain ⟨f, hf, hf12⟩ := jrem12 u2
          have hp8 : p < 8 := by omega
          have c1 : ¬ J (k : Nat) ≤ J (i : Nat) := fun z => by have := (leN (by omega) (by omega)).1 z; omega
          have nz : ¬ J (N : Nat) = 0 := fun z => by have := (eqN (b := 0) (by omega) (by omega)).1 z; omega
          have d1 : fpX2_draw 1 X = some (jushr u1 8, wrM X 1 13 u1) := by rw [drawX, ez, hu1]
          have d2 : fpX2_draw 1 (wrM X 1 13 u1) = some (jushr u2 8, wrM (wrM X 1 13 u1) 1 13 u2) := by rw [drawX, wrM_eq, hu2]
          have g1 : fpX6_draw Y = some (jushr u1 8, wrM Y 1 1 u1) := by rw [drawY, hu1]
          have g2 : fpX6_draw (wrM Y 1 1 u1) = some (jushr u2 8, wrM (wrM Y 1 1 u1) 1 1 u2) := by rw [drawY, wrM_eq, hu2]
          have s2 : (wrM X 1 13 u1).1 1 2 = J (N : Nat) := by rw [wrM_nj (by decide)]; exact es
          have s0 : (wrM Y 1 1 u1).1 1 0 = J (N : Nat) := by rw [wrM_nj (by decide)]; exact hy
          have a3 : inb (fpX6_at (J (p : Nat)) (3 : Int32)) 70 = some (12 + 6 * p + 3) := inA (w := 3) hp8 (by decide)
          refine Or.inl ⟨(J ((i + 1 : Nat) : Int), wrM (wrM (wrM X 1 13 u1) 1 13 u2) (1 + 3 + p) 3 (J (f : Nat))), (J ((i + 1 : Nat) : Int), wrM (wrM (wrM Y 1 1 u1) 1 1 u2) 1 (12 + 6 * p + 3) (J (f : Nat))), ?_, ?_, hik, rfl, rfl, ?_, ?_⟩
          · show fpX5_rust_l34s _ _ X = _
            unfold fpX5_rust_l34s dvz letv
            rw [if_neg c1, d1]
            show (if (wrM X 1 13 u1).1 1 2 = 0 then none else (inb (jrem (jushr u1 8) ((wrM X 1 13 u1).1 1 2)) 8).bind fun k7 => (fpX2_draw 1 (wrM X 1 13 u1)).bind fun q8 => some (Sum.inl (J (i : Nat) + 1, wrM q8.2 (1 + 3 + k7) 3 (jrem q8.1 12)))) = _
            rw [s2, if_neg nz, hp, inbJ hp8 (by decide), d2]
            show some (Sum.inl (J (i : Nat) + 1, wrM (wrM (wrM X 1 13 u1) 1 13 u2) (1 + 3 + p) 3 (jrem (jushr u2 8) 12))) = _
            rw [hf, J_succ]
          · show fpX6_rust_l37s _ _ Y = _
            unfold fpX6_rust_l37s dvz letv
            rw [if_neg c1, g1]
            show (if (wrM Y 1 1 u1).1 1 0 = 0 then none else (fpX6_draw (wrM Y 1 1 u1)).bind fun q7 => (inb (fpX6_at (jrem (jushr u1 8) ((wrM Y 1 1 u1).1 1 0)) 3) 70).bind fun k8 => some (Sum.inl (J (i : Nat) + 1, wrM q7.2 1 k8 (jrem q7.1 12)))) = _
            rw [s0, if_neg nz, hp, g2, a3]
            show some (Sum.inl (J (i : Nat) + 1, wrM (wrM (wrM Y 1 1 u1) 1 1 u2) 1 (12 + 6 * p + 3) (jrem (jushr u2 8) 12))) = _
            rw [hf, J_succ]
          · refine (RR.wZ.wZ).wP hp8 (w := 3) (by decide) ?_ ?_
            · rw [tJn (by omega)]; omega
            · show _ ≤ (11 : Int)
              rw [tJn (by omega)]; omega
          · show (wrM (wrM (wrM Y 1 1 u1) 1 1 u2) 1 (12 + 6 * p + 3) (J (f : Nat))).1 1 0 = _
            rw [wrM_nj (by omega), wrM_nj (by decide), wrM_nj (by decide)]
            exact hy
        · have c1 : J (k : Nat) ≤ J (i : Nat) := (leN (by omega) (by omega)).2 (by omega)
          refine Or.inr ⟨X, Y, ?_, ?_, RR, hy⟩
          · show fpX5_rust_l34s _ _ X = _
            unfold fpX5_rust_l34s
            rw [if_pos c1]
          · show fpX6_rust_l37s _ _ Y = _
            unfold fpX6_rust_l37s
            rw [if_pos c1])
      refine .b1 q1 (.b2 q2 ?_)
      have es : r1.1 1 2 = J (N : Nat) := (q3.1.1 0 (by decide)).trans q4
      obtain ⟨v1, v2, p1, p2, p3⟩ := lpp (s1 := fpX5_rust_l87 r1) (s2 := fpX6_rust_l81 r2) (Q := fun x y => x = y) (fun i x y => x = y ∧ x.2 = J (i : Nat)) N (by omega) (x := ((0 : Int32), J ((0 : Nat) : Int))) (y := ((0 : Int32), J ((0 : Nat) : Int))) ⟨rfl, rfl⟩ (by
        intro i x y hi hxy
        obtain ⟨rfl, x1⟩ := hxy
        obtain ⟨c, xa⟩ := x
        have x1 : xa = J (i : Nat) := x1
        subst x1
        rcases Nat.lt_or_eq_of_le hi with hik | hik
        · have c1 : ¬ J (N : Nat) ≤ J (i : Nat) := fun z => by have := (leN (by omega) (by omega)).1 z; omega
          have ef := q3.1.1.p (p := i) (w := 3) (by omega) (by decide)
          have i3 : fpX6_its (J (i : Nat)) (3 : Int32) r2 = some (r2.1 1 (12 + 6 * i + 3)) := itsE (w := 3) (by omega) (by decide)
          by_cases hz : r2.1 1 (12 + 6 * i + 3) ≤ 0
          · refine Or.inl ⟨(c, J ((i + 1 : Nat) : Int)), (c, J ((i + 1 : Nat) : Int)), ?_, ?_, hik, rfl, rfl⟩
            · show fpX5_rust_l87s _ _ r1 = _
              unfold fpX5_rust_l87s letv
              rw [es, if_neg c1, inbJ (by omega) (by decide), Option.bind_some, ef, if_pos hz, J_succ]
            · show fpX6_rust_l81s _ _ r2 = _
              unfold fpX6_rust_l81s letv
              rw [q4, if_neg c1, i3, Option.bind_some, if_pos hz, J_succ, J0e]
          · refine Or.inl ⟨(c + 1, J ((i + 1 : Nat) : Int)), (c + 1, J ((i + 1 : Nat) : Int)), ?_, ?_, hik, rfl, rfl⟩
            · show fpX5_rust_l87s _ _ r1 = _
              unfold fpX5_rust_l87s letv
              rw [es, if_neg c1, inbJ (by omega) (by decide), Option.bind_some, ef, if_neg hz, J_succ]
            · show fpX6_rust_l81s _ _ r2 = _
              unfold fpX6_rust_l81s letv
              rw [q4, if_neg c1, i3, Option.bind_some, if_neg hz, J_succ]
        · have c1 : J (N : Nat) ≤ J (i : Nat) := (leN (by omega) (by omega)).2 (by omega)
          refine Or.inr ⟨c, c, ?_, ?_, rfl⟩
          · show fpX5_rust_l87s _ _ r1 = _
            unfold fpX5_rust_l87s
            rw [es, if_pos c1]
          · show fpX6_rust_l81s _ _ r2 = _
            unfold fpX6_rust_l81s
            rw [q4, if_pos c1])
      subst p3
      exact .b1 p1 (.b2 p2 (.e rfl q3))
  · exact .f1 (fun z => h (out0.1 z)) (.t2 (in0.2 h) (.fi R 0 (by decide) rfl rfl))
theorem sum_s {n N : Nat} {c d : Int32} {M1 M2 : Me} (R : Rr n M1 M2) (hN : M2.1 1 0 = J (N : Nat)) (h8 : N ≤ 8) (T : Nat → Int32) (hX : ∀ i a, i < N → fpX2_sumOf_l4s 1 c a (J (i : Nat)) M1 = some (.inl (a + T i, J ((i + 1 : Nat) : Int)))) (hY : ∀ i a, i < N → fpX6_sumOf_l4s d a (J (i : Nat)) M2 = some (.inl (a + T i, J ((i + 1 : Nat) : Int)))) : ∃ v, fpX2_sumOf 1 c M1 = some v ∧ fpX6_sumOf d M2 = some v := by
  have es : M1.1 1 2 = J (N : Nat) := (R.1.1 0 (by decide)).trans hN
  obtain ⟨v1, v2, p1, p2, p3⟩ := lpp (s1 := fpX2_sumOf_l4 1 c M1) (s2 := fpX6_sumOf_l4 d M2) (Q := fun x y => x = y) (fun i x y => x = y ∧ x.2 = J (i : Nat)) N (by omega) (x := ((0 : Int32), J ((0 : Nat) : Int))) (y := ((0 : Int32), J ((0 : Nat) : Int))) ⟨rfl, rfl⟩ (by
    intro i x y hi hxy
    obtain ⟨rfl, x1⟩ := hxy
    obtain ⟨a, xa⟩ := x
    have x1 : xa = J (i : Nat) := x1
    subst x1
    rcases Nat.lt_or_eq_of_le hi with hik | hik
    · exact Or.inl ⟨_, _, hX i a hik, hY i a hik, hik, rfl, rfl⟩
    · have c1 : J (N : Nat) ≤ J (i : Nat) := (leN (by omega) (by omega)).2 (by omega)
      refine Or.inr ⟨a, a, ?_, ?_, rfl⟩
      · show fpX2_sumOf_l4s 1 c a (J (i : Nat)) M1 = _
        unfold fpX2_sumOf_l4s
        rw [es, if_pos c1]
      · show fpX6_sumOf_l4s d a (J (i : Nat)) M2 = _
        unfold fpX6_sumOf_l4s
        rw [hN, if_pos c1])
  subst p3
  refine ⟨v1, ?_, ?_⟩
  · unfold fpX2_sumOf
    exact (congrArg (fun z => Option.bind z _) p1).trans rfl
  · unfold fpX6_sumOf
    exact (congrArg (fun z => Option.bind z _) p2).trans rfl
theorem held_s {n : Nat} {M1 M2 : Me} (R : Rr n M1 M2) : ∃ v, fpX2_heldSpots 1 M1 = some v ∧ fpX6_held M2 = some v := by
  obtain ⟨v1, v2, p1, p2, p3⟩ := lpp (s1 := fpX2_heldSpots_l4 1 M1) (s2 := fpX6_held_l4 M2) (Q := fun x y => x = y) (fun i x y => x = y ∧ x.2 = J (i : Nat)) 10 (by omega) (x := ((0 : Int32), J ((0 : Nat) : Int))) (y := ((0 : Int32), J ((0 : Nat) : Int))) ⟨rfl, rfl⟩ (by
    intro i x y hi hxy
    obtain ⟨rfl, x1⟩ := hxy
    obtain ⟨a, xa⟩ := x
    have x1 : xa = J (i : Nat) := x1
    subst x1
    rcases Nat.lt_or_eq_of_le hi with hik | hik
    · have c1 : ¬ (10 : Int32) ≤ J (i : Nat) := fun z => by have := (leN (a := 10) (by omega) (by omega)).1 z; omega
      have ev : (60 : Int32) + J (i : Nat) = J ((60 + i : Nat) : Int) := by
        rw [show (60 : Int32) = J 60 from rfl, J_add]
        rfl
      have es : M1.1 (1 + 2) i = M2.1 1 (60 + i) := R.1.1.s hik
      have hs := R.2.s hik
      by_cases hv : 0 ≤ (M2.1 1 (60 + i)).toInt
      · have hv' : ¬ M2.1 1 (60 + i) = -1 := fun z => by
          rw [z] at hv
          exact absurd hv (by decide)
        refine Or.inl ⟨(a + 1, J ((i + 1 : Nat) : Int)), (a + 1, J ((i + 1 : Nat) : Int)), ?_, ?_, hik, rfl, rfl⟩
        · show fpX2_heldSpots_l4s 1 a (J (i : Nat)) M1 = _
          unfold fpX2_heldSpots_l4s letv
          rw [if_neg c1, inbJ hik (by decide), Option.bind_some, es, if_neg hv', J_succ]
        · show fpX6_held_l4s a (J (i : Nat)) M2 = _
          unfold fpX6_held_l4s letv
          rw [if_neg c1, ev, inbJ (by omega) (by decide), Option.bind_some, if_pos (show (0 : Int32) ≤ M2.1 1 (60 + i) from Int32.le_iff_toInt_le.2 hv), J_succ]
      · have hv' : M2.1 1 (60 + i) = -1 := Int32.toInt_inj.1 (by show _ = (-1 : Int); omega)
        refine Or.inl ⟨(a, J ((i + 1 : Nat) : Int)), (a, J ((i + 1 : Nat) : Int)), ?_, ?_, hik, rfl, rfl⟩
        · show fpX2_heldSpots_l4s 1 a (J (i : Nat)) M1 = _
          unfold fpX2_heldSpots_l4s letv
          rw [if_neg c1, inbJ hik (by decide), Option.bind_some, es, if_pos hv', J_succ]
        · show fpX6_held_l4s a (J (i : Nat)) M2 = _
          unfold fpX6_held_l4s letv
          rw [if_neg c1, ev, inbJ (by omega) (by decide), Option.bind_some, if_neg (show ¬ (0 : Int32) ≤ M2.1 1 (60 + i) from fun z => hv (Int32.le_iff_toInt_le.1 z)), J_succ, J0e]
    · have c1 : (10 : Int32) ≤ J (i : Nat) := (leN (a := 10) (by omega) (by omega)).2 (by omega)
      refine Or.inr ⟨a, a, ?_, ?_, rfl⟩
      · show fpX2_heldSpots_l4s 1 a (J (i : Nat)) M1 = _
        unfold fpX2_heldSpots_l4s
        rw [if_pos c1]
      · show fpX6_held_l4s a (J (i : Nat)) M2 = _
        unfold fpX6_held_l4s
        rw [if_pos c1])
  subst p3
  refine ⟨v1, ?_, ?_⟩
  · unfold fpX2_heldSpots
    exact (congrArg (fun z => Option.bind z _) p1).trans rfl
  · unfold fpX6_held
    exact (congrArg (fun z => Option.bind z _) p2).trans rfl
theorem s44 : sim44 Rr := by
  intro n M1 M2 a _ R
  show SM n _ _
  unfold fpX5_count fpX6_count
  have R' := R.mono (Nat.le_succ n)
  have k0 := R.2.k0
  obtain ⟨N, hN, hN'⟩ := ofI k0.1
  have es : M1.1 1 2 = J (N : Nat) := (R.1.1 0 (by decide)).trans hN
  have c1 : ∀ i, i < N → ¬ J (N : Nat) ≤ J (i : Nat) := fun i hi z => by have := (leN (by omega) (by omega)).1 z; omega
  by_cases h0 : a = 0
  · exact .t1 h0 (.t2 h0 (.e (R.1.1 0 (by decide)) R'))
  refine .f1 h0 (.f2 h0 ?_)
  by_cases h1 : a = 1
  · refine .t1 h1 (.t2 h1 ?_)
    subst h1
    obtain ⟨v, p1, p2⟩ := sum_s (c := 1) (d := 5) R hN (by omega) (fun i => M2.1 1 (12 + 6 * i + 5)) (fun i x hi => by
      unfold fpX2_sumOf_l4s letv
      rw [es, if_neg (c1 i hi), if_pos rfl, inbJ (by omega) (by decide), Option.bind_some, R.1.1.p (p := i) (w := 5) (by omega) (by decide), J_succ]
      rcases b01 (R.2.p (p := i) (w := 5) (by omega) (by decide)) with z | z
      · rw [if_pos z, z]
      · rw [z, if_neg (by decide)]) (fun i x hi => by
      unfold fpX6_sumOf_l4s letv
      have i5 : fpX6_its (J (i : Nat)) (5 : Int32) M2 = some (M2.1 1 (12 + 6 * i + 5)) := itsE (w := 5) (by omega) (by decide)
      rw [hN, if_neg (c1 i hi), if_neg (by decide), i5, Option.bind_some, J_succ])
    exact .b1 p1 (.b2 p2 (.e rfl R'))
  refine .f1 h1 (.f2 h1 ?_)
  by_cases h2 : a = 2
  · refine .t1 h2 (.t2 h2 ?_)
    subst h2
    obtain ⟨v, p1, p2⟩ := sum_s (c := 2) (d := 4) R hN (by omega) (fun i => M2.1 1 (12 + 6 * i + 4)) (fun i x hi => by
      unfold fpX2_sumOf_l4s letv
      rw [es, if_neg (c1 i hi), if_neg (by decide), if_pos rfl, inbJ (by omega) (by decide), Option.bind_some, R.1.1.p (p := i) (w := 4) (by omega) (by decide), J_succ]) (fun i x hi => by
      unfold fpX6_sumOf_l4s letv
      have i5 : fpX6_its (J (i : Nat)) (4 : Int32) M2 = some (M2.1 1 (12 + 6 * i + 4)) := itsE (w := 4) (by omega) (by decide)
      rw [hN, if_neg (c1 i hi), if_neg (by decide), i5, Option.bind_some, J_succ])
    exact .b1 p1 (.b2 p2 (.e rfl R'))
  refine .f1 h2 (.f2 h2 ?_)
  by_cases h3 : a = 3
  · refine .t1 h3 (.t2 h3 ?_)
    subst h3
    obtain ⟨v, p1, p2⟩ := sum_s (c := 3) (d := 6) R hN (by omega) (fun i => Yp (M2.1 1) (M2.1 1 4) i) (fun i x hi => by
      unfold fpX2_sumOf_l4s letv
      rw [es, if_neg (c1 i hi), if_neg (by decide), if_neg (by decide), if_pos rfl, yOf R.1.1 (by omega), Option.bind_some, J_succ]) (fun i x hi => by
      unfold fpX6_sumOf_l4s letv
      rw [hN, if_neg (c1 i hi), if_pos (by decide), if_pos rfl, yY (by omega), Option.bind_some, J_succ])
    exact .b1 p1 (.b2 p2 (.e rfl R'))
  refine .f1 h3 (.f2 h3 ?_)
  by_cases h4 : a = 4
  · refine .t1 h4 (.t2 h4 ?_)
    subst h4
    obtain ⟨v, p1, p2⟩ := sum_s (c := 4) (d := 7) R hN (by omega) (fun i => Np (M2.1 1) (M2.1 1 4) i) (fun i x hi => by
      unfold fpX2_sumOf_l4s letv
      rw [es, if_neg (c1 i hi), if_neg (by decide), if_neg (by decide), if_neg (by decide), nOf R.1.1 (by omega), Option.bind_some, J_succ]) (fun i x hi => by
      unfold fpX6_sumOf_l4s letv
      rw [hN, if_neg (c1 i hi), if_pos (by decide), if_neg (by decide), nY (by omega), Option.bind_some, J_succ])
    exact .b1 p1 (.b2 p2 (.e rfl R'))
  refine .f1 h4 (.f2 h4 ?_)
  by_cases h5 : a = 5
  · exact .t1 h5 (.t2 h5 (.e R.1.2.2.2.1.1 R'))
  refine .f1 h5 (.f2 h5 ?_)
  by_cases h6 : a = 6
  · exact .t1 h6 (.t2 h6 (.e (R.1.1 1 (by decide)) R'))
  refine .f1 h6 (.f2 h6 ?_)
  by_cases h7 : a = 7
  · obtain ⟨v, p1, p2⟩ := held_s R
    exact .t1 h7 (.t2 h7 (.b1 p1 (.b2 p2 (.e rfl R'))))
  exact .f1 h7 (.f2 h7 (.fi R 0 (by decide) rfl rfl))
theorem s45 : sim45 Rr := by
  intro n M1 M2 a _ R
  show SM n _ _
  unfold fpX5_status fpX6_status
  have R' := R.mono (Nat.le_succ n)
  have hf := R.1.2.2.2.2.2.1
  by_cases h : -1 ≤ a.toInt ∧ a.toInt ≤ 6
  · refine .t1 (out0.2 h) (.f2 (in1 h) ?_)
    by_cases hn : a < 0
    · refine .t1 hn ?_
      obtain ⟨v1, v2, p1, p2, p3⟩ := lpp (s1 := fpX5_status_l31 M1) (s2 := fpX6_status_l25 a M2) (Q := fun x y => x = y) (fun i x y => x = y ∧ x.2 = J (i : Nat)) 7 (by omega) (x := ((0 : Int32), J ((0 : Nat) : Int))) (y := ((0 : Int32), J ((0 : Nat) : Int))) ⟨rfl, rfl⟩ (by
        intro i x y hi hxy
        obtain ⟨rfl, x1⟩ := hxy
        obtain ⟨c, xa⟩ := x
        have x1 : xa = J (i : Nat) := x1
        subst x1
        rcases Nat.lt_or_eq_of_le hi with hik | hik
        · have c1 : ¬ (7 : Int32) ≤ J (i : Nat) := fun z => by have := (leN (a := 7) (by omega) (by omega)).1 z; omega
          refine Or.inl ⟨(c + M2.1 4 i, J ((i + 1 : Nat) : Int)), (c + M2.1 4 i, J ((i + 1 : Nat) : Int)), ?_, ?_, hik, rfl, rfl⟩
          · show fpX5_status_l31s c (J (i : Nat)) M1 = _
            unfold fpX5_status_l31s letv
            rw [if_neg c1, inbJ hik (by decide), Option.bind_some, hf i hik, J_succ]
          · show fpX6_status_l25s a c (J (i : Nat)) M2 = _
            unfold fpX6_status_l25s fpX6_status_b41_25 letv
            rw [if_neg c1, if_pos hn, inbJ hik (by decide), Option.bind_some, J_succ]
        · have c1 : (7 : Int32) ≤ J (i : Nat) := (leN (a := 7) (by omega) (by omega)).2 (by omega)
          refine Or.inr ⟨c, c, ?_, ?_, rfl⟩
          · show fpX5_status_l31s c (J (i : Nat)) M1 = _
            unfold fpX5_status_l31s
            rw [if_pos c1]
          · show fpX6_status_l25s a c (J (i : Nat)) M2 = _
            unfold fpX6_status_l25s
            rw [if_pos c1])
      subst p3
      exact .b1 p1 (.b2 p2 (.e rfl R'))
    · refine .f1 hn ?_
      have ha : 0 ≤ a.toInt := by
        rw [Int32.lt_iff_toInt_lt] at hn
        exact Int.not_lt.1 hn
      obtain ⟨k, rfl, hk'⟩ := ofI ha
      have hk : k < 7 := by omega
      refine .b1 (inbJ hk (by decide)) ?_
      have q : lp (fpX6_status_l25 (J (k : Nat)) M2) FU ((fun i : Nat => (if k < i then M2.1 4 k else 0, J (i : Nat))) 0) = some (M2.1 4 k) := by
        refine lp_tr (fun i : Nat => (if k < i then M2.1 4 k else 0, J (i : Nat))) 7 (by decide) (fun i hi => ?_) ?_
        · have c1 : ¬ (7 : Int32) ≤ J (i : Nat) := fun z => by have := (leN (a := 7) (by omega) (by omega)).1 z; omega
          show fpX6_status_l25s (J (k : Nat)) (if k < i then M2.1 4 k else 0) (J (i : Nat)) M2 = some (.inl (if k < i + 1 then M2.1 4 k else 0, J ((i + 1 : Nat) : Int)))
          unfold fpX6_status_l25s fpX6_status_b41_25 letv
          rw [if_neg c1, if_neg hn]
          by_cases e : i = k
          · subst e
            rw [if_pos rfl, inbJ hi (by decide), Option.bind_some, J_succ, if_neg (by omega), if_pos (by omega)]
            have z0 : (0 : Int32) + M2.1 4 i = M2.1 4 i := by simp
            rw [z0]
          · rw [if_neg (fun z => e ((eqN (by omega) (by omega)).1 z)), J_succ, J0e]
            by_cases g : k < i
            · rw [if_pos g, if_pos (by omega)]
            · rw [if_neg g, if_neg (by omega)]
        · show fpX6_status_l25s (J (k : Nat)) (if k < 7 then M2.1 4 k else 0) (J ((7 : Nat) : Int)) M2 = _
          unfold fpX6_status_l25s
          rw [if_pos (show (7 : Int32) ≤ J ((7 : Nat) : Int) by decide), if_pos hk]
      refine .b2 q (.e (hf k hk) R')
  · exact .f1 (fun z => h (out0.1 z)) (.t2 (in0.2 h) (.fi R 0 (by decide) rfl rfl))
