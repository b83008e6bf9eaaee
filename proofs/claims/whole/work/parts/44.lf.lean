/-! leastFor -/
theorem bk_mono {ml nd yl : Nat → Nat} {ab rm rm' : Nat} {L L' : Nat → Nat → Nat} (hr : rm ≤ rm') (hL : ∀ a b, L' a b ≤ L a b) {u : List Nat} {e a w w' r : Nat} (hw : w ≤ w') (h : bk (ml, nd, yl, ab, rm, L) e a w u = some r) : ∃ r', bk (ml, nd, yl, ab, rm', L') e a w' u = some r' ∧ r ≤ r' := by
  unfold bk at h
  cases hf : fr (ml, nd, yl, ab, rm, L) a w u with
  | none => rw [hf] at h; cases h
  | some s =>
    obtain ⟨b, x⟩ := s
    rw [hf] at h
    have h : some (x - L b e) = some r := h
    obtain ⟨x', e1, e2⟩ := fr_mono (ml := ml) (nd := nd) (yl := yl) (ab := ab) hr hL u a w w' b x hw hf
    refine ⟨x' - L' b e, ?_, ?_⟩
    · unfold bk
      rw [e1]
      rfl
    · have h1 := hL b e
      have h2 := Option.some.inj h
      omega
theorem fr_mw {P : Pr} {u : List Nat} {a w w' b x : Nat} (hw : w ≤ w') (h : fr P a w u = some (b, x)) : ∃ x', fr P a w' u = some (b, x') ∧ x ≤ x' := by
  obtain ⟨ml, nd, yl, ab, rm, L⟩ := P
  exact fr_mono (Nat.le_refl _) (fun _ _ => Nat.le_refl _) u a w w' b x hw h
theorem bk_mw {P : Pr} {u : List Nat} {e a w w' r : Nat} (hw : w ≤ w') (h : bk P e a w u = some r) : ∃ r', bk P e a w' u = some r' ∧ r ≤ r' := by
  obtain ⟨ml, nd, yl, ab, rm, L⟩ := P
  exact bk_mono (Nat.le_refl _) (fun _ _ => Nat.le_refl _) hw h
theorem Can.mw {P : Pr} {e v v' S a q q' : Nat} {C : Nat → Prop} (h : Can P e v S C a q) (hq : q ≤ q') (hv : v' ≤ v) : Can P e v' S C a q' := by
  obtain ⟨u, r, h1, h2, h3, h4, h5⟩ := h
  obtain ⟨r', h6, h7⟩ := bk_mw hq h4
  exact ⟨u, r', h1, h2, h3, h6, by omega⟩
theorem CCn : CC none = fun _ => True := funext fun _ => propext ⟨fun _ => trivial, fun _ => Or.inl rfl⟩
/-- the model's most at a later memory of the same road -/
theorem mwG {M X : Me} {n w : Nat} (hO : RO n (M.1 1)) (hn : n ≤ 1000) (hw : w < 1000) (hX : X.1 1 = M.1 1) : ∃ N q, fpX6_mostWith (J (w : Nat)) X = some (J (q : Nat), N) ∧ fyG X N ∧ q < 1000 ∧ PY N (vn (M.1 1) 0) (PR (M.1 1) (vn (M.1 1) 4)) ∧ Bst (PR (M.1 1) (vn (M.1 1) 4)) 0 (vn (M.1 1) 7) w (pab (PR (M.1 1) (vn (M.1 1) 4))) (fun _ => True) (some q) := by
  have := mwY_e (M := X) (n := n) (w := w) (by rw [hX]; exact hO) hn hw
  rw [hX] at this
  exact this
theorem fyG.r1 {M N : Me} (h : fyG M N) : N.1 1 = M.1 1 := funext fun j => h.1 1 j (by decide) (by decide) (by decide) (by decide) (by decide)
theorem lf_l {M D : Me} {n v : Nat} (hO : RO n (M.1 1)) (hn : n ≤ 1000) (hv : v ≤ 1000) (hD : fyG M D) (hc : Can (PR (M.1 1) (vn (M.1 1) 4)) 0 v 0 (CC none) (vn (M.1 1) 7) (vn (M.1 1) 2)) : ∃ h X, lp (fpX6_leastFor_l49 (J (v : Nat))) FU ((-1 : Int32), J (vn (M.1 1) 2 : Nat), D) = some (J (h : Nat), X) ∧ fyG M X ∧ h ≤ vn (M.1 1) 2 ∧ Can (PR (M.1 1) (vn (M.1 1) 4)) 0 v 0 (CC none) (vn (M.1 1) 7) h ∧ ∀ w', w' < h → ¬ Can (PR (M.1 1) (vn (M.1 1) 4)) 0 v 0 (CC none) (vn (M.1 1) 7) w' := by
  have k2 := hO.k2
  have r9 : vn (M.1 1) 2 < 1000 := by unfold vn; omega
  generalize hT : (fun w => Can (PR (M.1 1) (vn (M.1 1) 4)) 0 v 0 (CC none) (vn (M.1 1) 7) w) = T
  have hT' : ∀ w, T w ↔ Can (PR (M.1 1) (vn (M.1 1) 4)) 0 v 0 (CC none) (vn (M.1 1) 7) w := fun w => by rw [← hT]
  have mono : ∀ w w', T w → w ≤ w' → T w' := fun w w' h1 h2 => (hT' w').2 (((hT' w).1 h1).mw h2 (Nat.le_refl _))
  obtain ⟨⟨ra, X⟩, er, h, q1, q2, q3, q4, q5⟩ := lp_ok (step := fpX6_leastFor_l49 (J (v : Nat))) (Q := fun r => ∃ h : Nat, r.1 = J (h : Nat) ∧ h ≤ vn (M.1 1) 2 ∧ T h ∧ (∀ w', w' < h → ¬ T w') ∧ fyG M r.2) (fun i st => ∃ l h : Nat, st.1 = J ((l : Int) - 1) ∧ st.2.1 = J (h : Nat) ∧ l ≤ h ∧ h ≤ vn (M.1 1) 2 ∧ h + i ≤ l + 1000 ∧ T h ∧ (∀ w', w' < l → ¬ T w') ∧ fyG M st.2.2) 1000 (by omega) (s := ((-1 : Int32), J (vn (M.1 1) 2 : Nat), D)) ⟨0, vn (M.1 1) 2, rfl, rfl, Nat.zero_le _, Nat.le_refl _, by omega, (hT' _).2 hc, fun w hw => absurd hw (Nat.not_lt_zero _), hD⟩ (by
    intro i st hi hst
    obtain ⟨la, ha, X⟩ := st
    obtain ⟨l, h, s1, s2, x1, x2, x3, x4, x5, x6⟩ := hst
    have s1 : la = J ((l : Int) - 1) := s1
    have s2 : ha = J (h : Nat) := s2
    have x6 : fyG M X := x6
    subst s1
    subst s2
    show ok (fpX6_leastFor_l49s (J (v : Nat)) (J ((l : Int) - 1)) (J (h : Nat)) X) _
    unfold fpX6_leastFor_l49s
    have ed : J (h : Nat) - J ((l : Int) - 1) = J ((h : Int) - ((l : Int) - 1)) := J_sub _ _
    rw [ed]
    have lc : (J ((h : Int) - ((l : Int) - 1)) ≤ (1 : Int32)) ↔ h ≤ l := by
      rw [J_1, leJ (by omega) (by omega) (by omega) (by omega)]
      omega
    by_cases hc : h ≤ l
    · have : h = l := by omega
      subst this
      exact okT (lc.2 hc) (okS ⟨h, rfl, x2, x4, x5, x6⟩)
    · refine okF (fun z => hc (lc.1 z)) (okL ?_)
      have ek : (J ((l : Int) - 1) + J (h : Nat)) / (2 : Int32) = J (((l + h - 1) / 2 : Nat) : Int) := by
        rw [J_add, show (2 : Int32) = J 2 from rfl, divJ (by omega) (by omega) (by decide) (by decide)]
        congr 1
        omega
      rw [ek]
      generalize hk : (l + h - 1) / 2 = k
      have k1 : l ≤ k := by omega
      have k3 : k < h := by omega
      obtain ⟨N, q, e1, g1, g2, -, g4⟩ := mwG (w := k) hO hn (by omega) x6.r1
      refine okE e1 ?_
      have key : (J (v : Nat) ≤ J (q : Nat)) ↔ T k := by
        rw [leN (by omega) (by omega), hT', CCn, ← g4.can]
        exact ⟨fun z => ⟨q, rfl, z⟩, fun ⟨q', z1, z2⟩ => by cases z1; exact z2⟩
      by_cases hk2 : T k
      · exact okT (key.2 hk2) (okS ⟨by omega, l, k, rfl, rfl, k1, by omega, by omega, hk2, x5, x6.tr g1⟩)
      · refine okF (fun z => hk2 (key.1 z)) (okS ⟨by omega, k + 1, h, ?_, rfl, by omega, x2, by omega, x4, fun w' hw' z => hk2 (mono w' k z (by omega)), x6.tr g1⟩)
        show J (k : Nat) = J (((k + 1 : Nat) : Int) - 1)
        congr 1
        omega)
  have q1 : ra = J (h : Nat) := q1
  subst q1
  exact ⟨h, X, er, q5, q2, (hT' h).1 q3, fun w' hw' z => q4 w' hw' ((hT' w').2 z)⟩
theorem s16 : sim16 Rr := by
  intro n M1 M2 a hn R
  show SM n _ _
  unfold fpX5_leastFor fpX6_leastFor
  have k2 := R.2.k2
  have k7 := R.2.k7
  by_cases h : 0 ≤ a.toInt ∧ a.toInt ≤ 999
  · refine .t1 (out0.2 h) (.f2 (fun z => in0.1 z h) ?_)
    obtain ⟨v, rfl, hv'⟩ := ofI h.1
    have v9 : v ≤ 999 := by omega
    obtain ⟨A, e1, f1, mA, hA, -⟩ := layR R (by omega)
    have rm9 : vn (M2.1 1) 2 < 1000 := by unfold vn; omega
    obtain ⟨N, W, e3, g1, ⟨t0, t1⟩, -⟩ := lst_e (v := v) (k := none) hA (by omega) (fun j hj => by cases hj)
    have e3 : fpX0_leastStart (J (v : Nat)) (-1 : Int32) A = some (J (W : Nat), N) := e3
    have fN : ∀ r j, r < 46 → N.1 r j = M1.1 r j := fun r j hr => (g1 r j (by omega)).trans (f1 r j (by omega))
    have mN : MT N := fun S hS l hl hb => by rw [g1 53 _ (by omega)]; exact mA S hS l hl hb
    refine .b1 e1 (.b1 e3 ?_)
    have e2 : M2.1 1 2 = J (vn (M2.1 1) 2 : Nat) := vn_J (by omega)
    obtain ⟨D, q, e4, g4, q9, -, g5⟩ := mwG (w := vn (M2.1 1) 2) R.2 (by omega) rm9 rfl
    rw [show fpX6_mostWith (M2.1 1 2) M2 = some (J (q : Nat), D) by rw [e2]; exact e4]
    have key : (J (v : Nat) ≤ J (q : Nat)) ↔ Can (PR (M2.1 1) (vn (M2.1 1) 4)) 0 v 0 (CC none) (vn (M2.1 1) 7) (vn (M2.1 1) 2) := by
      rw [leN (by omega) (by omega), CCn, ← g5.can]
      exact ⟨fun z => ⟨q, rfl, z⟩, fun ⟨q', z1, z2⟩ => by cases z1; exact z2⟩
    by_cases hT : Can (PR (M2.1 1) (vn (M2.1 1) 4)) 0 v 0 (CC none) (vn (M2.1 1) 7) (vn (M2.1 1) 2)
    · refine .b2 rfl (.t2 (key.2 hT) ?_)
      obtain ⟨w, X, er, x1, x2, x3, x4⟩ := lf_l R.2 (by omega) (by omega) g4 hT
      have eD : D.1 1 2 = J (vn (M2.1 1) 2 : Nat) := by rw [g4.r1]; exact e2
      have := SM.con (W := W) (w := w) R fN mN x1.h (by omega) (by omega) (lw_eq t1 (fun _ => x3) x4)
      have eX : X.1 1 2 = J (vn (M2.1 1) 2 : Nat) := by rw [x1.r1]; exact e2
      rw [eX, if_pos ((leN (by omega) (by omega)).2 x2)] at this
      show SM n _ ((lp (fpX6_leastFor_l49 (J (v : Nat))) FU ((-1 : Int32), D.1 1 2, D)).bind fun r9 => some (r9.1, r9.2))
      rw [eD]
      exact .b2 er this
    · refine .b2 rfl (.f2 (fun z => hT (key.1 z)) ?_)
      have hW : ¬ W ≤ vn (M2.1 1) 2 := fun z => hT ((t1 _ (Nat.le_refl _)).1 z)
      have := SM.con (W := W) (w := 1000) R fN mN g4.h (by omega) (by omega) ⟨⟨fun z => absurd z hW, fun z => absurd z (by omega)⟩, fun z => absurd z hW⟩
      have eD : D.1 1 2 = J (vn (M2.1 1) 2 : Nat) := by rw [g4.r1]; exact e2
      rw [eD, if_neg (fun z => by have := (leN (a := 1000) (by omega) (by omega)).1 z; omega)] at this
      exact this
  · exact .f1 (fun z => h (out0.1 z)) (.t2 (in0.2 h) (.fi R 0 (by decide) rfl rfl))
