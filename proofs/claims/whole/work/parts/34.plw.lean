/-! The class's most -/
theorem home_e {M : Me} {m s S : Nat} {P : Pr} (h : PX M m s P) (hMT : MT M) (hS : S < 2 ^ m) (hr : sb S (pab P) → ∀ l, S.testBit l = true → RowX M S l) : ∃ o, fpX0_mostHome (J (S : Nat)) M = some (enc o) ∧ (∀ x, o = some x → x < 1000) ∧ (sb S (pab P) → Mx P S (tb M S) 0 o) ∧ (¬ sb S (pab P) → o = none) := by
  have h1 := h.1
  have S8 : S < 256 := Nat.lt_of_lt_of_le hS (pow_le8 h1)
  unfold fpX0_mostHome
  rw [h.2.2.2.1]
  by_cases hsb : sb S (pab P)
  · rw [if_pos ((sub_d S8 h.2.2.1.1).2 hsb)]
    obtain ⟨o, c1, c2, c3⟩ := mc_e (y := 9) h S8 (Or.inr (Or.inr rfl)) (fun l hl => by
      cases z : S.testBit l with
      | true => exact hr hsb l z
      | false => exact (row_out hMT S8 (by omega) z).2)
    have c1 : fpX0_mostComing (J (S : Nat)) (9 : Int32) M = some (enc o) := c1
    refine ⟨o, ?_, c3, fun _ => c2.mx h1 hMT S8 (fun q hq => h.2.2.1.2 q (hsb q (bit_lt S8 hq) hq)), fun z => absurd hsb z⟩
    rw [c1]
    rfl
  · rw [if_neg (fun z => hsb ((sub_d S8 h.2.2.1.1).1 z))]
    exact ⟨none, rfl, fun x e => (by cases e), fun z => absurd z hsb, fun _ => rfl⟩
theorem maxE2 {o : Option Nat} {q : Nat} (h : ∀ x, o = some x → x < 1000000) (hq : q < 1000000) : ∃ q', fpJ9_max_7cf53 (J (q : Nat)) (enc o) = J (q' : Nat) ∧ (q' = q ∨ o = some q') ∧ q ≤ q' ∧ ∀ c, o = some c → c ≤ q' := by
  cases o with
  | none =>
    refine ⟨q, ?_, Or.inl rfl, Nat.le_refl _, fun c e => by cases e⟩
    unfold fpJ9_max_7cf53 enc
    rw [if_neg (fun z => ?_)]
    rw [ltJ (by omega) (by omega) (by omega) (by omega)] at z
    omega
  | some x =>
    have hx := h x rfl
    refine ⟨max q x, maxN (by omega) (by omega), ?_, by omega, fun c e => by cases e; omega⟩
    rcases Nat.le_total q x with z | z
    · exact Or.inr (by rw [Nat.max_eq_right z])
    · exact Or.inl (Nat.max_eq_left z)
theorem from_e {M : Me} {m s w s0 b0 : Nat} {P : Pr} (h : PX M m s P) (hMT : MT M) (hw : w < 1000) (hb0 : b0 < 1000) (s01 : 0 < s0) (s0m : s0 ≤ 2 ^ m) (hT : TabX M P s w (pab P) s0) : ∃ N q, fpX0_mostFrom (J (s0 : Nat)) (J (w : Nat)) (J (b0 : Nat)) M = some (J (q : Nat), N) ∧ (∀ r j, r ≠ 53 → N.1 r j = M.1 r j) ∧ MT N ∧ TabX N P s w (pab P) (2 ^ m) ∧ q < 1000 ∧ (q = b0 ∨ ∃ S l x, s0 ≤ S ∧ S < 2 ^ m ∧ sb S (pab P) ∧ S.testBit l = true ∧ tb N S l = some x ∧ q = cr P x (pml P l) 0) ∧ b0 ≤ q ∧ ∀ S l x, s0 ≤ S → S < 2 ^ m → sb S (pab P) → S.testBit l = true → tb N S l = some x → cr P x (pml P l) 0 ≤ q := by
  have h1 := h.1
  have p8 := pow_le8 h1
  obtain ⟨N, e, f1, f2, f3⟩ := spread_e (x := 8) (f := pab P) h hMT (Or.inr (Or.inl rfl)) hw h.2.2.1.1 s01 s0m hT
  have e : fpX0_spread (J (s0 : Nat)) (8 : Int32) (J (w : Nat)) (J (pab P : Nat)) M = some N := e
  have f3 : TabX N P s w (pab P) (2 ^ m) := f3
  have hN : PX N m s P := h.same (fun r j r1 r2 => f1 r j (by omega))
  obtain ⟨r, e2, q, rfl, q9, q1, q2, q3⟩ := lp_ok (step := fpX0_mostFrom_l18 N) (Q := fun r => ∃ q : Nat, r = J (q : Nat) ∧ q < 1000 ∧ (q = b0 ∨ ∃ S l x, s0 ≤ S ∧ S < 2 ^ m ∧ sb S (pab P) ∧ S.testBit l = true ∧ tb N S l = some x ∧ q = cr P x (pml P l) 0) ∧ b0 ≤ q ∧ ∀ S l x, s0 ≤ S → S < 2 ^ m → sb S (pab P) → S.testBit l = true → tb N S l = some x → cr P x (pml P l) 0 ≤ q) (fun i st => s0 + i ≤ 2 ^ m ∧ st.2 = J ((s0 + i : Nat) : Int) ∧ ∃ q : Nat, st.1 = J (q : Nat) ∧ q < 1000 ∧ (q = b0 ∨ ∃ S l x, s0 ≤ S ∧ S < 2 ^ m ∧ sb S (pab P) ∧ S.testBit l = true ∧ tb N S l = some x ∧ q = cr P x (pml P l) 0) ∧ b0 ≤ q ∧ ∀ S l x, s0 ≤ S → S < s0 + i → sb S (pab P) → S.testBit l = true → tb N S l = some x → cr P x (pml P l) 0 ≤ q) (2 ^ m - s0) (by omega) (s := (J (b0 : Nat), J (s0 : Nat))) ⟨by omega, rfl, b0, rfl, hb0, Or.inl rfl, Nat.le_refl _, fun S l x a1 a2 => by omega⟩ (by
    intro i st hi hst
    obtain ⟨b, ia⟩ := st
    obtain ⟨sl, s1, q, s2, q9, q1, q2, q3⟩ := hst
    have s1 : ia = J ((s0 + i : Nat) : Int) := s1
    have s2 : b = J (q : Nat) := s2
    subst s1
    subst s2
    show ok (fpX0_mostFrom_l18s (J (q : Nat)) (J ((s0 + i : Nat) : Int)) N) _
    unfold fpX0_mostFrom_l18s
    rw [hN.2.1, shl_d m (by omega)]
    by_cases hc : 2 ^ m ≤ s0 + i
    · have he : s0 + i = 2 ^ m := by omega
      rw [he] at q3
      exact okT ((leN (by omega) (by omega)).2 hc) (okS ⟨q, rfl, q9, q1, q2, q3⟩)
    · refine okF (fun z => hc ((leN (by omega) (by omega)).1 z)) ?_
      obtain ⟨o, c1, c2, c3, c4⟩ := home_e (S := s0 + i) hN f2 (by omega) (fun hsb l hl => (f3 (s0 + i) l (by omega) (by omega) hsb hl).2)
      refine okE c1 (okL (okL ?_))
      obtain ⟨q', m1, m2, m3, m4⟩ := maxE2 (o := o) (q := q) (fun y hy => by have := c2 y hy; omega) (by omega)
      rw [m1]
      have g1 : i < 2 ^ m - s0 := by clear q1; omega
      have g2 : s0 + (i + 1) ≤ 2 ^ m := by clear q1; omega
      refine okS ⟨g1, g2, J_succ _, q', rfl, ?_, ?_, Nat.le_trans q2 m3, fun S l x a1 a2 a3 a4 a5 => ?_⟩
      · rcases m2 with z | z
        · rw [z]; exact q9
        · exact c2 q' z
      · rcases m2 with z | z
        · rw [z]; exact q1
        · by_cases hsb : sb (s0 + i) (pab P)
          · obtain ⟨l, x, d1, d2, d3⟩ := (c3 hsb).1 q' z
            exact Or.inr ⟨s0 + i, l, x, Nat.le_add_right _ _, Nat.lt_of_not_le hc, hsb, d1, d2, d3⟩
          · rw [c4 hsb] at z
            cases z
      · rcases Nat.lt_or_eq_of_le (Nat.le_of_lt_succ a2) with z | z
        · exact Nat.le_trans (q3 S l x a1 z a3 a4 a5) m3
        · subst z
          obtain ⟨c, d1, d2⟩ := (c3 a3).2 l x a4 a5
          exact Nat.le_trans d2 (m4 c d1))
  refine ⟨N, q, ?_, f1, f2, f3, q9, q1, q2, q3⟩
  unfold fpX0_mostFrom
  rw [h.2.2.2.1, e, Option.bind_some, e2]
  rfl
theorem sb_lt {S A m : Nat} (hS : S < 256) (hA : ∀ q, A.testBit q = true → q < m) (h : sb S A) : S < 2 ^ m := lt_pow (fun q hq => hA q (h q (bit_lt hS hq) hq))
theorem with_e {M : Me} {m s w : Nat} {P : Pr} (h : PX M m s P) (hMT : MT M) (hw : w < 1000) : ∃ N q, fpX0_mostWith (J (w : Nat)) M = some (J (q : Nat), N) ∧ (∀ r j, r ≠ 53 → N.1 r j = M.1 r j) ∧ MT N ∧ TabX N P s w (pab P) (2 ^ m) ∧ q < 1000 ∧ Bst P 0 s w (pab P) (fun _ => True) (some q) := by
  have h1 := h.1
  have ec : fpX0_carried (J (w : Nat)) (8 : Int32) (9 : Int32) M = some (J (cr P w s 0 : Nat)) := car_e (x := 8) (y := 9) h (Or.inr (Or.inl rfl)) (Or.inr (Or.inr rfl)) (by omega)
  have hc : cr P w s 0 < 1000 := by unfold cr; omega
  have m1 : 1 ≤ 2 ^ m := Nat.one_le_two_pow
  obtain ⟨N, q, e, f1, f2, f3, q9, q1, q2, q3⟩ := from_e (s0 := 1) (b0 := cr P w s 0) h hMT hw hc (by decide) m1 (fun S l a1 a2 => by omega)
  have e : fpX0_mostFrom (1 : Int32) (J (w : Nat)) (J (cr P w s 0 : Nat)) M = some (J (q : Nat), N) := e
  refine ⟨N, q, ?_, f1, f2, f3, q9, ?_⟩
  · unfold fpX0_mostWith
    rw [ec, Option.bind_some, e]
    rfl
  · refine Bst.of (f := pab P) (T := fun S l => tb N S l) h.2.2.1.1 (fun q hq => hq) (fun S l t0 t1 t2 t3 => (f3 S l t0 (sb_lt t1 h.2.2.1.2 t2) t2 t3).1) (fun r hr => ?_) (fun _ => ⟨q, rfl, q2⟩) (fun S l x t0 t1 t2 _ t3 t4 => ⟨q, rfl, q3 S l x t0 (sb_lt t1 h.2.2.1.2 t2) t2 t3 t4⟩)
    cases hr
    rcases q1 with z | ⟨S, l, x, a1, a2, a3, a4, a5, a6⟩
    · exact Or.inl ⟨trivial, z⟩
    · exact Or.inr ⟨S, l, x, a1, Nat.lt_of_lt_of_le a2 (pow_le8 h1), a3, trivial, a4, a5, a6⟩
