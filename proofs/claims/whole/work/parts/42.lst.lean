/-! The class's leastStart -/
def TabW (M : Me) (P : Pr) (v : Nat) (k : Option Nat) (m lo : Nat) : Prop := ∀ S l, lo < S → S < 2 ^ m → sb S (pab P) → S.testBit l = true → WRow M P v k S l
theorem WRow.same {M N : Me} {P : Pr} {v S l : Nat} {k : Option Nat} (h : N.1 54 (8 * S + l) = M.1 54 (8 * S + l)) (r : WRow M P v k S l) : WRow N P v k S l := by
  unfold WRow
  rw [h]
  exact r
theorem nS_gt : ∀ S, S < 256 → ∀ p, p < 8 → S.testBit p = false → S < nS S p := by decide +kernel
theorem PX.same54 {M N : Me} {m s : Nat} {P : Pr} (h : PX M m s P) (f : ∀ r j, r ≠ 54 → N.1 r j = M.1 r j) : PX N m s P := h.same (fun r j r1 r2 => f r j (by omega))
theorem sb_nS {S A p m : Nat} (hS : S < 256) (p8 : p < 8) (hp : A.testBit p = true) (h : sb S A) : sb (nS S p) A := by
  intro q q8 hq
  rw [nS_bit S hS p p8 q q8] at hq
  simp only [Bool.or_eq_true, decide_eq_true_eq] at hq
  rcases hq with z | z
  · exact h q q8 z
  · rw [z]; exact hp
theorem lsi_e {K : Me} {m s S v : Nat} {k : Option Nat} {P : Pr} (h : PX K m s P) (hv : v ≤ 1000) (hk : ∀ j, k = some j → j ≤ 8) (S0 : 0 < S) (hS : S < 2 ^ m) (hsb : sb S (pab P)) (hT : TabW K P v k m S) : ∃ N, lp (fpX0_leastStart_l27 (J (v : Nat)) (enc k) (J (S : Nat))) FU ((0 : Int32), K) = some N ∧ (∀ r j, r ≠ 54 → N.1 r j = K.1 r j) ∧ TabW N P v k m (S - 1) := by
  have h1 := h.1
  have S8 : S < 256 := Nat.lt_of_lt_of_le hS (pow_le8 h1)
  obtain ⟨N, e, f1, f2, f3⟩ := lp_ok (step := fpX0_leastStart_l27 (J (v : Nat)) (enc k) (J (S : Nat))) (Q := fun N => (∀ r j, r ≠ 54 → N.1 r j = K.1 r j) ∧ (∀ S' l, S' ≠ S → l < 8 → N.1 54 (8 * S' + l) = K.1 54 (8 * S' + l)) ∧ ∀ l, l < m → S.testBit l = true → WRow N P v k S l) (fun i st => st.1 = J (i : Nat) ∧ (∀ r j, r ≠ 54 → st.2.1 r j = K.1 r j) ∧ (∀ S' l, S' ≠ S → l < 8 → st.2.1 54 (8 * S' + l) = K.1 54 (8 * S' + l)) ∧ ∀ l, l < i → S.testBit l = true → WRow st.2 P v k S l) m (by omega) (s := ((0 : Int32), K)) ⟨rfl, fun _ _ _ => rfl, fun _ _ _ _ => rfl, fun l hl => absurd hl (Nat.not_lt_zero _)⟩ (by
    intro i st hi hst
    obtain ⟨ia, X⟩ := st
    obtain ⟨s1, x1, x2, x3⟩ := hst
    have s1 : ia = J (i : Nat) := s1
    have x1 : ∀ r j, r ≠ 54 → X.1 r j = K.1 r j := x1
    have x2 : ∀ S' l, S' ≠ S → l < 8 → X.1 54 (8 * S' + l) = K.1 54 (8 * S' + l) := x2
    have x3 : ∀ l, l < i → S.testBit l = true → WRow X P v k S l := x3
    subst s1
    have hX : PX X m s P := h.same54 x1
    show ok (fpX0_leastStart_l27s (J (v : Nat)) (enc k) (J (S : Nat)) (J (i : Nat)) X) _
    unfold fpX0_leastStart_l27s
    rw [hX.2.1]
    rcases Nat.lt_or_eq_of_le hi with him | him
    · have i8 : i < 8 := by omega
      refine okF (fun z => by have := (leN (by omega) (by omega)).1 z; omega) ?_
      rw [isIn_d S S8 i i8]
      by_cases hb : S.testBit i = true
      · rw [if_pos hb]
        refine okF (by decide) ?_
        obtain ⟨W, e1, t1⟩ := wat_e (x := i) (S := S) (v := v) (k := k) hX (Or.inl him) S8 hv hk (fun p hp ha hs => by
          have p8 : p < 8 := by omega
          have gt := nS_gt S S8 p p8 hs
          have hn := sb_nS (m := m) S8 p8 ha hsb
          have bt : (nS S p).testBit p = true := by rw [nS_bit S S8 p p8 p p8]; simp
          exact (hT (nS S p) p gt (sb_lt (nS_lt S S8 p p8) h.2.2.1.2 hn) hn bt).same (x2 (nS S p) p (by omega) p8))
        rw [plc_p i8] at t1
        have e8 : J (S : Nat) * (8 : Int32) + J (i : Nat) = J ((8 * S + i : Nat) : Int) := by
          rw [show (8 : Int32) = J 8 from rfl, J_mul, J_add]
          congr 1
          omega
        rw [e8]
        refine okE e1 (okE (inbJ (show 8 * S + i < 2048 by omega) (by decide)) (okL (okL (okS ⟨him, J_succ i, fun r j hr => (wrM_nr hr).trans (x1 r j hr), fun S' l hS' hl => (wrM_nj (by omega)).trans (x2 S' l hS' hl), fun l hl hbl => ?_⟩))))
        rcases Nat.lt_or_eq_of_le (Nat.le_of_lt_succ hl) with z | z
        · exact (x3 l z hbl).same (wrM_nj (by omega))
        · subst z
          exact ⟨W, wrM_eq, t1⟩
      · rw [if_neg hb]
        refine okT rfl (okL (okS ⟨him, J_succ i, x1, x2, fun l hl hbl => ?_⟩))
        rcases Nat.lt_or_eq_of_le (Nat.le_of_lt_succ hl) with z | z
        · exact x3 l z hbl
        · subst z
          exact absurd hbl hb
    · subst him
      exact okT ((leN (by omega) (by omega)).2 (Nat.le_refl _)) (okS ⟨x1, x2, x3⟩))
  refine ⟨N, e, f1, fun S' l s0 s1 s2 s3 => ?_⟩
  by_cases z : S' = S
  · subst z
    exact f3 l (h.2.2.1.2 l (hsb l (bit_lt S8 s3) s3)) s3
  · exact (hT S' l (by omega) s1 s2 s3).same (f2 S' l z (bit_lt (Nat.lt_of_lt_of_le s1 (pow_le8 h1)) s3))
theorem lst_e {M : Me} {m s v : Nat} {k : Option Nat} {P : Pr} (h : PX M m s P) (hv : v ≤ 1000) (hk : ∀ j, k = some j → j ≤ 8) : ∃ N W, fpX0_leastStart (J (v : Nat)) (enc k) M = some (J (W : Nat), N) ∧ (∀ r j, r ≠ 54 → N.1 r j = M.1 r j) ∧ Tel P v 0 k s W ∧ TabW N P v k m 0 := by
  have h1 := h.1
  have p8 := pow_le8 h1
  have m1 : 1 ≤ 2 ^ m := Nat.one_le_two_pow
  obtain ⟨N, e, f1, f2⟩ := lp_ok (step := fpX0_leastStart_l9 (J (v : Nat)) (enc k)) (Q := fun N => (∀ r j, r ≠ 54 → N.1 r j = M.1 r j) ∧ TabW N P v k m 0) (fun i st => i ≤ 2 ^ m - 1 ∧ st.1 = J ((2 ^ m - 1 - i : Nat) : Int) ∧ (∀ r j, r ≠ 54 → st.2.1 r j = M.1 r j) ∧ TabW st.2 P v k m (2 ^ m - 1 - i)) (2 ^ m - 1) (by omega) (s := (J ((2 ^ m - 1 - 0 : Nat) : Int), M)) ⟨by omega, rfl, fun _ _ _ => rfl, fun S l a1 a2 => by omega⟩ (by
    intro i st hi hst
    obtain ⟨ia, X⟩ := st
    obtain ⟨i1, s1, x1, x2⟩ := hst
    have s1 : ia = J ((2 ^ m - 1 - i : Nat) : Int) := s1
    have x1 : ∀ r j, r ≠ 54 → X.1 r j = M.1 r j := x1
    have x2 : TabW X P v k m (2 ^ m - 1 - i) := x2
    subst s1
    have hX : PX X m s P := h.same54 x1
    show ok (fpX0_leastStart_l9s (J (v : Nat)) (enc k) (J ((2 ^ m - 1 - i : Nat) : Int)) X) _
    unfold fpX0_leastStart_l9s
    rw [hX.2.2.2.1]
    have dn : ∀ S : Nat, 0 < S → J (S : Nat) + (-1 : Int32) = J ((S - 1 : Nat) : Int) := fun S hS => by
      rw [J_m1, J_add]
      congr 1
      omega
    by_cases hz : 2 ^ m - 1 - i = 0
    · rw [hz] at x2 ⊢
      exact okT (by decide) (okS ⟨x1, x2⟩)
    · generalize hSe : 2 ^ m - 1 - i = S at x2 hz
      have e3 : 2 ^ m - 1 - (i + 1) = S - 1 := by omega
      have hS : S < 2 ^ m := by omega
      refine okF (fun z => by have := (leN (b := 0) (by omega) (by omega)).1 z; omega) ?_
      by_cases hsb : sb S (pab P)
      · refine okT ((sub_d (by omega) h.2.2.1.1).2 hsb) ?_
        obtain ⟨N, e1, g1, g2⟩ := lsi_e hX hv hk (by omega) hS hsb x2
        rw [dn S (by omega)]
        refine okE e1 (okL (okS ⟨by omega, by omega, ?_, fun r j hr => (g1 r j hr).trans (x1 r j hr), ?_⟩))
        · rw [e3]
        · rw [e3]; exact g2
      · rw [dn S (by omega)]
        refine okF (fun z => hsb ((sub_d (by omega) h.2.2.1.1).1 z)) (okL (okS ⟨by omega, by omega, ?_, x1, ?_⟩))
        · rw [e3]
        · rw [e3]
          intro S' l a1 a2 a3 a4
          by_cases z : S' = S
          · subst z
            exact absurd a3 hsb
          · exact x2 S' l (by omega) a2 a3 a4)
  have hN : PX N m s P := h.same54 f1
  obtain ⟨W, e1, t1⟩ := wat_e (x := 8) (S := 0) (v := v) (k := k) hN (Or.inr (Or.inl rfl)) (by decide) hv hk (fun p hp ha hs => by
    have p8 : p < 8 := by omega
    have gt := nS_gt 0 (by decide) p p8 hs
    have hn := sb_nS (A := pab P) (m := m) (S := 0) (by decide) p8 ha (fun q _ hq => by simp at hq)
    have bt : (nS 0 p).testBit p = true := by rw [nS_bit 0 (by decide) p p8 p p8]; simp
    exact f2 (nS 0 p) p gt (sb_lt (nS_lt 0 (by decide) p p8) h.2.2.1.2 hn) hn bt)
  refine ⟨N, W, ?_, f1, t1, f2⟩
  unfold fpX0_leastStart letv
  have e0 : ((1 : Int32) <<< (M.1 46 2 &&& 31)) - 1 = J ((2 ^ m - 1 - 0 : Nat) : Int) := by
    rw [h.2.1, shl_d m (by omega)]
    exact subN (b := 1) m1
  dsimp only
  rw [e0, e, Option.bind_some]
  have e1 : fpX0_wantedAt (8 : Int32) (0 : Int32) (J (v : Nat)) (enc k) N = some (J (W : Nat)) := e1
  rw [e1]
  rfl
