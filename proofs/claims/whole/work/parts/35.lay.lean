/-! The class's planner is laid over the road -/
def spb (a b c : Int32) : Int32 := if c = 0 then 0 else fpJ9_abs_0f7a4 (a - b) / c
theorem spb_e (a b c : Int32) : fpX5_spiltBetween a b c = some (spb a b c) := by
  unfold fpX5_spiltBetween spb dvz
  by_cases h : c = 0
  · rw [if_pos h, if_pos h]
  · rw [if_neg h, if_neg h, if_neg h]
theorem spb_J {a b c : Nat} (ha : a < 1000000) (hb : b < 1000000) (hc : c < 1000000) : spb (J (a : Nat)) (J (b : Nat)) (J (c : Nat)) = J (ls c a b : Nat) := by
  have := spX ha hb hc
  rw [spb_e] at this
  exact Option.some.inj this
def meS (M : Me) (k : Nat) : Me := (fun r j => if r = 49 ∧ j < k then spb (M.1 48 (j / 10)) (M.1 48 (j % 10)) (M.1 46 5) else M.1 r j, M.2)
theorem meS_at {M : Me} {k r j : Nat} : (meS M k).1 r j = if r = 49 ∧ j < k then spb (M.1 48 (j / 10)) (M.1 48 (j % 10)) (M.1 46 5) else M.1 r j := rfl
theorem meS_n {M : Me} {k r j : Nat} (h : r ≠ 49) : (meS M k).1 r j = M.1 r j := meS_at.trans (if_neg (fun z => h z.1))
theorem meS_s {M : Me} {i j : Nat} (hj : j < 10) : wrM (meS M (10 * i + j)) 49 (10 * i + j) (spb (M.1 48 i) (M.1 48 j) (M.1 46 5)) = meS M (10 * i + (j + 1)) := by
  refine me_ext (fun r k => ?_) rfl
  rw [wrM_at, meS_at, meS_at]
  by_cases h1 : r = 49 ∧ k = 10 * i + j
  · rw [if_pos h1, if_pos (by omega)]
    have e1 : k / 10 = i := by omega
    have e2 : k % 10 = j := by omega
    rw [e1, e2]
  · rw [if_neg h1]
    by_cases h2 : r = 49 ∧ k < 10 * i + j
    · rw [if_pos h2, if_pos (by omega)]
    · rw [if_neg h2, if_neg (by omega)]
theorem mea_e {M : Me} : fpX0_measure M = some (meS M 100) := by
  have e0 : meS M 0 = M := me_ext (fun r j => meS_at.trans (if_neg (by omega))) rfl
  have inner : ∀ i, i < 10 → lp (fpX0_measure_l10 (J (i : Nat))) FU ((0 : Int32), meS M (10 * i)) = some (meS M (10 * (i + 1))) := by
    intro i hi
    have e : lp (fpX0_measure_l10 (J (i : Nat))) FU (J ((0 : Nat) : Int), meS M (10 * i + 0)) = some (meS M (10 * (i + 1))) := by
      refine lp_tr (fun j : Nat => (J (j : Nat), meS M (10 * i + j))) 10 (by decide) (fun j hj => ?_) ?_
      · show fpX0_measure_l10s (J (i : Nat)) (J (j : Nat)) (meS M (10 * i + j)) = _
        unfold fpX0_measure_l10s letv
        have c1 : ¬ (10 : Int32) ≤ J (j : Nat) := fun z => by have := (leN (a := 10) (by omega) (by omega)).1 z; omega
        have e10 : J (i : Nat) * (10 : Int32) + J (j : Nat) = J ((10 * i + j : Nat) : Int) := by
          rw [show (10 : Int32) = J 10 from rfl, J_mul, J_add]
          congr 1
          omega
        rw [if_neg c1, inbJ hi (by decide), Option.bind_some, inbJ hj (by decide), Option.bind_some, spb_e, Option.bind_some, e10, inbJ (by omega) (by decide), Option.bind_some, meS_n (by decide), meS_n (by decide), meS_n (by decide), meS_s hj, J_succ]
      · rfl
    exact e
  have e : lp fpX0_measure_l2 FU (J ((0 : Nat) : Int), meS M (10 * 0)) = some (meS M 100) := by
    refine lp_tr (fun i : Nat => (J (i : Nat), meS M (10 * i))) 10 (by decide) (fun i hi => ?_) rfl
    show fpX0_measure_l2s (J (i : Nat)) (meS M (10 * i)) = _
    unfold fpX0_measure_l2s letv
    have c1 : ¬ (10 : Int32) ≤ J (i : Nat) := fun z => by have := (leN (a := 10) (by omega) (by omega)).1 z; omega
    rw [if_neg c1, inner i hi, Option.bind_some, J_succ]
  rw [show 10 * 0 = 0 from rfl, e0] at e
  have e : lp fpX0_measure_l2 FU ((0 : Int32), M) = some (meS M 100) := e
  unfold fpX0_measure
  rw [e]
  rfl
/-- which can be run today at all -/
def abl (s : Nat → Int32) (d : Nat) : Nat → Nat
  | 0 => 0
  | i + 1 => if s (12 + 6 * i + 5) = 0 ∧ 0 < yP s d i then nS (abl s d i) i else abl s d i
theorem abl_b {s : Nat → Int32} {d : Nat} : ∀ i, i ≤ 8 → abl s d i < 256 ∧ ∀ q, (abl s d i).testBit q = true ↔ q < i ∧ s (12 + 6 * q + 5) = 0 ∧ 0 < yP s d q
  | 0, _ => ⟨by unfold abl; decide, fun q => by unfold abl; simp⟩
  | i + 1, h => by
    obtain ⟨h1, h2⟩ := abl_b (s := s) (d := d) i (by omega)
    unfold abl
    by_cases hc : s (12 + 6 * i + 5) = 0 ∧ 0 < yP s d i
    · rw [if_pos hc]
      refine ⟨nS_lt _ h1 i (by omega), fun q => ?_⟩
      constructor
      · intro hq
        have q8 := bit_lt (nS_lt _ h1 i (by omega)) hq
        rw [nS_bit _ h1 i (by omega) q q8] at hq
        simp only [Bool.or_eq_true, decide_eq_true_eq] at hq
        rcases hq with z | z
        · have := (h2 q).1 z
          exact ⟨by omega, this.2⟩
        · subst z
          exact ⟨by omega, hc⟩
      · intro ⟨a1, a2⟩
        rw [nS_bit _ h1 i (by omega) q (by omega)]
        by_cases e : q = i
        · simp [e]
        · rw [(h2 q).2 ⟨by omega, a2⟩]
          rfl
    · rw [if_neg hc]
      refine ⟨h1, fun q => ?_⟩
      rw [h2 q]
      constructor
      · intro ⟨a1, a2⟩
        exact ⟨by omega, a2⟩
      · intro ⟨a1, a2⟩
        refine ⟨?_, a2⟩
        rcases Nat.lt_or_eq_of_le (Nat.le_of_lt_succ a1) with z | z
        · exact z
        · subst z
          exact absurd a2 hc
/-- the problem that a road tells, at a drought -/
def PR (s : Nat → Int32) (d : Nat) : Pr := (fun p => vn s (12 + 6 * p + 1), fun p => nP s d p, fun p => yP s d p, abl s d (vn s 0), vn s 2, ls (vn s 3))
def LayI (M X : Me) (s : Nat → Int32) (d i : Nat) : Prop := (∀ r j, r < 46 ∨ r = 47 ∨ r = 49 ∨ 53 ≤ r → X.1 r j = M.1 r j) ∧ (∀ j, j ≠ 3 → X.1 46 j = M.1 46 j) ∧ X.1 46 3 = J (abl s d i : Nat) ∧ ∀ p, p < i → X.1 48 p = s (12 + 6 * p + 1) ∧ X.1 51 p = J (yP s d p : Nat) ∧ X.1 50 p = J (nP s d p : Nat) ∧ X.1 52 p = s (12 + 6 * p + 3)
