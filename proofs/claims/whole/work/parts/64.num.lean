/-! Texts: wants, numbers -/
section TN
variable {T : Nat → Int32} {L : Nat}
/-- the model's other cells of its own -/
def frI (M N : Me) : Prop := fr0 M N ∧ ∀ i, i < 16 ∨ 20 ≤ i → N.1 0 i = M.1 0 i
theorem frI.rf {M : Me} : frI M M := ⟨fun _ _ _ => rfl, fun _ _ => rfl⟩
theorem frI.tr {M A N : Me} (h : frI M A) (g : frI A N) : frI M N := ⟨fun r i hr => (g.1 r i hr).trans (h.1 r i hr), fun i hi => (g.2 i hi).trans (h.2 i hi)⟩
theorem frI.w {M : Me} {i : Nat} {v : Int32} (hi : 16 ≤ i ∧ i < 20) : frI M (wrM M 0 i v) := ⟨fun r k hr => wrM_nr hr, fun k hk => wrM_nj (by omega)⟩
theorem baY.fr {M N : Me} (h : baY T L M) (f : frI M N) : baY T L N := h.same (f.2 15 (by decide)) (fun i => f.1 11 i (by decide))
theorem wants1 {M : Me} {j : Nat} (h : tkY T L M j (te T L j)) (hj : j ≤ L) (h9 : M.1 0 19 = 0) : ∃ N, fpX6_wants (1 : Int32) M = some N ∧ frI M N ∧ (∀ i, i ≠ 16 → i ≠ 17 → N.1 0 i = M.1 0 i) ∧ tkY T L N (rq (spT T) L (te T L j)) (te T L (rq (spT T) L (te T L j))) := by
  have tb := te_b (T := T) hj
  obtain ⟨N, e, n1, n2, n3⟩ := token_e h.1 h.2.2 tb.2.1
  refine ⟨N, ?_, ⟨n1, fun i hi => n2 i (by omega) (by omega)⟩, n2, n3⟩
  unfold fpX6_wants fpX6_wants_b17 bz letv
  rw [if_pos h9, if_neg (show ¬ (1 : Int32) = 0 by decide), if_pos (Or.inl rfl), wrM_id h9]
  dsimp only
  rw [if_pos h9, e]
  rfl
theorem wants0 {M : Me} (h9 : M.1 0 19 = 0) : fpX6_wants (0 : Int32) M = some (wrM M 0 19 1) := by
  unfold fpX6_wants fpX6_wants_b12 fpX6_wants_b17 bz letv
  rw [if_pos h9, if_pos rfl, if_pos (Or.inr rfl)]
  dsimp only
  rw [wrM_eq, if_neg (by decide)]
theorem wantsB {M : Me} {t : Int32} (h9 : M.1 0 19 = 1) : fpX6_wants t M = some M := by
  unfold fpX6_wants fpX6_wants_b12 fpX6_wants_b17 bz letv
  rw [if_neg (show ¬ M.1 0 19 = 0 by rw [h9]; decide), if_pos (Or.inr rfl), wrM_id h9]
  dsimp only
  rw [if_neg (show ¬ M.1 0 19 = 0 by rw [h9]; decide)]
theorem numB {M : Me} {lo hi : Int32} (h9 : M.1 0 19 = 1) : fpX6_number lo hi M = some M := by
  unfold fpX6_number
  rw [if_neg (show ¬ M.1 0 19 = 0 by rw [h9]; decide)]
theorem wordB {M : Me} {j e : Nat} (h : tkY T L M j e) (h1 : j ≤ e) (h2 : e ≤ L) (h9 : M.1 0 19 = 1) : fpX6_word M = some 0 := by
  obtain ⟨v, e1, -⟩ := wlp (M := M) (j := j) (e := e) h.1 h.2.2 h1 h2
  unfold fpX6_word letv
  dsimp only
  rw [h.2.1, e1, Option.bind_some, if_neg (show ¬ M.1 0 19 = 0 by rw [h9]; decide)]
/-- a number from one to another stands here -/
def Cn (T : Nat → Int32) (L j : Nat) (lo hi : Int32) : Prop := (j < L ∧ dgT T j = true) ∧ lo.toInt ≤ dM T j (te T L j - j) ∧ (dM T j (te T L j - j) : Int) ≤ hi.toInt
theorem dig_te {j : Nat} (h : j < L ∧ dgT T j = true) : te T L j = rq (dgT T) L j := by
  unfold te
  rw [if_neg (by omega), if_neg (fun z => by rw [lt_dg z] at h; cases h.2), if_pos h.2]
theorem dig_all {j : Nat} (h : j < L ∧ dgT T j = true) : ∀ k, k < te T L j - j → dgT T (j + k) = true := fun k hk => by
  have e := dig_te h
  exact (rq_b (q := dgT T) (show j ≤ L by omega)).2.2 (j + k) (by omega) (by omega)
theorem numY {M : Me} {j : Nat} {lo hi : Int32} (h : tkY T L M j (te T L j)) (hj : j ≤ L) (h9 : M.1 0 19 = 0) : ∃ N, fpX6_number lo hi M = some N ∧ frI M N ∧ ((Cn T L j lo hi ∧ N.1 0 19 = 0 ∧ N.1 0 18 = J (dM T j (te T L j - j) : Nat) ∧ tkY T L N (rq (spT T) L (te T L j)) (te T L (rq (spT T) L (te T L j)))) ∨ (¬ Cn T L j lo hi ∧ N.1 0 19 = 1 ∧ tkY T L N j (te T L j))) := by
  obtain ⟨hb, h6, h7⟩ := id h
  have L1 := hb.1
  have tb := te_b (T := T) hj
  -- a number that is none
  have bad : ∀ a3 v : Int32, ¬ Cn T L j lo hi → ((a3 = 0) ∨ (¬ a3 = 0 ∧ fpX6_in v.toInt64 lo.toInt64 hi.toInt64 = 0)) → ∃ N, fpX6_number_b79 lo hi a3 v M = some N ∧ frI M N ∧ ((Cn T L j lo hi ∧ N.1 0 19 = 0 ∧ N.1 0 18 = J (dM T j (te T L j - j) : Nat) ∧ tkY T L N (rq (spT T) L (te T L j)) (te T L (rq (spT T) L (te T L j)))) ∨ (¬ Cn T L j lo hi ∧ N.1 0 19 = 1 ∧ tkY T L N j (te T L j))) := fun a3 v hc ha => by
    have w0 : fpX6_wants (0 : Int32) (wrM M 0 18 v) = some (wrM (wrM M 0 18 v) 0 19 1) := wants0 ((wrM_nj (by decide)).trans h9)
    have fN : frI M (wrM (wrM M 0 18 v) 0 19 1) := (frI.w (by decide)).tr (frI.w (by decide))
    refine ⟨wrM (wrM M 0 18 v) 0 19 1, ?_, fN, Or.inr ⟨hc, wrM_eq, hb.fr fN, ?_, ?_⟩⟩
    · unfold fpX6_number_b79 letv
      dsimp only
      rcases ha with z | ⟨z1, z2⟩
      · rw [if_pos z, w0]; rfl
      · rw [if_neg z1, if_pos z2, w0]; rfl
    · rw [wrM_nj (by decide), wrM_nj (by decide)]; exact h6
    · rw [wrM_nj (by decide), wrM_nj (by decide)]; exact h7
  unfold fpX6_number letv
  rw [if_pos h9, h6, bytY hb (by omega), Option.bind_some]
  dsimp only
  rw [isDY]
  by_cases c : j < L ∧ dgT T j = true
  · rw [if_pos c]
    have hd := dig_all c
    obtain ⟨v, er, rfl⟩ := lp_ok (step := fpX6_number_l29 lo hi 1 M) (Q := fun v => v = J (dM T j (te T L j - j) : Nat)) (fun i st => st = (J (dM T j i : Nat), J ((j + i : Nat) : Int))) (te T L j - j) (by omega) (s := ((0 : Int32), J (j : Nat))) rfl (by
      intro i st hi' hst
      subst hst
      show ok (fpX6_number_l29s lo hi 1 (J (dM T j i : Nat)) (J ((j + i : Nat) : Int)) M) _
      unfold fpX6_number_l29s
      rw [h7]
      have hM := dCM (T := T) (j := j) i (fun k hk => hd k (by omega))
      by_cases c1 : te T L j ≤ j + i
      · refine okT ((leN (by omega) (by omega)).2 c1) (okS ?_)
        show J (dM T j i : Nat) = _
        rw [show i = te T L j - j by omega]
      · refine okF (fun z => c1 ((leN (by omega) (by omega)).1 z)) (okF (by decide) ?_)
        rw [J_succ]
        by_cases c2 : dM T j i ≤ 999
        · refine okT ((leN (b := 999) (by omega) (by omega)).2 c2) (okE (inbJ (show j + i < 120 by omega) (by decide)) (okL (okL (okS ⟨by omega, ?_⟩))))
          have gi := hd i (by omega)
          unfold dgT at gi
          simp only [decide_eq_true_eq] at gi
          have e1 : (10 : Int32) * J (dM T j i : Nat) + M.1 11 (j + i) - (48 : Int32) = J (dM T j (i + 1) : Nat) := by
            rw [hb.2.2 _ (by omega)]
            have et : T (j + i) = J (T (j + i)).toInt := (J_t _).symm
            rw [et, show (10 : Int32) = J 10 from rfl, show (48 : Int32) = J 48 from rfl, J_mul, J_add, J_sub]
            have ed : dM T j (i + 1) = 10 * dM T j i + ((T (j + i)).toInt.toNat - 48) := by
              show (if 999 < dM T j i then _ else _) = _
              rw [if_neg (by omega)]
            rw [ed]
            congr 1
            omega
          rw [e1]
          rfl
        · refine okF (fun z => c2 ((leN (b := 999) (by omega) (by omega)).1 z)) (okL (okS ⟨by omega, ?_⟩))
          have ed : dM T j (i + 1) = dM T j i := by
            show (if 999 < dM T j i then _ else _) = _
            rw [if_pos (by omega)]
          rw [ed]
          rfl)
    rw [er, Option.bind_some]
    have hM := (dCM (T := T) (j := j) (te T L j - j) hd).2.1
    have iv : fpX6_in (J (dM T j (te T L j - j) : Nat)).toInt64 lo.toInt64 hi.toInt64 = 0 ↔ ¬ Cn T L j lo hi := by
      rw [in0, t64, t64, tJn (by omega)]
      unfold Cn
      constructor
      · intro z y
        exact z y.2
      · intro z y
        exact z ⟨c, y⟩
    by_cases hc : Cn T L j lo hi
    · have f18 : frI M (wrM M 0 18 (J (dM T j (te T L j - j) : Nat))) := frI.w (by decide)
      obtain ⟨N, e2, n1, n2, n3⟩ := wants1 (M := wrM M 0 18 (J (dM T j (te T L j - j) : Nat))) (j := j) ⟨hb.fr f18, (wrM_nj (by decide)).trans h6, (wrM_nj (by decide)).trans h7⟩ hj ((wrM_nj (by decide)).trans h9)
      refine ⟨N, ?_, f18.tr n1, Or.inl ⟨hc, ?_, ?_, n3⟩⟩
      · unfold fpX6_number_b79 letv
        dsimp only
        rw [if_neg (show ¬ (1 : Int32) = 0 by decide), if_neg (fun z => iv.1 z hc), e2]
        rfl
      · rw [n2 19 (by decide) (by decide), wrM_nj (by decide)]; exact h9
      · rw [n2 18 (by decide) (by decide), wrM_eq]
    · exact bad _ _ hc (Or.inr ⟨by decide, iv.2 hc⟩)
  · rw [if_neg c]
    have e5 : lp (fpX6_number_l29 lo hi 0 M) FU ((0 : Int32), J (j : Nat)) = some 0 := by
      refine lp_tr (fun _ => ((0 : Int32), J (j : Nat))) 0 (by decide) (fun i hi => absurd hi (Nat.not_lt_zero _)) ?_
      show fpX6_number_l29s lo hi 0 (0 : Int32) (J (j : Nat)) M = _
      unfold fpX6_number_l29s
      by_cases z : M.1 0 17 ≤ J (j : Nat)
      · rw [if_pos z]
      · rw [if_neg z, if_pos rfl]
    rw [e5, Option.bind_some]
    exact bad 0 0 (fun z => c z.1) (Or.inl rfl)
theorem kd_1 {j : Nat} : kd T L j = 1 ↔ j < L ∧ dgT T j = true := by
  unfold kd
  by_cases c : L ≤ j
  · rw [if_pos c]
    exact ⟨fun z => by omega, fun z => by omega⟩
  · rw [if_neg c]
    by_cases c1 : ltT T j = true
    · rw [if_pos c1]
      exact ⟨fun z => by omega, fun z => by rw [lt_dg c1] at z; cases z.2⟩
    · rw [if_neg c1]
      by_cases c2 : dgT T j = true
      · rw [if_pos c2]
        exact ⟨fun _ => ⟨by omega, c2⟩, fun _ => rfl⟩
      · rw [if_neg c2]
        refine ⟨fun z => ?_, fun z => absurd z.2 c2⟩
        by_cases c3 : T j = 59
        · rw [if_pos c3] at z; omega
        · rw [if_neg c3] at z; omega
/-- the class's readNumber -/
theorem rdX {M : Me} {j : Nat} {lo hi : Int32} (h : tkX T L M j (te T L j)) (hj : j ≤ L) (hh : hi.toInt ≤ 999) : ∃ b N, fpX4_readNumber lo hi M = some (b, N) ∧ fr34 M N ∧ tkX T L N (rq (spT T) L (te T L j)) (te T L (rq (spT T) L (te T L j))) ∧ ((b = 1 ∧ Cn T L (rq (spT T) L (te T L j)) lo hi ∧ N.1 34 5 = J (dM T (rq (spT T) L (te T L j)) (te T L (rq (spT T) L (te T L j)) - rq (spT T) L (te T L j)) : Nat)) ∨ (b = 0 ∧ ¬ Cn T L (rq (spT T) L (te T L j)) lo hi)) := by
  have L1 := h.1.1
  have tb := te_b (T := T) hj
  obtain ⟨N, e, n1, n2⟩ := next_e h.1 h.2.2.2.1 tb.2.1
  generalize rq (spT T) L (te T L j) = j1 at n2
  have hk := kd_lt (T := T) (L := L) (j := j1)
  obtain ⟨n3, n4, n5, n6, n7⟩ := id n2
  unfold fpX4_readNumber
  rw [e, Option.bind_some, n4]
  have ek : (J (kd T L j1 : Nat) = (1 : Int32)) ↔ (j1 < L ∧ dgT T j1 = true) := (eqN (b := 1) (by omega) (by omega)).trans kd_1
  by_cases c : j1 < L ∧ dgT T j1 = true
  · rw [if_pos (ek.2 c), n7 (kd_1.2 c)]
    have hM := dCM (T := T) (j := j1) (te T L j1 - j1) (dig_all c)
    have l1 : (J (dC T j1 (te T L j1 - j1) : Nat) < lo) ↔ (dC T j1 (te T L j1 - j1) : Int) < lo.toInt := by rw [Int32.lt_iff_toInt_lt, tJn (by omega)]
    have l2 : (hi < J (dC T j1 (te T L j1 - j1) : Nat)) ↔ hi.toInt < (dC T j1 (te T L j1 - j1) : Int) := by rw [Int32.lt_iff_toInt_lt, tJn (by omega)]
    by_cases c1 : (dC T j1 (te T L j1 - j1) : Int) < lo.toInt
    · rw [if_pos (l1.2 c1)]
      by_cases c3 : hi.toInt < (dM T j1 (te T L j1 - j1) : Int)
      · exact ⟨0, N, rfl, n1, n2, Or.inr ⟨rfl, fun z => by have := z.2.2; omega⟩⟩
      · exact ⟨0, N, rfl, n1, n2, Or.inr ⟨rfl, fun z => by have := z.2; omega⟩⟩
    · rw [if_neg (fun z => c1 (l1.1 z))]
      by_cases c2 : hi.toInt < (dC T j1 (te T L j1 - j1) : Int)
      · rw [if_pos (l2.2 c2)]
        exact ⟨0, N, rfl, n1, n2, Or.inr ⟨rfl, fun z => by have := z.2; omega⟩⟩
      · rw [if_neg (fun z => c2 (l2.1 z))]
        have ed : dC T j1 (te T L j1 - j1) = dM T j1 (te T L j1 - j1) := by omega
        refine ⟨1, N, rfl, n1, n2, Or.inl ⟨rfl, ⟨c, by omega, by omega⟩, ?_⟩⟩
        rw [n7 (kd_1.2 c), ed]
  · rw [if_neg (fun z => c (ek.1 z))]
    exact ⟨0, N, rfl, n1, n2, Or.inr ⟨rfl, fun z => c z.1⟩⟩
end TN
