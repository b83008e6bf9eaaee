/-! Texts: the model's tokens; words on both sides -/
section TY
variable {T : Nat → Int32} {L : Nat}
def baY (T : Nat → Int32) (L : Nat) (M : Me) : Prop := L ≤ 120 ∧ M.1 0 15 = J (L : Nat) ∧ ∀ i, i < 120 → M.1 11 i = T i
def tkY (T : Nat → Int32) (L : Nat) (M : Me) (j e : Nat) : Prop := baY T L M ∧ M.1 0 16 = J (j : Nat) ∧ M.1 0 17 = J (e : Nat)
theorem bytY {M : Me} {k : Nat} (h : baY T L M) (hk : k < 1000000) : fpX6_byteAt (J (k : Nat)) M = some (if k < L then T k else -1) := by
  obtain ⟨h0, h1, h2⟩ := h
  unfold fpX6_byteAt
  rw [h1]
  by_cases c : k < L
  · rw [if_neg (fun z => by have := (leN (by omega) (by omega)).1 z; omega), inbJ (show k < 120 by omega) (by decide), Option.bind_some, h2 k (by omega), if_pos c]
  · rw [if_pos ((leN (by omega) (by omega)).2 (by omega)), if_neg c]
theorem isLY {k : Nat} : fpX6_isLetter (if k < L then T k else -1) = if k < L ∧ ltT T k = true then 1 else 0 := by
  unfold fpX6_isLetter ltT
  simp only [decide_eq_true_eq]
  by_cases c : k < L
  · rw [if_pos c]
    by_cases c1 : 97 ≤ (T k).toInt ∧ (T k).toInt ≤ 122
    · rw [if_pos ⟨c, c1⟩]
      exact in1' c1
    · rw [if_neg (fun z => c1 z.2)]
      exact in0.2 c1
  · rw [if_neg c, if_neg (fun z => c z.1)]
    decide
theorem isDY {k : Nat} : fpX6_isDigit (if k < L then T k else -1) = if k < L ∧ dgT T k = true then 1 else 0 := by
  unfold fpX6_isDigit dgT
  simp only [decide_eq_true_eq]
  by_cases c : k < L
  · rw [if_pos c]
    by_cases c1 : 48 ≤ (T k).toInt ∧ (T k).toInt ≤ 57
    · rw [if_pos ⟨c, c1⟩]
      exact in1' c1
    · rw [if_neg (fun z => c1 z.2)]
      exact in0.2 c1
  · rw [if_neg c, if_neg (fun z => c z.1)]
    decide
theorem baY.same {M N : Me} (h : baY T L M) (f1 : N.1 0 15 = M.1 0 15) (f : ∀ i, N.1 11 i = M.1 11 i) : baY T L N := ⟨h.1, f1.trans h.2.1, fun i hi => (f i).trans (h.2.2 i hi)⟩
def fr0 (M N : Me) : Prop := ∀ r i, r ≠ 0 → N.1 r i = M.1 r i
theorem skY {M : Me} {b : Nat} (h : baY T L M) (h3 : M.1 0 16 = J (b : Nat)) (hb : b ≤ L) : ∃ N, lp fpX6_token_l8 FU M = some N ∧ fr0 M N ∧ (∀ i, i ≠ 16 → N.1 0 i = M.1 0 i) ∧ N.1 0 16 = J (rq (spT T) L b : Nat) := by
  have L1 := h.1
  obtain ⟨N, e, f1, f2, f3⟩ := lp_ok (step := fpX6_token_l8) (Q := fun N => fr0 M N ∧ (∀ i, i ≠ 16 → N.1 0 i = M.1 0 i) ∧ N.1 0 16 = J (rq (spT T) L b : Nat)) (fun i X => b + i ≤ L ∧ fr0 M X ∧ (∀ i, i ≠ 16 → X.1 0 i = M.1 0 i) ∧ X.1 0 16 = J ((b + i : Nat) : Int) ∧ rq (spT T) L (b + i) = rq (spT T) L b) (L - b) (by omega) (s := M) ⟨by omega, fun _ _ _ => rfl, fun _ _ => rfl, h3, rfl⟩ (by
    intro i X hi hst
    obtain ⟨x0, x1, x2, x3, x4⟩ := hst
    have hX : baY T L X := h.same (x2 15 (by decide)) (fun i => x1 11 i (by decide))
    show ok (fpX6_token_l8s X) _
    unfold fpX6_token_l8s
    rw [x3]
    refine okE (bytY hX (by omega)) ?_
    by_cases c : b + i < L
    · rw [if_pos c]
      have es := rq_s (q := spT T) c
      by_cases c1 : T (b + i) = 32
      · rw [if_pos (show spT T (b + i) = true by unfold spT; simp [c1])] at es
        refine okT c1 (okL ?_)
        rw [J_succ]
        refine okS ⟨by omega, by omega, fun r i hr => (wrM_nr hr).trans (x1 r i hr), fun i hi => (wrM_nj hi).trans (x2 i hi), wrM_eq, ?_⟩
        show rq (spT T) L (b + i + 1) = _
        rw [← es]; exact x4
      · rw [if_neg (show ¬ spT T (b + i) = true by unfold spT; simp [c1])] at es
        refine okF c1 (okS ⟨x1, x2, ?_⟩)
        rw [x3, ← x4, es]
    · rw [if_neg c]
      refine okF (by decide) (okS ⟨x1, x2, ?_⟩)
      rw [x3, ← x4, rq_end (by omega)])
  exact ⟨N, e, f1, f2, f3⟩
theorem tlY {M : Me} {k0 : Nat} {a1 a2 : Int32} {q : Nat → Bool} (h : baY T L M) (hq : (a1 = 1 ∧ a2 = 0 ∧ q = ltT T) ∨ (a1 = 0 ∧ a2 = 1 ∧ q = dgT T) ∨ (a1 = 0 ∧ a2 = 0 ∧ q = fun _ => false)) (h4 : M.1 0 17 = J (k0 : Nat)) (hk : k0 ≤ L) : ∃ N, lp (fpX6_token_l86 a1 a2) FU M = some N ∧ fr0 M N ∧ (∀ i, i ≠ 17 → N.1 0 i = M.1 0 i) ∧ N.1 0 17 = J (rq q L k0 : Nat) := by
  have L1 := h.1
  obtain ⟨N, e, f1, f2, f3⟩ := lp_ok (step := fpX6_token_l86 a1 a2) (Q := fun N => fr0 M N ∧ (∀ i, i ≠ 17 → N.1 0 i = M.1 0 i) ∧ N.1 0 17 = J (rq q L k0 : Nat)) (fun i X => k0 + i ≤ L ∧ fr0 M X ∧ (∀ i, i ≠ 17 → X.1 0 i = M.1 0 i) ∧ X.1 0 17 = J ((k0 + i : Nat) : Int) ∧ rq q L (k0 + i) = rq q L k0) (L - k0) (by omega) (s := M) ⟨by omega, fun _ _ _ => rfl, fun _ _ => rfl, h4, rfl⟩ (by
    intro i X hi hst
    obtain ⟨x0, x1, x2, x3, x4⟩ := hst
    have hX : baY T L X := h.same (x2 15 (by decide)) (fun i => x1 11 i (by decide))
    -- on, or at the end
    have go : k0 + i < L → q (k0 + i) = true → ok (letv (wrM X 0 17 (J ((k0 + i : Nat) : Int) + 1)) fun M19 => (some (Sum.inl M19) : Option (Me ⊕ Me))) (Sum.elim (fun X => i < L - k0 ∧ k0 + (i + 1) ≤ L ∧ fr0 M X ∧ (∀ i, i ≠ 17 → X.1 0 i = M.1 0 i) ∧ X.1 0 17 = J ((k0 + (i + 1) : Nat) : Int) ∧ rq q L (k0 + (i + 1)) = rq q L k0) (fun N => fr0 M N ∧ (∀ i, i ≠ 17 → N.1 0 i = M.1 0 i) ∧ N.1 0 17 = J (rq q L k0 : Nat))) := fun c c1 => by
      have es := rq_s (q := q) c
      rw [if_pos c1] at es
      refine okL ?_
      rw [J_succ]
      refine okS ⟨by omega, by omega, fun r i hr => (wrM_nr hr).trans (x1 r i hr), fun i hi => (wrM_nj hi).trans (x2 i hi), wrM_eq, ?_⟩
      show rq q L (k0 + i + 1) = _
      rw [← es]; exact x4
    have stop : ¬ (k0 + i < L ∧ q (k0 + i) = true) → ok (some (Sum.inr X) : Option (Me ⊕ Me)) (Sum.elim (fun X => i < L - k0 ∧ k0 + (i + 1) ≤ L ∧ fr0 M X ∧ (∀ i, i ≠ 17 → X.1 0 i = M.1 0 i) ∧ X.1 0 17 = J ((k0 + (i + 1) : Nat) : Int) ∧ rq q L (k0 + (i + 1)) = rq q L k0) (fun N => fr0 M N ∧ (∀ i, i ≠ 17 → N.1 0 i = M.1 0 i) ∧ N.1 0 17 = J (rq q L k0 : Nat))) := fun c => by
      refine okS ⟨x1, x2, ?_⟩
      rw [x3, ← x4]
      by_cases c1 : k0 + i < L
      · rw [rq_s c1, if_neg (fun z => c ⟨c1, z⟩)]
      · rw [rq_end (by omega)]
    show ok (fpX6_token_l86s a1 a2 X) _
    unfold fpX6_token_l86s fpX6_token_b104_86
    rw [x3]
    rcases hq with ⟨rfl, rfl, rfl⟩ | ⟨rfl, rfl, rfl⟩ | ⟨rfl, rfl, rfl⟩
    · refine okF (by decide) (okE (bytY hX (by omega)) ?_)
      rw [isLY]
      by_cases c : k0 + i < L ∧ ltT T (k0 + i) = true
      · rw [if_pos c]
        exact okF (by decide) (go c.1 c.2)
      · rw [if_neg c]
        exact okT rfl (okT rfl (stop c))
    · refine okT rfl (okF (by decide) (okE (bytY hX (by omega)) ?_))
      rw [isDY]
      by_cases c : k0 + i < L ∧ dgT T (k0 + i) = true
      · rw [if_pos c]
        exact okF (by decide) (go c.1 c.2)
      · rw [if_neg c]
        exact okT rfl (stop c)
    · exact okT rfl (okT rfl (stop (fun z => by cases z.2))))
  exact ⟨N, e, f1, f2, f3⟩
/-- the model's next token -/
theorem token_e {M : Me} {b : Nat} (h : baY T L M) (h4 : M.1 0 17 = J (b : Nat)) (hb : b ≤ L) : ∃ N, fpX6_token M = some N ∧ fr0 M N ∧ (∀ i, i ≠ 16 → i ≠ 17 → N.1 0 i = M.1 0 i) ∧ tkY T L N (rq (spT T) L b) (te T L (rq (spT T) L b)) := by
  have L1 := h.1
  obtain ⟨X, e1, x1, x2, x3⟩ := skY (M := wrM M 0 16 (M.1 0 17)) (b := b) (h.same (wrM_nj (by decide)) (fun i => wrM_nr (by decide))) (by rw [wrM_eq]; exact h4) hb
  have jb := rq_b (q := spT T) hb
  generalize rq (spT T) L b = j at jb x3
  have hX : baY T L X := h.same ((x2 15 (by decide)).trans (wrM_nj (by decide))) (fun i => (x1 11 i (by decide)).trans (wrM_nr (by decide)))
  have fin : ∀ (a1 a2 : Int32) (q : Nat → Bool) (k0 : Nat), ((a1 = 1 ∧ a2 = 0 ∧ q = ltT T) ∨ (a1 = 0 ∧ a2 = 1 ∧ q = dgT T) ∨ (a1 = 0 ∧ a2 = 0 ∧ q = fun _ => false)) → k0 ≤ L → rq q L k0 = te T L j → ∃ N, fpX6_token_b83 a1 a2 (J (k0 : Nat)) X = some N ∧ fr0 M N ∧ (∀ i, i ≠ 16 → i ≠ 17 → N.1 0 i = M.1 0 i) ∧ tkY T L N j (te T L j) := fun a1 a2 q k0 hq hk he => by
    obtain ⟨N, e2, n1, n2, n3⟩ := tlY (M := wrM X 0 17 (J (k0 : Nat))) (k0 := k0) (hX.same (wrM_nj (by decide)) (fun i => wrM_nr (by decide))) hq wrM_eq hk
    refine ⟨N, ?_, fun r i hr => (n1 r i hr).trans ((wrM_nr hr).trans ((x1 r i hr).trans (wrM_nr hr))), fun i h6 h7 => (n2 i h7).trans ((wrM_nj h7).trans ((x2 i h6).trans (wrM_nj h6))), hX.same ((n2 15 (by decide)).trans (wrM_nj (by decide))) (fun i => (n1 11 i (by decide)).trans (wrM_nr (by decide))), ?_, ?_⟩
    · unfold fpX6_token_b83 letv
      dsimp only
      rw [e2]
      rfl
    · rw [n2 16 (by decide), wrM_nj (by decide)]; exact x3
    · rw [n3, he]
  have main : ∃ N, (if X.1 0 15 ≤ X.1 0 16 then fpX6_token_b83 (if j < L ∧ ltT T j = true then 1 else 0) (if j < L ∧ dgT T j = true then 1 else 0) (X.1 0 16) X else fpX6_token_b83 (if j < L ∧ ltT T j = true then 1 else 0) (if j < L ∧ dgT T j = true then 1 else 0) (X.1 0 16 + 1) X) = some N ∧ fr0 M N ∧ (∀ i, i ≠ 16 → i ≠ 17 → N.1 0 i = M.1 0 i) ∧ tkY T L N j (te T L j) := by
    rw [x3, hX.2.1, J_succ]
    by_cases c : j < L
    · rw [if_neg (show ¬ J (L : Nat) ≤ J (j : Nat) from fun z => by have := (leN (by omega) (by omega)).1 z; omega)]
      by_cases c1 : ltT T j = true
      · rw [if_pos (show j < L ∧ ltT T j = true from ⟨c, c1⟩), if_neg (show ¬ (j < L ∧ dgT T j = true) from fun z => by rw [lt_dg c1] at z; cases z.2)]
        have es := rq_s (q := ltT T) c
        rw [if_pos c1] at es
        exact fin 1 0 (ltT T) (j + 1) (Or.inl ⟨rfl, rfl, rfl⟩) (by omega) (by unfold te; rw [if_neg (by omega), if_pos c1]; exact es.symm)
      · rw [if_neg (show ¬ (j < L ∧ ltT T j = true) from fun z => c1 z.2)]
        by_cases c2 : dgT T j = true
        · rw [if_pos (show j < L ∧ dgT T j = true from ⟨c, c2⟩)]
          have es := rq_s (q := dgT T) c
          rw [if_pos c2] at es
          exact fin 0 1 (dgT T) (j + 1) (Or.inr (Or.inl ⟨rfl, rfl, rfl⟩)) (by omega) (by unfold te; rw [if_neg (by omega), if_neg c1, if_pos c2]; exact es.symm)
        · rw [if_neg (show ¬ (j < L ∧ dgT T j = true) from fun z => c2 z.2)]
          refine fin 0 0 (fun _ => false) (j + 1) (Or.inr (Or.inr ⟨rfl, rfl, rfl⟩)) (by omega) ?_
          unfold te
          rw [if_neg (by omega), if_neg c1, if_neg c2]
          by_cases c3 : j + 1 < L
          · rw [rq_s c3]; rfl
          · rw [rq_end (by omega)]
    · rw [if_pos (show J (L : Nat) ≤ J (j : Nat) from (leN (by omega) (by omega)).2 (by omega)), if_neg (show ¬ (j < L ∧ ltT T j = true) from fun z => c z.1), if_neg (show ¬ (j < L ∧ dgT T j = true) from fun z => c z.1)]
      refine fin 0 0 (fun _ => false) j (Or.inr (Or.inr ⟨rfl, rfl, rfl⟩)) (by omega) ?_
      unfold te
      rw [if_pos (by omega), rq_end (by omega)]
  obtain ⟨N, e2, n1, n2, n3⟩ := main
  refine ⟨N, ?_, n1, n2, n3⟩
  unfold fpX6_token letv
  dsimp only
  rw [e1, Option.bind_some]
  have eb : fpX6_byteAt (X.1 0 16) X = some (if j < L then T j else -1) := by rw [x3]; exact bytY hX (by omega)
  rw [eb, Option.bind_some, Option.bind_some, isLY, isDY]
  exact e2
end TY
