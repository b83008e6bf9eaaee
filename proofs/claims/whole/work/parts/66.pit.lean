/-! Texts: pumps, and every item -/
section TP
variable {n : Nat} {N1 N2 M1 M2 : Me} {T : Nat → Int32} {L j : Nat}
theorem addX_n {r p r' i : Nat} {a b c d : Int32} {M : Me} (h1 : r' ≠ r) (h2 : r' ≠ r + 3 + p) : (addX r p a b c d M).1 r' i = M.1 r' i := by
  unfold addX
  rw [wrM_nr h1, wrM_nr h2, wrM_nr h2, wrM_nr h2, wrM_nr h2, wrM_nr h2, wrM_nr h2]
theorem addY_n {p r' i : Nat} {a b c d : Int32} {M : Me} (h1 : r' ≠ 1) : (addY p a b c d M).1 r' i = M.1 r' i := by
  unfold addY
  rw [wrM_nr h1, wrM_nr h1, wrM_nr h1, wrM_nr h1, wrM_nr h1, wrM_nr h1, wrM_nr h1]
theorem addY_70 {p i : Nat} {a b c d : Int32} {M : Me} (hp : p < 8) (hi : 70 ≤ i) : (addY p a b c d M).1 1 i = M.1 1 i := by
  unfold addY
  rw [wrM_nj (by omega), wrM_nj (by omega), wrM_nj (by omega), wrM_nj (by omega), wrM_nj (by omega), wrM_nj (by omega), wrM_nj (by omega)]
theorem stgE {p : Nat} {a b c d : Int32} (h : GdT n N1 N2 T L M1 M2 j) (hp : M2.1 1 0 = J (p : Nat)) (p8 : p < 8) (ha : 0 ≤ a.toInt ∧ a.toInt ≤ 6) (hb : 0 ≤ b.toInt ∧ b.toInt ≤ 99) (hc : 0 ≤ c.toInt ∧ c.toInt ≤ 60) (hd : 0 ≤ d.toInt ∧ d.toInt ≤ 11) : ∃ X Y, fpX4_readPump_b103 23 a b c d M1 = some ((1 : Int32), X) ∧ ((fpX6_newPump a b c d M2).bind fun q15 => some q15.2) = some Y ∧ GdT n N1 N2 T L X Y j := by
  obtain ⟨a1, a2, a3, a4, a5, a6, a7, a8⟩ := h
  have hx : M1.1 23 2 = J (p : Nat) := (a5 0 (by decide)).trans hp
  refine ⟨addX 23 p a b c d M1, addY p a b c d M2, ?_, ?_, ⟨a1.1.same (addX_n (by decide) (by omega)) (fun i => addX_n (by decide) (by omega)), ?_, ?_, ?_, fun z => ?_⟩, ⟨a2.1.same (addY_n (by decide)) (fun i => addY_n (by decide)), (addY_n (by decide)).trans a2.2.1, (addY_n (by decide)).trans a2.2.2⟩, a3, (addY_n (by decide)).trans a4, add_RE (q := 0) a5 p8, add_RO a6 hp p8 ha hb hc hd, fun r i hr => ?_, fun r i hr => ?_, fun i hi => ?_, fun i hi => ?_⟩
  · unfold fpX4_readPump_b103
    rw [add_e hx p8]
    rfl
  · rw [new_e hp p8]
    rfl
  · rw [addX_n (by decide) (by omega)]; exact a1.2.1
  · rw [addX_n (by decide) (by omega)]; exact a1.2.2.1
  · rw [addX_n (by decide) (by omega)]; exact a1.2.2.2.1
  · rw [addX_n (by decide) (by omega)]; exact a1.2.2.2.2 z
  · rw [addX_n (by omega) (by omega)]; exact a7 r i hr
  · rw [addY_n (by omega)]; exact a8.1 r i hr
  · rw [addY_n (by decide)]; exact a8.2.1 i hi
  · rw [addY_70 p8 hi]; exact a8.2.2 i hi
theorem stgD {p : Nat} {a b c : Int32} (h : GdT n N1 N2 T L M1 M2 j) (hp : M2.1 1 0 = J (p : Nat)) (p8 : p < 8) (ha : 0 ≤ a.toInt ∧ a.toInt ≤ 6) (hb : 0 ≤ b.toInt ∧ b.toInt ≤ 99) (hc : 0 ≤ c.toInt ∧ c.toInt ≤ 60) : Itm n N1 N2 T L j (fpX4_readPump_b72 23 a b c (0 : Int32) M1) ((fpX6_word M2).bind fun v11 => (if (lg_cmp v11 (6333843 : Int64)) = 0 then fpX6_pumpItem_b95 a b c (1 : Int32) M2 else fpX6_pumpItem_b95 a b c (0 : Int32) M2)) := by
  obtain ⟨w, v, e1, e2, hw⟩ := wdj (r := 1009) (c := 6333843) h (by decide) (by decide) (by decide +kernel) (by decide) (by decide)
  have tb := te_b (T := T) h.2.2.1
  unfold fpX4_readPump_b72
  rw [e1, e2, Option.bind_some, Option.bind_some]
  rcases hw with ⟨rfl, hv, -⟩ | ⟨rfl, hv⟩
  · rw [if_neg (show ¬ (1 : Int32) = 0 by decide), if_pos (show lg_cmp v (6333843 : Int64) = 0 from hv)]
    obtain ⟨f, X, Y1, Y2, j1, e3, e4, e5, nb, x1, y1, x2, j1L, hf⟩ := rdn (lo := 0) (hi := 11) h (by decide)
    unfold fpX6_pumpItem_b95
    have ep : fpX6_perhaps (1 : Int32) (0 : Int32) (11 : Int32) (0 : Int32) M2 = some (Y2.1 0 18, Y2) := by
      unfold fpX6_perhaps
      rw [if_neg (by decide), e4, Option.bind_some, e5]
      rfl
    rw [e3, Option.bind_some, ep, Option.bind_some]
    dsimp only
    rcases hf with ⟨rfl, k, w1, w2, w3, w4, w5, w6⟩ | ⟨rfl, w1, w2⟩
    · rw [if_neg (show ¬ (1 : Int32) = 0 by decide), if_pos w5, w1, w2]
      unfold letv
      dsimp only
      have tb1 := te_b (T := T) j1L
      have nb2 := nx_b (T := T) j1L
      obtain ⟨N, e6, n1, n2⟩ := next_e x2.1 x2.2.2.2.1 tb1.2.1
      have hG : GdT n N1 N2 T L N Y2 _ := h.fr (fun r i hr => (n1 r i hr).trans (x1 r i hr)) y1 n2 w6 nb2.2 w5
      have w3 : (0 : Int) ≤ k := w3
      have w4 : (k : Int) ≤ 11 := w4
      obtain ⟨X', Y', z1, z2, z3⟩ := stgE (d := J (k : Nat)) hG ((y1.1 1 0 (by decide)).trans hp) p8 ha hb hc (by rw [tJn (by omega)]; omega)
      rw [e6, Option.bind_some, z1, z2]
      exact ⟨1, X', Y', rfl, rfl, Or.inl ⟨rfl, _, by omega, z3⟩⟩
    · rw [if_pos rfl, if_neg (show ¬ Y2.1 0 19 = 0 by rw [w1]; decide)]
      exact ⟨0, X, Y2, rfl, rfl, Or.inr ⟨rfl, w2⟩⟩
  · rw [if_pos rfl, if_neg (show ¬ lg_cmp v (6333843 : Int64) = 0 from hv)]
    unfold fpX6_pumpItem_b95
    have ep : fpX6_perhaps (0 : Int32) (0 : Int32) (11 : Int32) (0 : Int32) M2 = some ((0 : Int32), M2) := by
      unfold fpX6_perhaps
      rw [if_pos rfl]
    rw [ep, Option.bind_some]
    dsimp only
    rw [if_pos h.2.2.2.1]
    obtain ⟨X', Y', z1, z2, z3⟩ := stgE (d := 0) h hp p8 ha hb hc (by decide)
    rw [z1, z2]
    exact ⟨1, X', Y', rfl, rfl, Or.inl ⟨rfl, j, Nat.le_refl _, z3⟩⟩
theorem stgC {p : Nat} {a b : Int32} (h : GdT n N1 N2 T L M1 M2 j) (hp : M2.1 1 0 = J (p : Nat)) (p8 : p < 8) (ha : 0 ≤ a.toInt ∧ a.toInt ≤ 6) (hb : 0 ≤ b.toInt ∧ b.toInt ≤ 99) : Itm n N1 N2 T L j ((fpX4_isWord 1008 M1).bind fun v8 => (if v8 = 0 then fpX4_readPump_b72 23 a b (9 : Int32) (0 : Int32) M1 else (fpX4_readNumber (1 : Int32) (60 : Int32) M1).bind fun q17 => (if q17.1 = 0 then some ((0 : Int32), q17.2) else letv (q17.2.1 34 5) fun v19 => (fpX4_next q17.2).bind fun q20 => fpX4_readPump_b72 23 a b v19 (0 : Int32) q20))) ((fpX6_word M2).bind fun v8 => (if (lg_cmp v8 (7657651 : Int64)) = 0 then fpX6_pumpItem_b69 a b (1 : Int32) M2 else fpX6_pumpItem_b69 a b (0 : Int32) M2)) := by
  obtain ⟨w, v, e1, e2, hw⟩ := wdj (r := 1008) (c := 7657651) h (by decide) (by decide) (by decide +kernel) (by decide) (by decide)
  have tb := te_b (T := T) h.2.2.1
  rw [e1, e2, Option.bind_some, Option.bind_some]
  rcases hw with ⟨rfl, hv, -⟩ | ⟨rfl, hv⟩
  · rw [if_neg (show ¬ (1 : Int32) = 0 by decide), if_pos (show lg_cmp v (7657651 : Int64) = 0 from hv)]
    obtain ⟨f, X, Y1, Y2, j1, e3, e4, e5, nb, x1, y1, x2, j1L, hf⟩ := rdn (lo := 1) (hi := 60) h (by decide)
    unfold fpX6_pumpItem_b69
    have ep : fpX6_perhaps (1 : Int32) (1 : Int32) (60 : Int32) (9 : Int32) M2 = some (Y2.1 0 18, Y2) := by
      unfold fpX6_perhaps
      rw [if_neg (by decide), e4, Option.bind_some, e5]
      rfl
    rw [e3, Option.bind_some, ep, Option.bind_some]
    dsimp only
    rcases hf with ⟨rfl, k, w1, w2, w3, w4, w5, w6⟩ | ⟨rfl, w1, w2⟩
    · rw [if_neg (show ¬ (1 : Int32) = 0 by decide), w1, w2]
      unfold letv
      dsimp only
      have tb1 := te_b (T := T) j1L
      have nb2 := nx_b (T := T) j1L
      obtain ⟨N, e6, n1, n2⟩ := next_e x2.1 x2.2.2.2.1 tb1.2.1
      have hG : GdT n N1 N2 T L N Y2 _ := h.fr (fun r i hr => (n1 r i hr).trans (x1 r i hr)) y1 n2 w6 nb2.2 w5
      have w3 : (1 : Int) ≤ k := w3
      have w4 : (k : Int) ≤ 60 := w4
      rw [e6, Option.bind_some]
      exact (stgD (c := J (k : Nat)) hG ((y1.1 1 0 (by decide)).trans hp) p8 ha hb (by rw [tJn (by omega)]; omega)).mono (by omega)
    · rw [if_pos rfl, b69w w2]
      exact ⟨0, X, Y2, rfl, rfl, Or.inr ⟨rfl, w2⟩⟩
  · rw [if_pos rfl, if_neg (show ¬ lg_cmp v (7657651 : Int64) = 0 from hv)]
    unfold fpX6_pumpItem_b69
    have ep : fpX6_perhaps (0 : Int32) (1 : Int32) (60 : Int32) (9 : Int32) M2 = some ((9 : Int32), M2) := by
      unfold fpX6_perhaps
      rw [if_pos rfl]
    rw [ep, Option.bind_some]
    exact stgD h hp p8 ha hb (by decide)
theorem stgB {p : Nat} {a : Int32} (h : GdT n N1 N2 T L M1 M2 j) (hp : M2.1 1 0 = J (p : Nat)) (p8 : p < 8) (ha : 0 ≤ a.toInt ∧ a.toInt ≤ 6) : Itm n N1 N2 T L (te T L j) (fpX4_readPump 23 a M1) (fpX6_pumpItem_b17 a (1 : Int32) M2) := by
  obtain ⟨A, B, e1, e2, hG⟩ := adv h
  have nb := nx_b (T := T) h.2.2.1
  have hpB : B.1 1 0 = J (p : Nat) := by
    have a5 := h.2.2.2.2.1 0 (by decide)
    have b5 := hG.2.2.2.2.1 0 (by decide)
    obtain ⟨N, e3, n1, n2, n3⟩ := wants1 h.2.1 h.2.2.1 h.2.2.2.1
    rw [e2] at e3
    cases e3
    exact (n1.1 1 0 (by decide)).trans hp
  generalize rq (spT T) L (te T L j) = j1 at hG nb
  obtain ⟨w, v, e3, e4, hw⟩ := wdj (r := 1007) (c := 52) hG (by decide) (by decide) (by decide +kernel) (by decide) (by decide)
  unfold fpX4_readPump fpX6_pumpItem_b17
  rw [e1, Option.bind_some, e3, Option.bind_some, e2, Option.bind_some, e4, Option.bind_some]
  have tb1 := te_b (T := T) hG.2.2.1
  rcases hw with ⟨rfl, hv, -⟩ | ⟨rfl, hv⟩
  · rw [if_neg (show ¬ (1 : Int32) = 0 by decide), if_pos (show lg_cmp v (52 : Int64) = 0 from hv)]
    obtain ⟨f, X, Y1, Y2, j2, e5, e6, e7, nb2, x1, y1, x2, j2L, hf⟩ := rdn (lo := 0) (hi := 99) hG (by decide)
    unfold fpX6_pumpItem_b37
    rw [e5, Option.bind_some, e6, Option.bind_some, e7, Option.bind_some]
    unfold letv
    dsimp only
    rcases hf with ⟨rfl, k, w1, w2, w3, w4, w5, w6⟩ | ⟨rfl, w1, w2⟩
    · rw [if_neg (show ¬ (1 : Int32) = 0 by decide), w1, w2]
      have tb2 := te_b (T := T) j2L
      have nb3 := nx_b (T := T) j2L
      obtain ⟨N, e8, n1, n2⟩ := next_e x2.1 x2.2.2.2.1 tb2.2.1
      have hG2 : GdT n N1 N2 T L N Y2 _ := hG.fr (fun r i hr => (n1 r i hr).trans (x1 r i hr)) y1 n2 w6 nb3.2 w5
      have w3 : (0 : Int) ≤ k := w3
      have w4 : (k : Int) ≤ 99 := w4
      rw [e8, Option.bind_some]
      exact (stgC (b := J (k : Nat)) hG2 ((y1.1 1 0 (by decide)).trans hpB) p8 ha (by rw [tJn (by omega)]; omega)).mono (by omega)
    · rw [if_pos rfl, b37w w2]
      exact ⟨0, X, Y2, rfl, rfl, Or.inr ⟨rfl, w2⟩⟩
  · rw [if_pos rfl, if_neg (show ¬ lg_cmp v (52 : Int64) = 0 from hv)]
    have bd := hG.bad0
    have w0 := wants0 (M := B) hG.2.2.2.1
    have eb : fpX6_pumpItem_b37 a (0 : Int32) B = some (wrM B 0 19 1) := by
      unfold fpX6_pumpItem_b37 letv
      rw [w0, Option.bind_some, numB wrM_eq, Option.bind_some]
      exact b37w bd
    rw [eb]
    exact ⟨0, A, wrM B 0 19 1, rfl, rfl, Or.inr ⟨rfl, bd⟩⟩
def rwK (k : Nat) : Nat := if k = 0 then 1006 else 999 + k
theorem wof_d : ∀ k, k < 7 → fpX4_wordOf (J (k : Nat)) = some (rwK k) := by decide +kernel
def cdK (k : Nat) : Nat := [546224, 136368, 654910919, 21285028, 645974180, 14481302983, 6333908].getD k 0
theorem cdK_d : ∀ k, k < 7 → vl (lst (jschr (rwK k)) (jsl (rwK k))) = cdK k ∧ 0 < cdK k ∧ cdK k ≤ 36028797018963967 ∧ 1000 ≤ rwK k ∧ rwK k < 1014 := by decide +kernel
theorem kind_e (h : GdT n N1 N2 T L M1 M2 j) : ∃ kv, fpX4_kindTold M1 = some kv ∧ fpX6_kindHere M2 = some kv ∧ (kv = (-1 : Int32) ∨ ∃ k : Nat, k < 7 ∧ kv = J (k : Nat) ∧ j < L) := by
  obtain ⟨v, e2, hv⟩ := word_e h.2.1 h.2.2.1 h.2.2.2.1
  have hv : ∀ k, k < 7 → (lg_cmp v (I (cdK k : Nat)) = 0 ↔ Wd T L j (te T L j) (rwK k)) := fun k hk => by
    obtain ⟨c1, c2, c3, c4, c5⟩ := cdK_d k hk
    exact hv (rwK k) (cdK k) c4 c5 c1 c2 c3 (jsl_g c4 c5).2
  obtain ⟨o, er, ho⟩ := lp_ok (step := fpX4_kindTold_l2 M1) (Q := fun o => Sum.elim (fun _ => ∀ k, k < 7 → ¬ Wd T L j (te T L j) (rwK k)) (fun kv => ∃ k : Nat, k < 7 ∧ kv = J (k : Nat) ∧ Wd T L j (te T L j) (rwK k) ∧ ∀ k', k' < k → ¬ Wd T L j (te T L j) (rwK k')) o) (fun i st => st = J (i : Nat) ∧ ∀ k, k < i → ¬ Wd T L j (te T L j) (rwK k)) 7 (by omega) (s := (0 : Int32)) ⟨rfl, fun k hk => absurd hk (Nat.not_lt_zero _)⟩ (by
    intro i st hi hst
    obtain ⟨rfl, x1⟩ := hst
    show ok (fpX4_kindTold_l2s (J (i : Nat)) M1) _
    unfold fpX4_kindTold_l2s
    rcases Nat.lt_or_eq_of_le hi with him | him
    · refine okF (fun z => by have := (ltN (a := 6) (by omega) (by omega)).1 z; omega) (okE (wof_d i him) ?_)
      obtain ⟨-, -, -, c4, c5⟩ := cdK_d i him
      obtain ⟨b, e1, hb⟩ := isW_e h.1 h.2.2.1 c4 c5
      refine okE e1 ?_
      rcases hb with ⟨rfl, hw⟩ | ⟨rfl, hw⟩
      · exact okF (by decide) (okS ⟨i, him, rfl, hw, x1⟩)
      · refine okT rfl (okL (okS ⟨him, J_succ i, fun k hk => ?_⟩))
        rcases Nat.lt_or_eq_of_le (Nat.le_of_lt_succ hk) with z | z
        · exact x1 k z
        · rw [z]; exact hw
    · subst him
      exact okT (by decide) (okS x1))
  have er : lp (fpX4_kindTold_l2 M1) FU (0 : Int32) = some o := er
  unfold fpX4_kindTold fpX6_kindHere
  rw [er, e2, Option.bind_some, Option.bind_some]
  have i0 : lg_cmp v (546224 : Int64) = 0 ↔ Wd T L j (te T L j) (rwK 0) := hv 0 (by decide)
  have i1 : lg_cmp v (136368 : Int64) = 0 ↔ Wd T L j (te T L j) (rwK 1) := hv 1 (by decide)
  have i2 : lg_cmp v (654910919 : Int64) = 0 ↔ Wd T L j (te T L j) (rwK 2) := hv 2 (by decide)
  have i3 : lg_cmp v (21285028 : Int64) = 0 ↔ Wd T L j (te T L j) (rwK 3) := hv 3 (by decide)
  have i4 : lg_cmp v (645974180 : Int64) = 0 ↔ Wd T L j (te T L j) (rwK 4) := hv 4 (by decide)
  have i5 : lg_cmp v (14481302983 : Int64) = 0 ↔ Wd T L j (te T L j) (rwK 5) := hv 5 (by decide)
  have i6 : lg_cmp v (6333908 : Int64) = 0 ↔ Wd T L j (te T L j) (rwK 6) := hv 6 (by decide)
  rcases o with u | kv
  · have ho : ∀ k, k < 7 → ¬ Wd T L j (te T L j) (rwK k) := ho
    refine ⟨-1, rfl, ?_, Or.inl rfl⟩
    rw [if_neg (fun z => ho 0 (by decide) (i0.1 z)), if_neg (fun z => ho 1 (by decide) (i1.1 z)), if_neg (fun z => ho 2 (by decide) (i2.1 z)), if_neg (fun z => ho 3 (by decide) (i3.1 z)), if_neg (fun z => ho 4 (by decide) (i4.1 z)), if_neg (fun z => ho 5 (by decide) (i5.1 z)), if_neg (fun z => ho 6 (by decide) (i6.1 z))]
  · obtain ⟨k, k7, rfl, hw, hn⟩ := ho
    refine ⟨J (k : Nat), rfl, ?_, Or.inr ⟨k, k7, rfl, hw.1.1⟩⟩
    rcases (show k = 0 ∨ k = 1 ∨ k = 2 ∨ k = 3 ∨ k = 4 ∨ k = 5 ∨ k = 6 by omega) with rfl | rfl | rfl | rfl | rfl | rfl | rfl
    · rw [if_pos (i0.2 hw)]
      rfl
    · rw [if_neg (fun z => hn 0 (by decide) (i0.1 z)), if_pos (i1.2 hw)]
      rfl
    · rw [if_neg (fun z => hn 0 (by decide) (i0.1 z)), if_neg (fun z => hn 1 (by decide) (i1.1 z)), if_pos (i2.2 hw)]
      rfl
    · rw [if_neg (fun z => hn 0 (by decide) (i0.1 z)), if_neg (fun z => hn 1 (by decide) (i1.1 z)), if_neg (fun z => hn 2 (by decide) (i2.1 z)), if_pos (i3.2 hw)]
      rfl
    · rw [if_neg (fun z => hn 0 (by decide) (i0.1 z)), if_neg (fun z => hn 1 (by decide) (i1.1 z)), if_neg (fun z => hn 2 (by decide) (i2.1 z)), if_neg (fun z => hn 3 (by decide) (i3.1 z)), if_pos (i4.2 hw)]
      rfl
    · rw [if_neg (fun z => hn 0 (by decide) (i0.1 z)), if_neg (fun z => hn 1 (by decide) (i1.1 z)), if_neg (fun z => hn 2 (by decide) (i2.1 z)), if_neg (fun z => hn 3 (by decide) (i3.1 z)), if_neg (fun z => hn 4 (by decide) (i4.1 z)), if_pos (i5.2 hw)]
      rfl
    · rw [if_neg (fun z => hn 0 (by decide) (i0.1 z)), if_neg (fun z => hn 1 (by decide) (i1.1 z)), if_neg (fun z => hn 2 (by decide) (i2.1 z)), if_neg (fun z => hn 3 (by decide) (i3.1 z)), if_neg (fun z => hn 4 (by decide) (i4.1 z)), if_neg (fun z => hn 5 (by decide) (i5.1 z)), if_pos (i6.2 hw)]
      rfl
end TP
