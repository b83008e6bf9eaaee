/-! Texts: items -/
def FxT (N1 M1 : Me) : Prop := ∀ r i, r < 23 ∨ 35 ≤ r → M1.1 r i = N1.1 r i
def FyT (N2 M2 : Me) : Prop := (∀ r i, 2 ≤ r → M2.1 r i = N2.1 r i) ∧ (∀ i, i < 16 ∨ 20 ≤ i → M2.1 0 i = N2.1 0 i) ∧ ∀ i, 70 ≤ i → M2.1 1 i = N2.1 1 i
def GdT (n : Nat) (N1 N2 : Me) (T : Nat → Int32) (L : Nat) (M1 M2 : Me) (j : Nat) : Prop := tkX T L M1 j (te T L j) ∧ tkY T L M2 j (te T L j) ∧ j ≤ L ∧ M2.1 0 19 = 0 ∧ RE M1 23 M2 1 ∧ RO n (M2.1 1) ∧ FxT N1 M1 ∧ FyT N2 M2
def BdT (N1 N2 : Me) (T : Nat → Int32) (L : Nat) (M1 M2 : Me) : Prop := ∃ j e, j ≤ e ∧ e ≤ L ∧ M1.1 34 3 = J (j : Nat) ∧ tkY T L M2 j e ∧ M2.1 0 19 = 1 ∧ FxT N1 M1 ∧ FyT N2 M2
def Itm (n : Nat) (N1 N2 : Me) (T : Nat → Int32) (L jm : Nat) (x1 : Option (Int32 × Me)) (x2 : Option Me) : Prop := ∃ b X Y, x1 = some (b, X) ∧ x2 = some Y ∧ ((b = 1 ∧ ∃ j', jm ≤ j' ∧ GdT n N1 N2 T L X Y j') ∨ (b = 0 ∧ BdT N1 N2 T L X Y))
section TI
variable {n : Nat} {N1 N2 M1 M2 : Me} {T : Nat → Int32} {L j : Nat}
theorem Itm.mono {jm jm' : Nat} {x1 : Option (Int32 × Me)} {x2 : Option Me} (h : Itm n N1 N2 T L jm x1 x2) (hj : jm' ≤ jm) : Itm n N1 N2 T L jm' x1 x2 := by
  obtain ⟨b, X, Y, e1, e2, h⟩ := h
  refine ⟨b, X, Y, e1, e2, ?_⟩
  rcases h with ⟨h1, j', h2, h3⟩ | h
  · exact Or.inl ⟨h1, j', by omega, h3⟩
  · exact Or.inr h
theorem FxT.t {X : Me} (h : FxT N1 M1) (f : fr34 M1 X) : FxT N1 X := fun r i hr => (f r i (by omega)).trans (h r i hr)
theorem FyT.t {Y : Me} (h : FyT N2 M2) (f : frI M2 Y) : FyT N2 Y := ⟨fun r i hr => (f.1 r i (by omega)).trans (h.1 r i hr), fun i hi => (f.2 i hi).trans (h.2.1 i hi), fun i hi => (f.1 1 i (by decide)).trans (h.2.2 i hi)⟩
theorem GdT.fr {X Y : Me} {j' : Nat} (h : GdT n N1 N2 T L M1 M2 j) (f1 : fr34 M1 X) (f2 : frI M2 Y) (tx : tkX T L X j' (te T L j')) (ty : tkY T L Y j' (te T L j')) (hj : j' ≤ L) (h9 : Y.1 0 19 = 0) : GdT n N1 N2 T L X Y j' := by
  obtain ⟨-, -, -, -, a5, a6, a7, a8⟩ := h
  refine ⟨tx, ty, hj, h9, a5.same (fun d i hd => f1 _ _ (by omega)) (fun i => f2.1 1 i (by decide)), ?_, a7.t f1, a8.t f2⟩
  have : Y.1 1 = M2.1 1 := funext fun i => f2.1 1 i (by decide)
  rw [this]
  exact a6
theorem GdT.bad {X Y : Me} {j' e : Nat} (h : GdT n N1 N2 T L M1 M2 j) (f1 : fr34 M1 X) (f2 : frI M2 Y) (x3 : X.1 34 3 = J (j' : Nat)) (ty : tkY T L Y j' e) (h1 : j' ≤ e) (h2 : e ≤ L) (h9 : Y.1 0 19 = 1) : BdT N1 N2 T L X Y := ⟨j', e, h1, h2, x3, ty, h9, h.2.2.2.2.2.2.1.t f1, h.2.2.2.2.2.2.2.t f2⟩
theorem GdT.bad0 (h : GdT n N1 N2 T L M1 M2 j) : BdT N1 N2 T L M1 (wrM M2 0 19 1) := by
  have tb := te_b (T := T) h.2.2.1
  have f : frI M2 (wrM M2 0 19 1) := frI.w (by decide)
  exact h.bad (fun _ _ _ => rfl) f h.1.2.2.1 ⟨h.2.1.1.fr f, (wrM_nj (by decide)).trans h.2.1.2.1, (wrM_nj (by decide)).trans h.2.1.2.2⟩ tb.1 tb.2.1 wrM_eq
theorem nx_b (hj : j ≤ L) : te T L j ≤ rq (spT T) L (te T L j) ∧ rq (spT T) L (te T L j) ≤ L := by
  have tb := te_b (T := T) hj
  have := rq_b (q := spT T) tb.2.1
  exact ⟨this.1, this.2.1⟩
theorem adv (h : GdT n N1 N2 T L M1 M2 j) : ∃ X Y, fpX4_next M1 = some X ∧ fpX6_wants (1 : Int32) M2 = some Y ∧ GdT n N1 N2 T L X Y (rq (spT T) L (te T L j)) := by
  have tb := te_b (T := T) h.2.2.1
  have nb := nx_b (T := T) h.2.2.1
  obtain ⟨X, e1, x1, x2⟩ := next_e h.1.1 h.1.2.2.2.1 tb.2.1
  obtain ⟨Y, e2, y1, y2, y3⟩ := wants1 h.2.1 h.2.2.1 h.2.2.2.1
  exact ⟨X, Y, e1, e2, h.fr x1 y1 x2 y3 nb.2 ((y2 19 (by decide) (by decide)).trans h.2.2.2.1)⟩
theorem rdn {lo hi : Int32} (h : GdT n N1 N2 T L M1 M2 j) (hh : hi.toInt ≤ 999) : ∃ b X Y1 Y2 j1, fpX4_readNumber lo hi M1 = some (b, X) ∧ fpX6_wants (1 : Int32) M2 = some Y1 ∧ fpX6_number lo hi Y1 = some Y2 ∧ te T L j ≤ j1 ∧ fr34 M1 X ∧ frI M2 Y2 ∧ tkX T L X j1 (te T L j1) ∧ j1 ≤ L ∧ ((b = 1 ∧ ∃ v : Nat, X.1 34 5 = J (v : Nat) ∧ Y2.1 0 18 = J (v : Nat) ∧ lo.toInt ≤ v ∧ (v : Int) ≤ hi.toInt ∧ Y2.1 0 19 = 0 ∧ tkY T L Y2 (rq (spT T) L (te T L j1)) (te T L (rq (spT T) L (te T L j1)))) ∨ (b = 0 ∧ Y2.1 0 19 = 1 ∧ BdT N1 N2 T L X Y2)) := by
  have nb := nx_b (T := T) h.2.2.1
  obtain ⟨b, X, e1, x1, x2, x3⟩ := rdX (lo := lo) (hi := hi) h.1 h.2.2.1 hh
  obtain ⟨Y1, e2, y1, y2, y3⟩ := wants1 h.2.1 h.2.2.1 h.2.2.2.1
  have h9 : Y1.1 0 19 = 0 := (y2 19 (by decide) (by decide)).trans h.2.2.2.1
  generalize rq (spT T) L (te T L j) = j1 at nb x2 x3 y3
  obtain ⟨Y2, e3, z1, z2⟩ := numY (lo := lo) (hi := hi) y3 nb.2 h9
  have tb := te_b (T := T) nb.2
  refine ⟨b, X, Y1, Y2, j1, e1, e2, e3, nb.1, x1, y1.tr z1, x2, nb.2, ?_⟩
  rcases x3 with ⟨b1, c1, c2⟩ | ⟨b0, c1⟩
  · rcases z2 with ⟨w1, w2, w3, w4⟩ | ⟨w1, -⟩
    · exact Or.inl ⟨b1, _, c2, w3, c1.2.1, c1.2.2, w2, w4⟩
    · exact absurd c1 w1
  · rcases z2 with ⟨w1, -⟩ | ⟨w1, w2, w3⟩
    · exact absurd w1 c1
    · exact Or.inr ⟨b0, w2, h.bad x1 (y1.tr z1) x2.2.2.1 w3 tb.1 tb.2.1 w2⟩
theorem wdj {r c : Nat} (h : GdT n N1 N2 T L M1 M2 j) (r1 : 1000 ≤ r) (r2 : r < 1014) (hc : vl (lst (jschr r) (jsl r)) = c) (c0 : 0 < c) (cK : c ≤ 36028797018963967) : ∃ b v, fpX4_isWord r M1 = some b ∧ fpX6_word M2 = some v ∧ ((b = 1 ∧ lg_cmp v (I (c : Nat)) = 0 ∧ j < L) ∨ (b = 0 ∧ ¬ lg_cmp v (I (c : Nat)) = 0)) := by
  obtain ⟨b, e1, h1⟩ := isW_e h.1 h.2.2.1 r1 r2
  obtain ⟨v, e2, h2⟩ := word_e h.2.1 h.2.2.1 h.2.2.2.1
  have iff := h2 r c r1 r2 hc c0 cK (jsl_g r1 r2).2
  refine ⟨b, v, e1, e2, ?_⟩
  rcases h1 with ⟨b1, w⟩ | ⟨b0, w⟩
  · exact Or.inl ⟨b1, iff.2 w, w.1.1⟩
  · exact Or.inr ⟨b0, fun z => w (iff.1 z)⟩
theorem vit {k f : Nat} {lo hi : Int32} (h : GdT n N1 N2 T L M1 M2 j) (hk : k < 70) (hf : rk k = (0, f)) (hh : hi.toInt ≤ 999) (hR : ∀ v : Nat, lo.toInt ≤ v → (v : Int) ≤ hi.toInt → RO n (upd (M2.1 1) k (J (v : Nat)))) : Itm n N1 N2 T L (te T L j) ((fpX4_readNumber lo hi M1).bind fun q => if q.1 = 0 then some ((0 : Int32), q.2) else letv (wrM q.2 23 f (q.2.1 34 5)) fun M13 => (fpX4_next M13).bind fun q14 => some ((1 : Int32), q14)) (fpX6_valueItem (J (k : Nat)) lo hi M2) := by
  obtain ⟨b, X, Y1, Y2, j1, e1, e2, e3, nb, x1, y1, x2, j1L, hc⟩ := rdn (lo := lo) (hi := hi) h hh
  have ep : fpX6_perhaps (1 : Int32) lo hi (0 : Int32) M2 = some (Y2.1 0 18, Y2) := by
    unfold fpX6_perhaps
    rw [if_neg (by decide), e2, Option.bind_some, e3]
    rfl
  unfold fpX6_valueItem
  rw [e1, Option.bind_some, ep, Option.bind_some]
  dsimp only
  rcases hc with ⟨rfl, v, w1, w2, w3, w4, w5, w6⟩ | ⟨rfl, w1, w2⟩
  · rw [if_neg (show ¬ (1 : Int32) = 0 by decide), if_pos w5, inbJ hk (by decide), Option.bind_some, w1, w2]
    unfold letv
    dsimp only
    have tb := te_b (T := T) j1L
    obtain ⟨N, e4, n1, n2⟩ := next_e (T := T) (L := L) (M := wrM X 23 f (J (v : Nat))) (b := te T L j1) (x2.1.same (wrM_nr (by decide)) (fun i => wrM_nr (by decide))) ((wrM_nr (by decide)).trans x2.2.2.2.1) tb.2.1
    have nb2 := nx_b (T := T) j1L
    rw [e4]
    refine ⟨1, N, wrM Y2 1 k (J (v : Nat)), rfl, rfl, Or.inl ⟨rfl, rq (spT T) L (te T L j1), by omega, n2, ⟨w6.1.same (wrM_nr (by decide)) (fun i => wrM_nr (by decide)), (wrM_nr (by decide)).trans w6.2.1, (wrM_nr (by decide)).trans w6.2.2⟩, nb2.2, (wrM_nr (by decide)).trans w5, ?_, ?_, fun r i hr => ?_, fun r i hr => ?_, fun i hi => ?_, fun i hi => ?_⟩⟩
    · have hE : RE X 23 Y2 1 := h.2.2.2.2.1.same (fun d i hd => x1 _ _ (by omega)) (fun i => y1.1 1 i (by decide))
      have := hE.wr (k := k) (v := J (v : Nat)) hk
      rw [hf] at this
      exact this.same (fun d i hd => n1 _ _ (by omega)) (fun _ => rfl)
    · have eY : Y2.1 1 = M2.1 1 := funext fun i => y1.1 1 i (by decide)
      rw [wr_1, eY]
      exact hR v w3 w4
    · rw [n1 r i (by omega), wrM_nr (by omega), x1 r i (by omega)]
      exact h.2.2.2.2.2.2.1 r i hr
    · rw [wrM_nr (by omega), y1.1 r i (by omega)]
      exact h.2.2.2.2.2.2.2.1 r i hr
    · rw [wrM_nr (by decide), y1.2 i hi]
      exact h.2.2.2.2.2.2.2.2.1 i hi
    · rw [wrM_nj (by omega), y1.1 1 i (by decide)]
      exact h.2.2.2.2.2.2.2.2.2 i hi
  · rw [if_pos rfl, if_neg (show ¬ Y2.1 0 19 = 0 by rw [w1]; decide)]
    exact ⟨0, X, Y2, rfl, rfl, Or.inr ⟨rfl, w2⟩⟩
-- a wrong text: nothing more is done
theorem BdT.w (h : BdT N1 N2 T L M1 M2) : fpX6_word M2 = some 0 := by
  obtain ⟨j', e, h1, h2, -, h4, h5, -⟩ := h
  exact wordB h4 h1 h2 h5
theorem BdT.w9 (h : BdT N1 N2 T L M1 M2) : M2.1 0 19 = 1 := by
  obtain ⟨j', e, h1, h2, -, h4, h5, -⟩ := h
  exact h5
theorem lg0 {c : Nat} (c0 : 0 < c) (cK : c ≤ 36028797018963967) : ¬ lg_cmp (0 : Int64) (I (c : Nat)) = 0 := fun z => by
  rw [lgeq] at z
  have z : I ((0 : Nat) : Int) = I (c : Nat) := z
  rw [← Int64.toInt_inj, tI (by omega) (by omega), tI (by omega) (by omega)] at z
  omega
theorem b95B {a b c : Int32} (h : BdT N1 N2 T L M1 M2) : fpX6_pumpItem_b95 a b c (0 : Int32) M2 = some M2 := by
  unfold fpX6_pumpItem_b95 fpX6_perhaps
  rw [if_pos rfl, Option.bind_some]
  dsimp only
  rw [if_neg (show ¬ M2.1 0 19 = 0 by rw [h.w9]; decide)]
theorem b69w {a b g : Int32} (h : BdT N1 N2 T L M1 M2) : ((fpX6_word M2).bind fun v11 => (if (lg_cmp v11 (6333843 : Int64)) = 0 then fpX6_pumpItem_b95 a b g (1 : Int32) M2 else fpX6_pumpItem_b95 a b g (0 : Int32) M2)) = some M2 := by
  rw [h.w, Option.bind_some, if_neg (show ¬ lg_cmp (0 : Int64) (6333843 : Int64) = 0 by decide)]
  exact b95B h
theorem b69B {a b : Int32} (h : BdT N1 N2 T L M1 M2) : fpX6_pumpItem_b69 a b (0 : Int32) M2 = some M2 := by
  unfold fpX6_pumpItem_b69
  have ep : fpX6_perhaps (0 : Int32) (1 : Int32) (60 : Int32) (9 : Int32) M2 = some ((9 : Int32), M2) := by
    unfold fpX6_perhaps
    rw [if_pos rfl]
  rw [ep, Option.bind_some]
  exact b69w h
theorem b37w {a b : Int32} (h : BdT N1 N2 T L M1 M2) : ((fpX6_word M2).bind fun v8 => (if (lg_cmp v8 (7657651 : Int64)) = 0 then fpX6_pumpItem_b69 a b (1 : Int32) M2 else fpX6_pumpItem_b69 a b (0 : Int32) M2)) = some M2 := by
  rw [h.w, Option.bind_some, if_neg (show ¬ lg_cmp (0 : Int64) (7657651 : Int64) = 0 by decide)]
  exact b69B h
theorem b37B {a : Int32} {t : Int32} (h : BdT N1 N2 T L M1 M2) : fpX6_pumpItem_b37 a t M2 = some M2 := by
  unfold fpX6_pumpItem_b37 letv
  rw [wantsB h.w9, Option.bind_some, numB h.w9, Option.bind_some]
  exact b37w h
end TI
