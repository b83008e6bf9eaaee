/-! Texts: the call -/
section TZ
variable {n : Nat} {N1 N2 M1 M2 : Me} {T : Nat → Int32} {L j : Nat}
theorem Itm.bs {jm : Nat} {x1 : Option (Int32 × Me)} {x2 : Option Me} (h : Itm n N1 N2 T L jm x1 x2) : Itm n N1 N2 T L jm x1 (x2.bind fun q => some q) := by
  obtain ⟨b, X, Y, e1, e2, h⟩ := h
  rw [e2]
  exact ⟨b, X, Y, e1, rfl, h⟩
theorem item_e (h : GdT n N1 N2 T L M1 M2 j) : Itm n N1 N2 T L (j + 1) (fpX4_readItem 23 M1) (fpX6_item M2) := by
  obtain ⟨kv, e1, e2, hk⟩ := kind_e h
  have tb := te_b (T := T) h.2.2.1
  have hE := h.2.2.2.2.1
  have hO := h.2.2.2.2.2.1
  have k0 := hO.k0
  have k2 := hO.k2
  have k8 := hO.k8
  unfold fpX4_readItem fpX6_item
  rw [e1, e2, Option.bind_some, Option.bind_some]
  rcases hk with rfl | ⟨k, k7, rfl, jL⟩
  · rw [if_pos (show (-1 : Int32) = -1 from rfl), if_pos (show (-1 : Int32) < 0 by decide)]
    obtain ⟨b1, v1, e3, e4, h1⟩ := wdj (r := 1010) (c := 605677) h (by decide) (by decide) (by decide +kernel) (by decide) (by decide)
    rw [e3, e4, Option.bind_some, Option.bind_some]
    rcases h1 with ⟨rfl, c1, jL⟩ | ⟨rfl, c1⟩
    · rw [if_neg (show ¬ (1 : Int32) = 0 by decide), if_pos (show lg_cmp v1 (605677 : Int64) = 0 from c1)]
      have w8 : M2.1 1 8 = J (vn (M2.1 1) 8 : Nat) := vn_J k8.1
      have w9 : vn (M2.1 1) 8 ≤ 999 := by unfold vn; omega
      have el : fpX2_leastRoom 23 M1 = J (max 1 (vn (M2.1 1) 8) : Nat) := by
        unfold fpX2_leastRoom
        rw [show M1.1 23 4 = J (vn (M2.1 1) 8 : Nat) from (hE 8 (by decide)).trans w8]
        exact maxN (a := 1) (by omega) (by omega)
      have tl : (J (max 1 (vn (M2.1 1) 8) : Nat)).toInt = (max 1 (vn (M2.1 1) 8) : Nat) := tJn (by omega)
      have it := vit (k := 2) (f := 6) (lo := J (max 1 (vn (M2.1 1) 8) : Nat)) (hi := 999) h (by decide) (by decide) (by decide) (fun v a1 a2 => by
        rw [tl] at a1
        have a2 : (v : Int) ≤ 999 := a2
        have ev : (J (v : Nat)).toInt = v := tJn (by omega)
        refine hO.up2 (Nat.le_refl n) (by rw [ev]; omega) (by rw [ev]; exact a2) ?_
        rw [ev]
        have : (M2.1 1 8).toInt = (vn (M2.1 1) 8 : Nat) := by unfold vn; omega
        omega)
      have it := (it.mono (show j + 1 ≤ te T L j by have := tb.2.2 jL; omega)).bs
      rw [el]
      unfold fpX6_item_b52
      by_cases c2 : vn (M2.1 1) 8 ≤ 1
      · rw [if_pos (show M2.1 1 8 ≤ (1 : Int32) by rw [w8]; exact (leN (b := 1) (by omega) (by omega)).2 c2)]
        rw [show max 1 (vn (M2.1 1) 8) = 1 by omega] at it ⊢
        exact it
      · rw [if_neg (show ¬ M2.1 1 8 ≤ (1 : Int32) by rw [w8]; exact fun z => c2 ((leN (b := 1) (by omega) (by omega)).1 z)), w8]
        rw [show max 1 (vn (M2.1 1) 8) = vn (M2.1 1) 8 by omega] at it ⊢
        exact it
    · rw [if_pos (show (0 : Int32) = 0 from rfl), if_neg (show ¬ lg_cmp v1 (605677 : Int64) = 0 from c1)]
      obtain ⟨b2, v2, e5, e6, h2⟩ := wdj (r := 1011) (c := 654619027) h (by decide) (by decide) (by decide +kernel) (by decide) (by decide)
      rw [e4] at e6
      cases e6
      rw [e5, Option.bind_some, Option.bind_some]
      rcases h2 with ⟨rfl, c2, jL⟩ | ⟨rfl, c2⟩
      · rw [if_neg (show ¬ (1 : Int32) = 0 by decide), if_pos (show lg_cmp v1 (654619027 : Int64) = 0 from c2)]
        have it := vit (k := 3) (f := 7) (lo := 0) (hi := 99) h (by decide) (by decide) (by decide) (fun v a1 a2 => by
          have a2 : (v : Int) ≤ 99 := a2
          have ev : (J (v : Nat)).toInt = v := tJn (by omega)
          exact hO.up (Nat.le_refl n) (by decide) (by decide) (by rw [ev]; show (0 : Int) ≤ _; omega) (by rw [ev]; exact a2))
        exact (it.mono (show j + 1 ≤ te T L j by have := tb.2.2 jL; omega)).bs
      · rw [if_pos (show (0 : Int32) = 0 from rfl), if_neg (show ¬ lg_cmp v1 (654619027 : Int64) = 0 from c2)]
        obtain ⟨b3, v3, e7, e8, h3⟩ := wdj (r := 1012) (c := 24170674) h (by decide) (by decide) (by decide +kernel) (by decide) (by decide)
        rw [e4] at e8
        cases e8
        rw [e7, Option.bind_some, Option.bind_some]
        rcases h3 with ⟨rfl, c3, jL⟩ | ⟨rfl, c3⟩
        · rw [if_neg (show ¬ (1 : Int32) = 0 by decide), if_pos (show lg_cmp v1 (24170674 : Int64) = 0 from c3), show M1.1 23 6 = M2.1 1 2 from hE 2 (by decide)]
          have it := vit (k := 8) (f := 4) (lo := 0) (hi := M2.1 1 2) h (by decide) (by decide) k2.2 (fun v a1 a2 => by
            have ev : (J (v : Nat)).toInt = v := tJn (by omega)
            exact hO.up (Nat.le_refl n) (by decide) (by decide) (by rw [ev]; show (0 : Int) ≤ _; omega) (by rw [ev]; exact a2))
          exact (it.mono (show j + 1 ≤ te T L j by have := tb.2.2 jL; omega)).bs
        · rw [if_pos (show (0 : Int32) = 0 from rfl), if_neg (show ¬ lg_cmp v1 (24170674 : Int64) = 0 from c3)]
          obtain ⟨b4, v4, e9, e10, h4⟩ := wdj (r := 1013) (c := 4915371284) h (by decide) (by decide) (by decide +kernel) (by decide) (by decide)
          rw [e4] at e10
          cases e10
          rw [e9, Option.bind_some, Option.bind_some]
          rcases h4 with ⟨rfl, c4, jL⟩ | ⟨rfl, c4⟩
          · rw [if_neg (show ¬ (1 : Int32) = 0 by decide), if_pos (show lg_cmp v1 (4915371284 : Int64) = 0 from c4)]
            have it := vit (k := 4) (f := 8) (lo := 0) (hi := 9) h (by decide) (by decide) (by decide) (fun v a1 a2 => by
              have a2 : (v : Int) ≤ 9 := a2
              have ev : (J (v : Nat)).toInt = v := tJn (by omega)
              exact hO.up (Nat.le_refl n) (by decide) (by decide) (by rw [ev]; show (0 : Int) ≤ _; omega) (by rw [ev]; exact a2))
            exact (it.mono (show j + 1 ≤ te T L j by have := tb.2.2 jL; omega)).bs
          · rw [if_pos (show (0 : Int32) = 0 from rfl), if_neg (show ¬ lg_cmp v1 (4915371284 : Int64) = 0 from c4), wants0 h.2.2.2.1]
            exact ⟨0, M1, wrM M2 0 19 1, rfl, rfl, Or.inr ⟨rfl, h.bad0⟩⟩
  · rw [if_neg (enc_ne (show k < 1000000 by omega)), if_neg (show ¬ J (k : Nat) < (0 : Int32) from fun z => by have := (ltN (b := 0) (by omega) (by omega)).1 z; omega)]
    have hp : M2.1 1 0 = J (vn (M2.1 1) 0 : Nat) := vn_J k0.1
    have p9 : vn (M2.1 1) 0 ≤ 8 := by unfold vn; omega
    have hx : M1.1 23 2 = J (vn (M2.1 1) 0 : Nat) := (hE 0 (by decide)).trans hp
    have hkb : 0 ≤ (J (k : Nat)).toInt ∧ (J (k : Nat)).toInt ≤ 6 := by rw [tJn (by omega)]; omega
    unfold fpX2_isFull fpX6_pumpItem
    rw [hx, hp]
    by_cases c : vn (M2.1 1) 0 < 8
    · rw [if_pos (show J (vn (M2.1 1) 0 : Nat) < (8 : Int32) from (ltN (b := 8) (by omega) (by omega)).2 c), if_pos (show (0 : Int32) = 0 from rfl), if_neg (show ¬ (8 : Int32) ≤ J (vn (M2.1 1) 0 : Nat) from fun z => by have := (leN (a := 8) (by omega) (by omega)).1 z; omega)]
      obtain ⟨b, X, Y, e3, e4, h5⟩ := stgB (a := J (k : Nat)) h hp c hkb
      rw [e3, e4, Option.bind_some, Option.bind_some]
      have lt := tb.2.2 jL
      rcases h5 with ⟨rfl, j', h6, h7⟩ | ⟨rfl, h6⟩
      · exact ⟨1, X, Y, by rw [if_neg (show ¬ (1 : Int32) = 0 by decide)], rfl, Or.inl ⟨rfl, j', by omega, h7⟩⟩
      · exact ⟨0, X, Y, by rw [if_pos (show (0 : Int32) = 0 from rfl)], rfl, Or.inr ⟨rfl, h6⟩⟩
    · rw [if_neg (show ¬ J (vn (M2.1 1) 0 : Nat) < (8 : Int32) from fun z => c ((ltN (b := 8) (by omega) (by omega)).1 z)), if_neg (show ¬ (1 : Int32) = 0 by decide), if_pos (show (8 : Int32) ≤ J (vn (M2.1 1) 0 : Nat) from (leN (a := 8) (by omega) (by omega)).2 (by omega))]
      have bd := h.bad0
      have e5 : fpX6_pumpItem_b17 (J (k : Nat)) (0 : Int32) M2 = some (wrM M2 0 19 1) := by
        unfold fpX6_pumpItem_b17
        rw [wants0 h.2.2.2.1, Option.bind_some, bd.w, Option.bind_some, if_neg (show ¬ lg_cmp (0 : Int64) (52 : Int64) = 0 by decide)]
        exact b37B bd
      rw [e5]
      exact ⟨0, M1, wrM M2 0 19 1, rfl, rfl, Or.inr ⟨rfl, bd⟩⟩
theorem itemB (h : BdT N1 N2 T L M1 M2) : fpX6_item M2 = some M2 := by
  have e1 : fpX6_kindHere M2 = some (-1 : Int32) := by
    unfold fpX6_kindHere
    rw [h.w, Option.bind_some, if_neg (show ¬ lg_cmp (0 : Int64) (546224 : Int64) = 0 by decide), if_neg (show ¬ lg_cmp (0 : Int64) (136368 : Int64) = 0 by decide), if_neg (show ¬ lg_cmp (0 : Int64) (654910919 : Int64) = 0 by decide), if_neg (show ¬ lg_cmp (0 : Int64) (21285028 : Int64) = 0 by decide), if_neg (show ¬ lg_cmp (0 : Int64) (645974180 : Int64) = 0 by decide), if_neg (show ¬ lg_cmp (0 : Int64) (14481302983 : Int64) = 0 by decide), if_neg (show ¬ lg_cmp (0 : Int64) (6333908 : Int64) = 0 by decide)]
  unfold fpX6_item
  rw [e1, Option.bind_some, if_pos (show (-1 : Int32) < 0 by decide), h.w, Option.bind_some, if_neg (show ¬ lg_cmp (0 : Int64) (605677 : Int64) = 0 by decide), Option.bind_some, if_neg (show ¬ lg_cmp (0 : Int64) (654619027 : Int64) = 0 by decide), Option.bind_some, if_neg (show ¬ lg_cmp (0 : Int64) (24170674 : Int64) = 0 by decide), Option.bind_some, if_neg (show ¬ lg_cmp (0 : Int64) (4915371284 : Int64) = 0 by decide), wantsB h.w9]
  rfl
theorem lp_l {σ ρ : Type} {step : σ → Option (σ ⊕ ρ)} {f : Nat} {s s' : σ} (h : step s = some (.inl s')) : lp step (f + 1) s = lp step f s' := by
  unfold lp
  rw [h]
  cases f with
  | zero => rfl
  | succ k => rfl
theorem lp_r {σ ρ : Type} {step : σ → Option (σ ⊕ ρ)} {f : Nat} {s : σ} {r : ρ} (h : step s = some (.inr r)) : lp step (f + 1) s = some r := by
  unfold lp
  rw [h]
  rfl
def FinT (n : Nat) (N1 N2 : Me) (T : Nat → Int32) (L : Nat) (r1 : Me ⊕ (Int32 × Me)) (r2 : Int32 × Me) : Prop := ∃ v X, r1 = Sum.inr (v, X) ∧ ((∃ i : Nat, 1 ≤ i ∧ i ≤ 120 ∧ v = J (i : Nat) ∧ r2.1 = J (i : Nat) ∧ ∃ j, GdT n N1 N2 T L X r2.2 j) ∨ (BdT N1 N2 T L X r2.2 ∧ v = (-1 : Int32) - X.1 34 3))
theorem txl : ∀ (d f1 f2 i : Nat) (M1 M2 : Me) (j : Nat), L - j ≤ d → d < f1 → d + 1 < f2 → 1 ≤ i → i ≤ 120 → i ≤ j + 1 → GdT n N1 N2 T L M1 M2 j → ∃ M2' r1 r2, fpX6_item M2 = some M2' ∧ lp (fpX4_readOnto_l11 23) f1 (J (i : Nat), M1) = some r1 ∧ lp fpX6_text_l24 f2 (J (i : Nat), M2') = some r2 ∧ FinT n N1 N2 T L r1 r2 := by
  intro d
  induction d with
  | zero =>
    intro f1 f2 i M1 M2 j hd h1 h2 i1 i2 i3 h
    obtain ⟨g1, rfl⟩ : ∃ g, f1 = g + 1 := ⟨f1 - 1, by omega⟩
    obtain ⟨g2, rfl⟩ : ∃ g, f2 = g + 1 := ⟨f2 - 1, by omega⟩
    obtain ⟨b, X, Y, e1, e2, hb⟩ := item_e h
    have jl := h.2.2.1
    rcases hb with ⟨rfl, j', h5, h6⟩ | ⟨rfl, h5⟩
    · have := h6.2.2.1
      omega
    · have s1 : fpX4_readOnto_l11 23 (J (i : Nat), M1) = some (.inr (.inr ((-1 : Int32) - X.1 34 3, X))) := by
        show fpX4_readOnto_l11s 23 (J (i : Nat)) M1 = _
        unfold fpX4_readOnto_l11s
        rw [if_neg (fun z => by have := (ltN (a := 120) (by omega) (by omega)).1 z; omega), e1, Option.bind_some, if_pos rfl]
      have s2 : fpX6_text_l24 (J (i : Nat), Y) = some (.inr (J (i : Nat), Y)) := by
        show fpX6_text_l24s (J (i : Nat)) Y = _
        unfold fpX6_text_l24s
        rw [if_neg (show ¬ Y.1 0 19 = 0 by rw [h5.w9]; decide)]
      exact ⟨Y, _, _, e2, lp_r s1, lp_r s2, _, X, rfl, Or.inr ⟨h5, rfl⟩⟩
  | succ d ih =>
    intro f1 f2 i M1 M2 j hd h1 h2 i1 i2 i3 h
    obtain ⟨g1, rfl⟩ : ∃ g, f1 = g + 1 := ⟨f1 - 1, by omega⟩
    obtain ⟨g2, rfl⟩ : ∃ g, f2 = g + 1 := ⟨f2 - 1, by omega⟩
    obtain ⟨b, X, Y, e1, e2, hb⟩ := item_e h
    have jl := h.2.2.1
    have L1 := h.1.1.1
    have i120 : ¬ (120 : Int32) < J (i : Nat) := fun z => by have := (ltN (a := 120) (by omega) (by omega)).1 z; omega
    rcases hb with ⟨rfl, j1, h5, h6⟩ | ⟨rfl, h5⟩
    · have j1L := h6.2.2.1
      have kl := kd_lt (T := T) (L := L) (j := j1)
      obtain ⟨tx, ty, -, y9, -⟩ := id h6
      have tb1 := te_b (T := T) j1L
      by_cases c3 : L ≤ j1
      · have ek : kd T L j1 = 3 := by unfold kd; rw [if_pos c3]
        have s1 : fpX4_readOnto_l11 23 (J (i : Nat), M1) = some (.inr (.inr (J (i : Nat), X))) := by
          show fpX4_readOnto_l11s 23 (J (i : Nat)) M1 = _
          unfold fpX4_readOnto_l11s
          rw [if_neg i120, e1, Option.bind_some, if_neg (show ¬ (1 : Int32) = 0 by decide), if_pos (show X.1 34 2 = (3 : Int32) by rw [tx.2.1, ek]; rfl)]
        have s2 : fpX6_text_l24 (J (i : Nat), Y) = some (.inr (J (i : Nat), Y)) := by
          show fpX6_text_l24s (J (i : Nat)) Y = _
          unfold fpX6_text_l24s
          rw [if_pos y9, ty.1.2.1, ty.2.1, if_pos ((leN (by omega) (by omega)).2 c3)]
        exact ⟨Y, _, _, e2, lp_r s1, lp_r s2, _, X, rfl, Or.inl ⟨i, i1, i2, rfl, rfl, j1, h6⟩⟩
      · have k3 : ¬ kd T L j1 = 3 := fun z => by
          unfold kd at z
          rw [if_neg c3] at z
          by_cases q1 : ltT T j1 = true
          · rw [if_pos q1] at z; omega
          · rw [if_neg q1] at z
            by_cases q2 : dgT T j1 = true
            · rw [if_pos q2] at z; omega
            · rw [if_neg q2] at z
              by_cases q3 : T j1 = 59
              · rw [if_pos q3] at z; omega
              · rw [if_neg q3] at z; omega
        have n3 : ¬ X.1 34 2 = (3 : Int32) := fun z => by
          rw [tx.2.1] at z
          exact k3 ((eqN (b := 3) (by omega) (by omega)).1 z)
        have ll : ¬ J (L : Nat) ≤ J (j1 : Nat) := fun z => c3 ((leN (by omega) (by omega)).1 z)
        have eb : fpX6_byteAt (J (j1 : Nat)) Y = some (T j1) := by rw [bytY ty.1 (by omega), if_pos (by omega)]
        by_cases c59 : T j1 = 59
        · have ek : kd T L j1 = 2 := by
            have q1 : ¬ ltT T j1 = true := by unfold ltT; rw [c59]; decide
            have q2 : ¬ dgT T j1 = true := by unfold dgT; rw [c59]; decide
            unfold kd
            rw [if_neg c3, if_neg q1, if_neg q2, if_pos c59]
          obtain ⟨X2, Y2, e3, e4, hG⟩ := adv h6
          have nb := nx_b (T := T) j1L
          have lt1 := tb1.2.2 (by omega)
          obtain ⟨Y3, r1, r2, e5, e6, e7, hF⟩ := ih g1 g2 (i + 1) X2 Y2 (rq (spT T) L (te T L j1)) (by omega) (by omega) (by omega) (by omega) (by omega) (by omega) hG
          have s1 : fpX4_readOnto_l11 23 (J (i : Nat), M1) = some (.inl (J ((i + 1 : Nat) : Int), X2)) := by
            show fpX4_readOnto_l11s 23 (J (i : Nat)) M1 = _
            unfold fpX4_readOnto_l11s letv
            rw [if_neg i120, e1, Option.bind_some, if_neg (show ¬ (1 : Int32) = 0 by decide)]
            dsimp only
            rw [if_neg n3, if_pos (show X.1 34 2 = (2 : Int32) by rw [tx.2.1, ek]; rfl), e3, Option.bind_some, J_succ]
          have s2 : fpX6_text_l24 (J (i : Nat), Y) = some (.inl (J ((i + 1 : Nat) : Int), Y3)) := by
            show fpX6_text_l24s (J (i : Nat)) Y = _
            unfold fpX6_text_l24s letv
            rw [if_pos y9, ty.1.2.1, ty.2.1, if_neg ll, eb, Option.bind_some, if_pos c59, e4, Option.bind_some, e5, Option.bind_some, J_succ]
          exact ⟨Y, r1, r2, e2, (lp_l s1).trans e6, (lp_l s2).trans e7, hF⟩
        · have n2 : ¬ X.1 34 2 = (2 : Int32) := fun z => by
            rw [tx.2.1] at z
            have z := (eqN (b := 2) (by omega) (by omega)).1 z
            unfold kd at z
            rw [if_neg c3] at z
            by_cases q1 : ltT T j1 = true
            · rw [if_pos q1] at z; omega
            · rw [if_neg q1] at z
              by_cases q2 : dgT T j1 = true
              · rw [if_pos q2] at z; omega
              · rw [if_neg q2, if_neg c59] at z
                omega
          have bd := h6.bad0
          obtain ⟨g3, rfl⟩ : ∃ g, g2 = g + 1 := ⟨g2 - 1, by omega⟩
          have s1 : fpX4_readOnto_l11 23 (J (i : Nat), M1) = some (.inr (.inr ((-1 : Int32) - X.1 34 3, X))) := by
            show fpX4_readOnto_l11s 23 (J (i : Nat)) M1 = _
            unfold fpX4_readOnto_l11s
            rw [if_neg i120, e1, Option.bind_some, if_neg (show ¬ (1 : Int32) = 0 by decide)]
            dsimp only
            rw [if_neg n3, if_neg n2]
          have s2 : fpX6_text_l24 (J (i : Nat), Y) = some (.inl (J ((i + 1 : Nat) : Int), wrM Y 0 19 1)) := by
            show fpX6_text_l24s (J (i : Nat)) Y = _
            unfold fpX6_text_l24s letv
            rw [if_pos y9, ty.1.2.1, ty.2.1, if_neg ll, eb, Option.bind_some, if_neg c59, wants0 y9, Option.bind_some, itemB bd, Option.bind_some, J_succ]
          have s3 : fpX6_text_l24 (J ((i + 1 : Nat) : Int), wrM Y 0 19 1) = some (.inr (J ((i + 1 : Nat) : Int), wrM Y 0 19 1)) := by
            show fpX6_text_l24s (J ((i + 1 : Nat) : Int)) (wrM Y 0 19 1) = _
            unfold fpX6_text_l24s
            rw [if_neg (show ¬ (wrM Y 0 19 1).1 0 19 = 0 by rw [wrM_eq]; decide)]
          exact ⟨Y, _, _, e2, lp_r s1, (lp_l s2).trans (lp_r s3), _, X, rfl, Or.inr ⟨bd, rfl⟩⟩
    · have s1 : fpX4_readOnto_l11 23 (J (i : Nat), M1) = some (.inr (.inr ((-1 : Int32) - X.1 34 3, X))) := by
        show fpX4_readOnto_l11s 23 (J (i : Nat)) M1 = _
        unfold fpX4_readOnto_l11s
        rw [if_neg i120, e1, Option.bind_some, if_pos rfl]
      have s2 : fpX6_text_l24 (J (i : Nat), Y) = some (.inr (J (i : Nat), Y)) := by
        show fpX6_text_l24s (J (i : Nat)) Y = _
        unfold fpX6_text_l24s
        rw [if_neg (show ¬ Y.1 0 19 = 0 by rw [h5.w9]; decide)]
      exact ⟨Y, _, _, e2, lp_r s1, lp_r s2, _, X, rfl, Or.inr ⟨h5, rfl⟩⟩
end TZ
theorem Rr.tx {n : Nat} {M1 M2 N1 N2 : Me} (R : Rr n M1 M2) (f1 : ∀ r i, (12 ≤ r ∧ r < 23) ∨ r = 0 ∨ 35 ≤ r → N1.1 r i = M1.1 r i) (f2 : ∀ r i, r = 2 ∨ r = 4 ∨ (11 ≤ r ∧ r < 15) → N2.1 r i = M2.1 r i) (f4 : N2.1 0 4 = M2.1 0 4) (h1 : N1.1 34 1 = 0) (h2 : N2.1 0 15 = 0) (hE : RE N1 1 N2 1) (hO : RO n (N2.1 1)) : Rr n N1 N2 := by
  obtain ⟨⟨-, ⟨a2, a2'⟩, a3, ⟨a4, a4', a4''⟩, a5, a6, a7⟩, -⟩ := R
  refine ⟨⟨hE, ⟨?_, ?_⟩, ?_, ⟨?_, ?_, ?_⟩, ?_, ?_, ?_⟩, hO⟩
  · rw [f1 0 3 (by omega), f4]; exact a2
  · rw [f4]; exact a2'
  · rw [f4]
    intro z
    exact ⟨(a3 z).1.same (fun d i hd => f1 _ _ (by omega)) (fun i => f2 2 i (by omega)), (a3 z).2.same (fun k => f2 2 k (by omega))⟩
  · rw [h1, h2]
  · rw [h2]; decide
  · intro i hi
    rw [f1 35 i (by omega), f2 11 i (by omega)]; exact a4'' i hi
  · intro s hs
    obtain ⟨b1, b2, b3, b4⟩ := a5 s hs
    refine ⟨?_, ?_, ?_, fun i hi => ?_⟩
    · rw [f1 _ _ (by omega), f2 _ _ (by omega)]; exact b1
    · rw [f1 _ _ (by omega), f2 _ _ (by omega)]; exact b2
    · rw [f2 _ _ (by omega)]; exact b3
    · rw [f1 _ _ (by omega), f2 _ _ (by omega)]; exact b4 i hi
  · intro i hi
    rw [f1 _ _ (by omega), f2 _ _ (by omega)]; exact a6 i hi
  · intro S hS l hl hb
    rw [f1 _ _ (by omega)]; exact a7 S hS l hl hb
theorem s34 : sim34 Rr := by
  intro n M1 M2 hn R
  show SM n _ _
  unfold fpX5_text fpX6_text
  obtain ⟨t1, t2, t3⟩ := R.1.2.2.2.1
  have hb1 : ∀ (X Y : Me) (r : Nat), RE X r Y 1 → RO n (Y.1 1) → ∀ p, p < 8 → X.1 (r + 3 + p) 5 = 0 ∨ X.1 (r + 3 + p) 5 = 1 := fun X Y r hE hO p hp => by
    rw [hE.p hp (w := 5) (by decide)]
    exact b01 (hO.p hp (w := 5) (by decide))
  have eA := tk_e (a := 23) (b := 1) (M := M1) (by omega) (hb1 M1 M2 1 R.1.1 R.2)
  have fA : ∀ r i, r < 23 ∨ 34 ≤ r → (tk 23 1 M1).1 r i = M1.1 r i := fun r i hr => tk_fr (by omega)
  have hEA : ∀ k, k < 70 → (tk 23 1 M1).1 (23 + (rk k).1) (rk k).2 = M2.1 1 k := fun k hk => (tk_rk hk).trans (R.1.1 k hk)
  generalize tk 23 1 M1 = A at eA fA hEA
  have c3 : ∀ i, i < 70 → (cpY 3 1 70 M2).1 3 i = M2.1 1 i := fun i hi => if_pos ⟨rfl, hi⟩
  have cn : ∀ r i, r ≠ 3 → (cpY 3 1 70 M2).1 r i = M2.1 r i := fun r i hr => if_neg (fun z => hr z.1)
  have eB := puts_e (M := M2)
  generalize cpY 3 1 70 M2 = B at eB c3 cn
  have hL : M2.1 0 15 = J (vn (M2.1 0) 15 : Nat) := vn_J t2.1
  have L1 : vn (M2.1 0) 15 ≤ 120 := by unfold vn; omega
  generalize vn (M2.1 0) 15 = L at hL L1
  -- the first token
  have bX : baX (M2.1 11) L (wrM A 34 4 0) := ⟨L1, by rw [wrM_nj (by decide), fA 34 1 (by omega), t1, hL], fun i hi => by rw [wrM_nr (by decide), fA 35 i (by omega)]; exact t3 i hi⟩
  obtain ⟨X0, e1, x1, x2⟩ := next_e (b := 0) bX wrM_eq (Nat.zero_le _)
  have bY : baY (M2.1 11) L (wrM (wrM B 0 17 0) 0 19 0) := ⟨L1, by rw [wrM_nj (by decide), wrM_nj (by decide), cn 0 15 (by decide)]; exact hL, fun i hi => by rw [wrM_nr (by decide), wrM_nr (by decide), cn 11 i (by decide)]⟩
  obtain ⟨Y0, e2, y1, y2, y3⟩ := token_e (b := 0) bY (by rw [wrM_nj (by decide)]; exact wrM_eq) (Nat.zero_le _)
  have jb := rq_b (q := spT (M2.1 11)) (L := L) (k := 0) (Nat.zero_le _)
  generalize rq (spT (M2.1 11)) L 0 = j0 at x2 y3 jb
  have y1' : ∀ i, Y0.1 1 i = M2.1 1 i := fun i => by rw [y1 1 i (by decide), wrM_nr (by decide), wrM_nr (by decide), cn 1 i (by decide)]
  have hG : GdT n A B (M2.1 11) L X0 Y0 j0 := by
    refine ⟨x2, y3, jb.2.1, ?_, fun k hk => ?_, ?_, fun r i hr => ?_, fun r i hr => ?_, fun i hi => ?_, fun i hi => ?_⟩
    · rw [y2 19 (by decide) (by decide), wrM_eq]
    · have := rk_le k hk
      rw [x1 _ _ (by omega), wrM_nr (by omega), y1' k]
      exact hEA k hk
    · rw [show Y0.1 1 = M2.1 1 from funext y1']
      exact R.2
    · rw [x1 r i (by omega), wrM_nr (by omega)]
    · rw [y1 r i (by omega), wrM_nr (by omega), wrM_nr (by omega)]
    · rw [y2 i (by omega) (by omega), wrM_nj (by omega), wrM_nj (by omega)]
    · rw [y1' i, cn 1 i (by decide)]
  obtain ⟨Y1, r1, r2, e3, e4, e5, v, X, rfl, hF⟩ := txl (n := n) (N1 := A) (N2 := B) (T := M2.1 11) (L := L) 121 FU FU 1 X0 Y0 j0 (by omega) (by unfold FU; omega) (by unfold FU; omega) (by decide) (by decide) (by omega) hG
  have e4 : lp (fpX4_readOnto_l11 23) FU ((1 : Int32), X0) = some (Sum.inr (v, X)) := e4
  have e5 : lp fpX6_text_l24 FU ((1 : Int32), Y1) = some r2 := e5
  obtain ⟨ra, Y⟩ := r2
  have eR : fpX4_readOnto 23 A = some (v, X) := by
    unfold fpX4_readOnto letv
    dsimp only
    rw [e1, Option.bind_some, e4]
    rfl
  refine .b1 eA (.b1 eR (.b2 eB ?_))
  unfold letv
  dsimp only
  refine .b2 e2 (.b2 e3 (.b2 e5 ?_))
  unfold fpX6_text_b74 letv
  dsimp only
  rcases hF with ⟨i, i1, i2, rfl, z2, j', hG'⟩ | ⟨hB, rfl⟩
  · have z2 : ra = J (i : Nat) := z2
    subst z2
    obtain ⟨-, -, -, w4, w5, w6, w7, w8⟩ : GdT n A B (M2.1 11) L X Y j' := hG'
    have e6 := tk_e (a := 1) (b := 23) (M := wrM X 34 1 0) (by omega) (fun p hp => by
      rw [wrM_nr (by omega)]
      exact hb1 X Y 23 w5 w6 p hp)
    refine .f1 (show ¬ J (i : Nat) < (0 : Int32) from fun z => by have := (ltN (b := 0) (by omega) (by omega)).1 z; omega) (.b1 e6 ?_)
    refine .t2 (show (wrM Y 0 15 0).1 0 19 = 0 from (wrM_nj (by decide)).trans w4) (.e rfl ?_)
    refine (R.tx (fun r k hr => ?_) (fun r k hr => ?_) ?_ ?_ wrM_eq (fun k hk => ?_) ?_).mono (Nat.le_succ n)
    · rw [tk_fr (by omega), wrM_nr (by omega), w7 r k (by omega), fA r k (by omega)]
    · rw [wrM_nr (by omega), w8.1 r k (by omega), cn r k (by omega)]
    · rw [wrM_nj (by decide), w8.2.1 4 (by decide), cn 0 4 (by decide)]
    · rw [tk_fr (by omega), wrM_eq]
    · have := rk_le k hk
      rw [tk_rk hk, wrM_nr (by omega), wrM_nr (by decide)]
      exact w5 k hk
    · rw [wr_n (by decide)]
      exact w6
  · have hB : BdT A B (M2.1 11) L X Y := hB
    obtain ⟨j', e', q1, q2, q3, q4, q5, q6, q7⟩ := hB
    have q8 := q4.2.1
    rw [q3]
    have ev : (-1 : Int32) - J (j' : Nat) = J (-1 - (j' : Int)) := by rw [J_m1, J_sub]
    refine .t1 ?_ (.f2 (show ¬ (wrM Y 0 15 0).1 0 19 = 0 by rw [wrM_nj (by decide), q5]; decide) (.b2 putsBack_e (.e ?_ ?_)))
    · rw [ev, J_0]
      exact (ltJ (by omega) (by omega) (by omega) (by omega)).2 (by omega)
    · have : (cpY 1 3 70 (wrM Y 0 15 0)).1 0 16 = J (j' : Nat) := by
        show (if (0 : Nat) = 1 ∧ 16 < 70 then (wrM Y 0 15 0).1 3 16 else (wrM Y 0 15 0).1 0 16) = _
        rw [if_neg (by decide), wrM_nj (by decide)]
        exact q8
      rw [this]
    · have row : ∀ k, (cpY 1 3 70 (wrM Y 0 15 0)).1 1 k = M2.1 1 k := fun k => by
        show (if (1 : Nat) = 1 ∧ k < 70 then (wrM Y 0 15 0).1 3 k else (wrM Y 0 15 0).1 1 k) = _
        by_cases c : k < 70
        · rw [if_pos ⟨rfl, c⟩, wrM_nr (by decide), q7.1 3 k (by decide)]
          exact c3 k c
        · rw [if_neg (fun z => c z.2), wrM_nr (by decide), q7.2.2 k (by omega), cn 1 k (by decide)]
      have oth : ∀ r k, r ≠ 1 → (cpY 1 3 70 (wrM Y 0 15 0)).1 r k = (wrM Y 0 15 0).1 r k := fun r k hr => if_neg (fun z => hr z.1)
      refine (R.tx (fun r k hr => ?_) (fun r k hr => ?_) ?_ wrM_eq ?_ (fun k hk => ?_) ?_).mono (Nat.le_succ n)
      · rw [wrM_nr (by omega), q6 r k (by omega), fA r k (by omega)]
      · rw [oth r k (by omega), wrM_nr (by omega), q7.1 r k (by omega), cn r k (by omega)]
      · rw [oth 0 4 (by decide), wrM_nj (by decide), q7.2.1 4 (by decide), cn 0 4 (by decide)]
      · rw [oth 0 15 (by decide), wrM_eq]
      · have := rk_le k hk
        rw [wrM_nr (by omega), q6 _ _ (by omega), fA _ _ (by omega), row k]
        exact R.1.1 k hk
      · rw [show (cpY 1 3 70 (wrM Y 0 15 0)).1 1 = M2.1 1 from funext row]
        exact R.2
