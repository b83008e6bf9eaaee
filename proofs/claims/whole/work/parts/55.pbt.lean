/-! The class's planBest -/
theorem tab_pl {B : Me} {m s w S l x : Nat} {P : Pr} (m8 : m ≤ 8) (hT : TabX B P s w (pab P) (2 ^ m)) (S0 : 0 < S) (hS : S < 2 ^ m) (hsb : sb S (pab P)) (hl : S.testBit l = true) (hx : tb B S l = some x) : ∃ u, Pl (pab P) (CC (some (pc S))) u ∧ bk P 0 s w u = some (cr P x (pml P l) 0) := by
  have S8 : S < 256 := Nat.lt_of_lt_of_le hS (pow_le8 m8)
  obtain ⟨v, g, ef⟩ := (hT S l S0 hS hsb hl).1.1 x hx
  have q8 : ∀ q, q ∈ v ++ [l] → q < 8 := fun q hq => bit_lt S8 ((g.2.1 q).1 hq)
  obtain ⟨S', t1, t2, t3⟩ := setOf (v ++ [l]) g.1 q8
  have eS : S = S' := set_uniq S8 t1 g.2.1 t2
  refine ⟨v ++ [l], ⟨g.1, fun p hp => hsb p (q8 p hp) ((g.2.1 p).1 hp), CC_some.2 (by rw [eS, t3])⟩, ?_⟩
  unfold bk
  rw [ef]
  rfl
theorem pl_tab {B : Me} {m s w k r : Nat} {u : List Nat} {P : Pr} (hab : pab P < 256) (hm : ∀ q, (pab P).testBit q = true → q < m) (hT : TabX B P s w (pab P) (2 ^ m)) (hk : k ≠ 0) (hu : Pl (pab P) (CC (some k)) u) (hb : bk P 0 s w u = some r) : ∃ S l x, 0 < S ∧ S < 2 ^ m ∧ sb S (pab P) ∧ pc S = k ∧ S.testBit l = true ∧ tb B S l = some x ∧ r ≤ cr P x (pml P l) 0 := by
  obtain ⟨n1, n2, n3⟩ := hu
  have n3 := CC_some.1 n3
  unfold bk at hb
  rcases List.eq_nil_or_concat u with hv | ⟨v, l, hv⟩
  · subst hv
    exact absurd n3 hk
  · have hv : u = v ++ [l] := by rw [hv, List.concat_eq_append]
    subst hv
    cases hfr : fr P s w (v ++ [l]) with
    | none => rw [hfr] at hb; cases hb
    | some t =>
      rw [hfr] at hb
      obtain ⟨s1, s2⟩ := t
      have es : s1 = pml P l := fr_last hfr
      subst es
      cases hb
      have q8 : ∀ q, q ∈ v ++ [l] → q < 8 := fun q hq => bit_lt hab (n2 q hq)
      obtain ⟨S, t1, t2, t3⟩ := setOf (v ++ [l]) n1 q8
      have hl : S.testBit l = true := (t2 l).1 (by simp)
      have S0 : 0 < S := by
        refine Nat.pos_of_ne_zero (fun z => ?_)
        rw [z] at hl
        simp at hl
      have hsb : sb S (pab P) := fun q _ hq => n2 q ((t2 q).2 hq)
      have hS := sb_lt t1 hm hsb
      obtain ⟨x, x1, x2⟩ := (hT S l S0 hS hsb hl).1.2 v s2 ⟨n1, t2, fun p hp => n2 p (List.mem_of_head? hp)⟩ hfr
      exact ⟨S, l, x, S0, hS, hsb, by rw [t3, n3], hl, x1, cr_mono x2⟩
theorem pcm_d : ∀ m, m < 9 → ∀ S, S < 256 → S < 2 ^ m → pc S ≤ m := by decide +kernel
def Hs (B : Me) (P : Pr) (t S : Nat) : Prop := sb S (pab P) ∧ ∃ l x, S.testBit l = true ∧ tb B S l = some x ∧ cr P x (pml P l) 0 = t
theorem few_e {B : Me} {m s w t : Nat} {P : Pr} (h : PX B m s P) (hMT : MT B) (hT : TabX B P s w (pab P) (2 ^ m)) (hw : w < 1000) (t9 : t < 1000) (hB : Bst P 0 s w (pab P) (fun _ => True) (some t)) : ∃ n, fpX0_fewestBringing (J (t : Nat)) (J (w : Nat)) B = some (J (n : Nat)) ∧ n ≤ m ∧ Can P 0 t 0 (CC (some n)) s w ∧ ∀ k, k < n → ¬ Can P 0 t 0 (CC (some k)) s w := by
  have m8 := h.1
  have p8 := pow_le8 m8
  have p1 : 1 ≤ 2 ^ m := Nat.one_le_two_pow
  have ab := h.2.2.1
  have ec : fpX0_carried (J (w : Nat)) (8 : Int32) (9 : Int32) B = some (J (cr P w s 0 : Nat)) := car_e (x := 8) (y := 9) h (Or.inr (Or.inl rfl)) (Or.inr (Or.inr rfl)) (by omega)
  have hc : cr P w s 0 < 1000 := by unfold cr; omega
  have le : ∀ u r, Pl (pab P) (fun _ => True) u → bk P 0 s w u = some r → r ≤ t := fun u r h1 h2 => by
    obtain ⟨q', z1, z2⟩ := hB.2 u r h1 h2
    cases z1
    exact z2
  have ctop : ∀ S l x, 0 < S → S < 2 ^ m → sb S (pab P) → S.testBit l = true → tb B S l = some x → cr P x (pml P l) 0 ≤ t := fun S l x a1 a2 a3 a4 a5 => by
    obtain ⟨u, u1, u2⟩ := tab_pl m8 hT a1 a2 a3 a4 a5
    exact le u _ ⟨u1.1, u1.2.1, trivial⟩ u2
  have toN : ∀ S, 0 < S → S < 2 ^ m → Hs B P t S → Can P 0 t 0 (CC (some (pc S))) s w := fun S a1 a2 ⟨a3, l, x, a4, a5, a6⟩ => by
    obtain ⟨u, u1, u2⟩ := tab_pl m8 hT a1 a2 a3 a4 a5
    exact Can.pl.2 ⟨u, _, u1, u2, by omega⟩
  have ofN : ∀ k, k ≠ 0 → Can P 0 t 0 (CC (some k)) s w → ∃ S, 0 < S ∧ S < 2 ^ m ∧ pc S = k ∧ Hs B P t S := fun k hk hN => by
    obtain ⟨u, r, u1, u2, u3⟩ := Can.pl.1 hN
    obtain ⟨S, l, x, a1, a2, a3, a4, a5, a6, a7⟩ := pl_tab ab.1 ab.2 hT hk u1 u2
    have := ctop S l x a1 a2 a3 a5 a6
    exact ⟨S, a1, a2, a4, a3, l, x, a5, a6, by omega⟩
  unfold fpX0_fewestBringing
  rw [ec, Option.bind_some]
  by_cases h0 : cr P w s 0 = t
  · rw [if_pos (by rw [h0])]
    refine ⟨0, rfl, Nat.zero_le _, Can.pl.2 ⟨[], cr P w s 0, ⟨by simp, fun p hp => (by cases hp), CC_some.2 rfl⟩, rfl, by omega⟩, fun k hk => absurd hk (Nat.not_lt_zero _)⟩
  · rw [if_neg (fun z => h0 ((eqN (by omega) (by omega)).1 z))]
    have n0 : ¬ Can P 0 t 0 (CC (some 0)) s w := fun z => by
      obtain ⟨u, r, ⟨u0, u1, u2⟩, u3, u4⟩ := Can.pl.1 z
      have hu : u = [] := List.eq_nil_of_length_eq_zero (CC_some.1 u2).symm
      subst hu
      have := le [] r ⟨u0, u1, trivial⟩ u3
      have u3 : some (cr P w s 0) = some r := u3
      have := Option.some.inj u3
      omega
    unfold letv
    rw [h.2.1]
    obtain ⟨r, er, f, rfl, q1, q2, q3⟩ := lp_ok (step := fpX0_fewestBringing_l23 (J (t : Nat)) B) (Q := fun r => ∃ f : Nat, r = J (f : Nat) ∧ f ≤ m ∧ (f = m ∨ Can P 0 t 0 (CC (some f)) s w) ∧ ∀ S, 0 < S → S < 2 ^ m → Hs B P t S → f ≤ pc S) (fun i st => st.2 = J ((1 + i : Nat) : Int) ∧ ∃ f : Nat, st.1 = J (f : Nat) ∧ f ≤ m ∧ (f = m ∨ Can P 0 t 0 (CC (some f)) s w) ∧ ∀ S, 0 < S → S < 1 + i → Hs B P t S → f ≤ pc S) (2 ^ m - 1) (by omega) (s := (J (m : Nat), (1 : Int32))) ⟨rfl, m, rfl, Nat.le_refl _, Or.inl rfl, fun S h1 h2 => by omega⟩ (by
      intro i st hi hst
      obtain ⟨fa, ia⟩ := st
      obtain ⟨s1, f, s2, x1, x2, x3⟩ := hst
      have s1 : ia = J ((1 + i : Nat) : Int) := s1
      have s2 : fa = J (f : Nat) := s2
      subst s1
      subst s2
      show ok (fpX0_fewestBringing_l23s (J (t : Nat)) (J (f : Nat)) (J ((1 + i : Nat) : Int)) B) _
      unfold fpX0_fewestBringing_l23s
      rw [h.2.1, shl_d m (by omega)]
      by_cases hin : 1 + i < 2 ^ m
      · refine okF (fun z => by have := (leN (by omega) (by omega)).1 z; omega) ?_
        obtain ⟨o, e1, o1, o2, o3⟩ := home_e (S := 1 + i) h hMT hin (fun hb l hl => (hT (1 + i) l (by omega) hin hb hl).2)
        refine okE e1 ?_
        have key : enc o = J (t : Nat) ↔ Hs B P t (1 + i) := by
          rw [enc_eq (fun x hx => by have := o1 x hx; omega) (by omega)]
          constructor
          · intro z
            by_cases hb : sb (1 + i) (pab P)
            · obtain ⟨l, x, y1, y2, y3⟩ := (o2 hb).1 t z
              exact ⟨hb, l, x, y1, y2, y3.symm⟩
            · rw [o3 hb] at z
              cases z
          · intro ⟨hb, l, x, y1, y2, y3⟩
            obtain ⟨c, z1, z2⟩ := (o2 hb).2 l x y1 y2
            obtain ⟨l', x', w1, w2, w3⟩ := (o2 hb).1 c z1
            have := ctop (1 + i) l' x' (by omega) hin hb w1 w2
            rw [z1]
            congr 1
            omega
        have es : J ((1 + i : Nat) : Int) + 1 = J ((1 + (i + 1) : Nat) : Int) := J_succ _
        by_cases hh : Hs B P t (1 + i)
        · refine okT (key.2 hh) (okL (okL ?_))
          rw [bc_d _ (by omega), minN (by omega) (by have := pc_le (S := 1 + i); omega), es]
          refine okS ⟨by omega, rfl, min f (pc (1 + i)), rfl, by omega, ?_, fun S a1 a2 a3 => ?_⟩
          · by_cases c : f ≤ pc (1 + i)
            · rw [Nat.min_eq_left c]; exact x2
            · rw [Nat.min_eq_right (by omega)]
              exact Or.inr (toN (1 + i) (by omega) hin hh)
          · rcases Nat.lt_or_eq_of_le (Nat.le_of_lt_succ (show S < (1 + i) + 1 by omega)) with z | z
            · have := x3 S a1 z a3
              omega
            · rw [z]
              omega
        · refine okF (fun z => hh (key.1 z)) (okL ?_)
          rw [es]
          refine okS ⟨by omega, rfl, f, rfl, x1, x2, fun S a1 a2 a3 => ?_⟩
          rcases Nat.lt_or_eq_of_le (Nat.le_of_lt_succ (show S < (1 + i) + 1 by omega)) with z | z
          · exact x3 S a1 z a3
          · rw [z] at a3
            exact absurd a3 hh
      · exact okT ((leN (by omega) (by omega)).2 (by omega)) (okS ⟨f, rfl, x1, x2, fun S a1 a2 => x3 S a1 (by omega)⟩))
    dsimp only
    rw [er]
    refine ⟨f, rfl, q1, ?_, fun k hk hN => ?_⟩
    · rcases q2 with z | z
      · obtain ⟨u, u1, u2⟩ := hB.1 t rfl
        have hN : Can P 0 t 0 (CC (some u.length)) s w := Can.pl.2 ⟨u, t, ⟨u1.1, u1.2.1, CC_some.2 rfl⟩, u2, Nat.le_refl _⟩
        by_cases k0 : u.length = 0
        · rw [k0] at hN
          exact absurd hN n0
        · obtain ⟨S, a1, a2, a3, a4⟩ := ofN _ k0 hN
          have b1 := q3 S a1 a2 a4
          have b2 := pcm_d m (by omega) S (by omega) a2
          have : f = u.length := by omega
          rw [this]
          exact hN
      · exact z
    · by_cases k0 : k = 0
      · rw [k0] at hN
        exact n0 hN
      · obtain ⟨S, a1, a2, a3, a4⟩ := ofN _ k0 hN
        have b1 := q3 S a1 a2 a4
        omega
theorem lnx_e {X : Me} {m s x S wt t n p : Nat} {P : Pr} (h : PX X m s P) (hT : TabW X P t (some n) m 0) (hS : S < 256) (hsb : sb S (pab P)) (hx : okp m x) (hw : wt < 1000) (hp : Okp P t n S (plc P s x) wt p) (hmin : ∀ q, q < p → ¬ Okp P t n S (plc P s x) wt q) : fpX0_leastNext (J (S : Nat)) (J (x : Nat)) (J (wt : Nat)) X = some (J (p : Nat)) := by
  have m8 := h.1
  have rm := h.2.2.2.2.1
  have ab := h.2.2.1
  have pm : p < m := ab.2 p hp.1
  obtain ⟨o, er, rfl⟩ := lp_ok (step := fpX0_leastNext_l3 (J (S : Nat)) (J (x : Nat)) (J (wt : Nat)) X) (Q := fun o => o = Sum.inr (J (p : Nat))) (fun i st => st = J (i : Nat)) p (by omega) (s := (0 : Int32)) rfl (by
    intro i st hi hst
    subst hst
    have i8 : i < 8 := by omega
    have im : i < m := by omega
    show ok (fpX0_leastNext_l3s (J (S : Nat)) (J (x : Nat)) (J (wt : Nat)) (J (i : Nat)) X) _
    unfold fpX0_leastNext_l3s
    rw [h.2.1, h.2.2.2.1]
    refine okF (fun z => by have := (leN (by omega) (by omega)).1 z; omega) ?_
    rw [mn_d ab.1 hS, isIn_d _ (mn_lt ab.1 hS) i i8, mn_bit]
    have go : ¬ Okp P t n S (plc P s x) wt i → i < p := fun z => by
      rcases Nat.lt_or_eq_of_le hi with y | y
      · exact y
      · rw [y] at z
        exact absurd hp z
    by_cases hc : ((pab P).testBit i && !S.testBit i) = true
    · rw [if_pos hc]
      simp only [Bool.and_eq_true, Bool.not_eq_true'] at hc
      refine okF (by decide) ?_
      have ec := car_e (x := x) (y := i) (w := wt) h hx (Or.inl im) (by omega)
      rw [plc_p (x := i) i8] at ec
      have hcr : cr P wt (plc P s x) (pml P i) ≤ wt := by unfold cr; omega
      have er : fpX0_ran (J (i : Nat)) (J (cr P wt (plc P s x) (pml P i) : Nat)) X = some (enc (rn P i (cr P wt (plc P s x) (pml P i)))) := ran_e (o := some (cr P wt (plc P s x) (pml P i))) h im (fun z hz => by cases hz; omega)
      refine okE ec (okE er ?_)
      cases hq : rn P i (cr P wt (plc P s x) (pml P i)) with
      | none => exact okT rfl (okL (okS ⟨go (fun z => by obtain ⟨-, -, y, z1, -⟩ := z; rw [hq] at z1; cases z1), J_succ i⟩))
      | some y =>
        have yr := rn_le hq
        refine okF (enc_ne (by omega)) ?_
        have bt : (nS S i).testBit i = true := by rw [nS_bit S hS i i8 i i8]; simp
        have sn := sb_nS (m := m) hS i8 hc.1 hsb
        obtain ⟨W, w1, w2, w3⟩ := hT (nS S i) i (by have := nS_gt S hS i i8 hc.2; omega) (sb_lt (nS_lt S hS i i8) ab.2 sn) sn bt
        have e8 : (J (S : Nat) ||| ((1 : Int32) <<< (J (i : Nat) &&& 31))) * (8 : Int32) + J (i : Nat) = J ((8 * nS S i + i : Nat) : Int) := by
          rw [ins_d S hS i i8, show (8 : Int32) = J 8 from rfl, J_mul, J_add]
          congr 1
          omega
        rw [e8]
        have n8 := nS_lt S hS i i8
        refine okE (inbJ (show 8 * nS S i + i < 2048 by omega) (by decide)) ?_
        rw [w1]
        have lt : (enc (some y) < J (W : Nat)) ↔ y < W := ltN (by omega) (by omega)
        by_cases hy : y < W
        · refine okT (lt.2 hy) (okL (okS ⟨go (fun z => ?_), J_succ i⟩))
          obtain ⟨-, -, y', z1, z2⟩ := z
          rw [hq] at z1
          cases z1
          have := (w3 y yr).2 z2
          omega
        · refine okF (fun z => hy (lt.1 z)) (okS ?_)
          have hok : Okp P t n S (plc P s x) wt i := ⟨hc.1, hc.2, y, hq, (w3 y yr).1 (by omega)⟩
          have : i = p := by
            rcases Nat.lt_or_eq_of_le hi with z | z
            · exact absurd hok (hmin i z)
            · exact z
          rw [this]
          rfl
    · rw [if_neg hc]
      refine okT rfl (okL (okS ⟨go (fun z => hc ?_), J_succ i⟩))
      rw [z.1, z.2.1]
      rfl)
  unfold fpX0_leastNext
  have er : lp (fpX0_leastNext_l3 (J (S : Nat)) (J (x : Nat)) (J (wt : Nat)) X) FU (0 : Int32) = some (Sum.inr (J (p : Nat))) := er
  rw [er]
  rfl
theorem pbt_e {A : Me} {m s w : Nat} {P : Pr} (h : PX A m s P) (mA : MT A) (hw : w < 1000) : ∃ N n t, fpX0_planBest (J (w : Nat)) A = some N ∧ (∀ r j, r ≠ 47 → r ≠ 53 → r ≠ 54 → ¬ (r = 46 ∧ j = 1) → N.1 r j = A.1 r j) ∧ MT N ∧ t < 1000 ∧ Bst P 0 s w (pab P) (fun _ => True) (some t) ∧ n ≤ m ∧ Can P 0 t 0 (CC (some n)) s w ∧ (∀ k, k < n → ¬ Can P 0 t 0 (CC (some k)) s w) ∧ N.1 46 1 = J (n : Nat) ∧ ∀ i, i < n → gpl P s w t n i < m ∧ N.1 47 i = J (gpl P s w t n i : Nat) := by
  have m8 := h.1
  have rm := h.2.2.2.2.1
  have ab := h.2.2.1
  obtain ⟨B, t, e1, b1, b2, b3, t9, g0⟩ := with_e (w := w) h mA hw
  have hB : PX B m s P := h.same (fun r j h1 h2 => b1 r j (by omega))
  obtain ⟨n, e2, n1, n2, n3⟩ := few_e hB b2 b3 hw t9 g0
  generalize hK : wrM B 46 1 (J (n : Nat)) = K
  have Kn : ∀ r j, ¬ (r = 46 ∧ j = 1) → K.1 r j = B.1 r j := fun r j hr => by rw [← hK, wrM_at, if_neg hr]
  have K1 : K.1 46 1 = J (n : Nat) := by rw [← hK]; exact wrM_eq
  have hKP : PX K m s P := hB.sm (fun j hj => Kn 46 j (by omega)) (fun r j hr => Kn r j (by omega))
  obtain ⟨N4, W, e3, g1, -, hW⟩ := lst_e (v := t) (k := some n) hKP (by omega) (fun j hj => by cases hj; omega)
  have e3 : fpX0_leastStart (J (t : Nat)) (J (n : Nat)) K = some (J (W : Nat), N4) := e3
  have h4 : PX N4 m s P := hKP.same54 g1
  have inv := inv_i ab.1 rm hw n2
  obtain ⟨o, er, ho⟩ := lp_ok (step := fpX0_planBest_l38) (Q := fun o => Sum.elim (fun X => (∀ r j, r ≠ 47 → X.1 r j = N4.1 r j) ∧ ∀ k, k < n → X.1 47 k = J (gpl P s w t n k : Nat)) (fun _ => False) o) (fun i st => ∃ (x : Nat) (X : Me), st = (J ((gst P s w t n i).1 : Nat), J (x : Nat), J ((gst P s w t n i).2.2 : Nat), J (i : Nat), X) ∧ okp m x ∧ plc P s x = (gst P s w t n i).2.1 ∧ (∀ r j, r ≠ 47 → X.1 r j = N4.1 r j) ∧ ∀ k, k < i → X.1 47 k = J (gpl P s w t n k : Nat)) n (by omega) (s := ((0 : Int32), (8 : Int32), J (w : Nat), (0 : Int32), N4)) ⟨8, N4, rfl, Or.inr (Or.inl rfl), rfl, fun _ _ _ => rfl, fun k hk => absurd hk (Nat.not_lt_zero _)⟩ (by
    intro i st hi hst
    obtain ⟨x, X, rfl, x1, x2, x3, x4⟩ := hst
    show ok (fpX0_planBest_l38s (J ((gst P s w t n i).1 : Nat)) (J (x : Nat)) (J ((gst P s w t n i).2.2 : Nat)) (J (i : Nat)) X) _
    unfold fpX0_planBest_l38s
    rw [show X.1 46 1 = J (n : Nat) from (x3 46 1 (by decide)).trans ((g1 46 1 (by decide)).trans K1)]
    rcases Nat.lt_or_eq_of_le hi with hin | hin
    · refine okF (fun z => by have := (leN (by omega) (by omega)).1 z; omega) ?_
      have hX : PX X m s P := h4.sm (fun j _ => x3 46 j (by decide)) (fun r j hr => x3 r j (by omega))
      have hTX : TabW X P t (some n) m 0 := fun S l a1 a2 a3 a4 => (hW S l a1 a2 a3 a4).same (x3 54 _ (by decide))
      obtain ⟨I1, I2, I3, I4, I5, -⟩ := inv i hi
      obtain ⟨ok1, ok2⟩ := gp_ok ab.1 rm hw n2 hin
      obtain ⟨y, y1, y2⟩ := gp_st ab.1 rm hw n2 hin
      have pm : gpl P s w t n i < m := ab.2 _ ok1.1
      have el := lnx_e (x := x) hX hTX I1 I3 x1 I5 (by rw [x2]; exact ok1) (by rw [x2]; exact ok2)
      refine okE el (okF (enc_ne (by omega)) (okE (inbJ (show i < 8 by omega) (by decide)) (okL ?_)))
      generalize hL : wrM X 47 i (J (gpl P s w t n i : Nat)) = L
      have Ln : ∀ r j, r ≠ 47 → L.1 r j = X.1 r j := fun r j hr => by rw [← hL, wrM_nr hr]
      have hLP : PX L m s P := hX.sm (fun j _ => Ln 46 j (by decide)) (fun r j hr => Ln r j (by omega))
      have ec := car_e (x := x) (y := gpl P s w t n i) (w := (gst P s w t n i).2.2) hLP x1 (Or.inl pm) (by omega)
      rw [plc_p (x := gpl P s w t n i) (by omega), x2] at ec
      have hcr : cr P (gst P s w t n i).2.2 (gst P s w t n i).2.1 (pml P (gpl P s w t n i)) ≤ (gst P s w t n i).2.2 := by unfold cr; omega
      have erl : fpX0_ran (J (gpl P s w t n i : Nat)) (J (cr P (gst P s w t n i).2.2 (gst P s w t n i).2.1 (pml P (gpl P s w t n i)) : Nat)) L = some (enc (rn P (gpl P s w t n i) (cr P (gst P s w t n i).2.2 (gst P s w t n i).2.1 (pml P (gpl P s w t n i))))) := ran_e (o := some (cr P (gst P s w t n i).2.2 (gst P s w t n i).2.1 (pml P (gpl P s w t n i)))) hLP pm (fun z hz => by cases hz; omega)
      rw [y1] at erl
      refine okE ec (okE erl (okL (okL ?_)))
      rw [ins_d _ I1 _ (by omega)]
      refine okS ⟨hin, gpl P s w t n i, L, ?_, Or.inl pm, ?_, fun r j hr => (Ln r j hr).trans (x3 r j hr), fun k hk => ?_⟩
      · rw [y2, J_succ]; rfl
      · rw [y2, plc_p (by omega)]
      · rcases Nat.lt_or_eq_of_le (Nat.le_of_lt_succ hk) with z | z
        · rw [← hL, wrM_nj (by omega)]; exact x4 k z
        · rw [z, ← hL]; exact wrM_eq
    · subst hin
      exact okT ((leN (by omega) (by omega)).2 (Nat.le_refl _)) (okS ⟨x3, x4⟩))
  rcases o with X | X
  · obtain ⟨x3, x4⟩ := ho
    refine ⟨X, n, t, ?_, fun r j h1 h2 h3 h4 => (x3 r j h1).trans ((g1 r j h3).trans ((Kn r j h4).trans (b1 r j h2))), fun S hS l hl hb => ?_, t9, g0, n1, n2, n3, (x3 46 1 (by decide)).trans ((g1 46 1 (by decide)).trans K1), fun i hi => ⟨ab.2 _ (gp_ok ab.1 rm hw n2 hi).1.1, x4 i hi⟩⟩
    · unfold fpX0_planBest letv
      dsimp only
      rw [e1, Option.bind_some]
      dsimp only
      rw [e2, Option.bind_some, hK, K1, e3, Option.bind_some]
      have er : lp fpX0_planBest_l38 FU ((0 : Int32), (8 : Int32), J (w : Nat), (0 : Int32), N4) = some (Sum.inl X) := er
      dsimp only
      rw [er]
      rfl
    · rw [x3 53 _ (by decide), g1 53 _ (by decide), Kn 53 _ (by omega)]
      exact b2 S hS l hl hb
  · exact False.elim ho
