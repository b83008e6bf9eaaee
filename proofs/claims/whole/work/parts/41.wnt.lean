/-! The class's least start, worked back -/
def mn (A S : Nat) : Nat := A ^^^ (A &&& S)
theorem mn_lt {A S : Nat} (hA : A < 256) (hS : S < 256) : mn A S < 256 := Nat.xor_lt_two_pow (n := 8) hA (Nat.and_lt_two_pow A (n := 8) hS)
theorem mn_bit (A S q : Nat) : (mn A S).testBit q = (A.testBit q && !S.testBit q) := by
  unfold mn
  rw [Nat.testBit_xor, Nat.testBit_and]
  cases A.testBit q <;> cases S.testBit q <;> rfl
theorem mn_d {A S : Nat} (hA : A < 256) (hS : S < 256) : J (A : Nat) &&& (J (S : Nat) ^^^ (-1 : Int32)) = J (mn A S : Nat) := by
  refine Int32.toBitVec_inj.1 ?_
  have hm := mn_lt hA hS
  have e : (J (A : Nat) &&& (J (S : Nat) ^^^ (-1 : Int32))).toBitVec = BitVec.ofNat 32 A &&& (BitVec.ofNat 32 S ^^^ BitVec.allOnes 32) := by
    rw [Int32.toBitVec_and, Int32.toBitVec_xor, J_nz (by omega), J_nz (by omega)]
    rfl
  rw [e, J_nz (by omega)]
  refine BitVec.eq_of_getLsbD_eq (fun q hq => ?_)
  simp only [BitVec.getLsbD_and, BitVec.getLsbD_xor, BitVec.getLsbD_ofNat, BitVec.getLsbD_allOnes, mn_bit]
  cases A.testBit q <;> cases S.testBit q <;> simp [hq]
/-- so many pumps, or any number -/
def CC (k : Option Nat) (j : Nat) : Prop := k = none ∨ k = some j
theorem wBe {M : Me} {m s x y w : Nat} {P : Pr} (h : PX M m s P) (hx : okp m x) (hy : okp m y) (hw : w < 2000000) : fpX0_wantedBefore (J (w : Nat)) (J (x : Nat)) (J (y : Nat)) M = some (J (wB P w (plc P s x) (plc P s y) : Nat)) := by
  obtain ⟨h1, h2, h3, h4, h5, h6, h7, h8⟩ := h
  obtain ⟨l1, l2⟩ := h8 x y hx hy
  unfold fpX0_wantedBefore wB
  have e : J (x : Nat) * (10 : Int32) + J (y : Nat) = J ((10 * x + y : Nat) : Int) := by
    rw [show (10 : Int32) = J 10 from rfl, J_mul, J_add]
    congr 1
    omega
  unfold okp at hx hy
  by_cases h0 : w = 0
  · subst h0
    rw [if_pos rfl]
    rfl
  · rw [if_neg (show ¬ J (w : Nat) = (0 : Int32) from fun z => h0 ((eqN (b := 0) (by omega) (by omega)).1 z)), if_neg h0, e, inbJ (by omega) (by decide), Option.bind_some, l2, addN]
theorem wRe {M : Me} {m s p b : Nat} {P : Pr} (h : PX M m s P) (hp : p < m) (hb : b < 2000000) : fpX0_wantedToRun (J (p : Nat)) (J (b : Nat)) M = some (J (wR P p b : Nat)) := by
  obtain ⟨h1, h2, h3, h4, h5, h6, h7, h8⟩ := h
  obtain ⟨n1, n2, y1, y2⟩ := h7 p hp
  unfold fpX0_wantedToRun wR
  rw [h6]
  by_cases hr : b ≤ prom P
  · rw [if_pos ((leN (by omega) (by omega)).2 hr), if_neg (by omega), inbJ (show p < 8 by omega) (by decide), Option.bind_some, n2, y2, addN]
    unfold fpJ9_max_7cf53
    rw [J_sub]
    by_cases hc : (pnd P p : Int) < ((b + pnd P p : Nat) : Int) - (pyl P p : Int)
    · rw [if_pos ((ltJ (by omega) (by omega) (by omega) (by omega)).2 hc)]
      congr 2
      omega
    · rw [if_neg (fun z => hc ((ltJ (by omega) (by omega) (by omega) (by omega)).1 z))]
      congr 2
      omega
  · rw [if_neg (fun z => hr ((leN (by omega) (by omega)).1 z)), if_pos (by omega)]
    rfl
theorem wR_bd {M : Me} {m s p b : Nat} {P : Pr} (h : PX M m s P) (hp : p < m) : wR P p b ≤ 1000000 := by
  obtain ⟨h1, h2, h3, h4, h5, h6, h7, h8⟩ := h
  obtain ⟨n1, n2, y1, y2⟩ := h7 p hp
  unfold wR
  by_cases hr : prom P < b
  · rw [if_pos hr]; omega
  · rw [if_neg hr]; omega
theorem wB_bd {M : Me} {m s x y w : Nat} {P : Pr} (h : PX M m s P) (hx : okp m x) (hy : okp m y) : wB P w (plc P s x) (plc P s y) ≤ w + 1000 := by
  obtain ⟨h1, h2, h3, h4, h5, h6, h7, h8⟩ := h
  have := (h8 x y hx hy).1
  unfold wB
  by_cases h0 : w = 0
  · rw [if_pos h0]; omega
  · rw [if_neg h0]; omega
/-- a number that tells whether the rest can be had -/
def Tel (P : Pr) (v S : Nat) (k : Option Nat) (a W : Nat) : Prop := W ≤ 1001000 ∧ ∀ q, q ≤ prom P → (W ≤ q ↔ Can P 0 v S (CC k) a q)
def WRow (M : Me) (P : Pr) (v : Nat) (k : Option Nat) (S l : Nat) : Prop := ∃ W, M.1 54 (8 * S + l) = J (W : Nat) ∧ Tel P v S k (pml P l) W
theorem wat_e {M : Me} {m s x S v : Nat} {k : Option Nat} {P : Pr} (h : PX M m s P) (hx : okp m x) (hS : S < 256) (hv : v ≤ 1000) (hk : ∀ j, k = some j → j ≤ 8) (hr : ∀ p, p < m → (pab P).testBit p = true → S.testBit p = false → WRow M P v k (nS S p) p) : ∃ W, fpX0_wantedAt (J (x : Nat)) (J (S : Nat)) (J (v : Nat)) (enc k) M = some (J (W : Nat)) ∧ Tel P v S k (plc P s x) W := by
  have h1 := h.1
  have hab := h.2.2.1
  have hrm := h.2.2.2.2.1
  -- the loop, from a number that tells of the plan that ends here
  have loop : ∀ W0, W0 ≤ 1001000 → (∀ q, q ≤ prom P → (W0 ≤ q ↔ (CC k (pc S) ∧ v ≤ cr P q (plc P s x) 0))) → ∃ W, fpX0_wantedAt_b45 (J (x : Nat)) (J (S : Nat)) (J (W0 : Nat)) M = some (J (W : Nat)) ∧ Tel P v S k (plc P s x) W := by
    intro W0 b0 t0
    obtain ⟨r, er, W, rfl, w1, w2⟩ := lp_ok (step := fpX0_wantedAt_l48 (J (x : Nat)) (J (S : Nat)) M) (Q := fun r => ∃ W : Nat, r = J (W : Nat) ∧ W ≤ 1001000 ∧ ∀ q, q ≤ prom P → (W ≤ q ↔ (CC k (pc S) ∧ v ≤ cr P q (plc P s x) 0) ∨ ∃ p, p < m ∧ (pab P).testBit p = true ∧ S.testBit p = false ∧ ∃ y, rn P p (cr P q (plc P s x) (pml P p)) = some y ∧ Can P 0 v (nS S p) (CC k) (pml P p) y)) (fun i st => st.2 = J (i : Nat) ∧ ∃ W : Nat, st.1 = J (W : Nat) ∧ W ≤ 1001000 ∧ ∀ q, q ≤ prom P → (W ≤ q ↔ (CC k (pc S) ∧ v ≤ cr P q (plc P s x) 0) ∨ ∃ p, p < i ∧ (pab P).testBit p = true ∧ S.testBit p = false ∧ ∃ y, rn P p (cr P q (plc P s x) (pml P p)) = some y ∧ Can P 0 v (nS S p) (CC k) (pml P p) y)) m (by omega) (s := (J (W0 : Nat), (0 : Int32))) ⟨rfl, W0, rfl, b0, fun q hq => ⟨fun z => Or.inl ((t0 q hq).1 z), fun z => by
      rcases z with z | ⟨p, hp, -⟩
      · exact (t0 q hq).2 z
      · exact absurd hp (Nat.not_lt_zero _)⟩⟩ (by
      intro i st hi hst
      obtain ⟨ba, ia⟩ := st
      obtain ⟨s2, W, s1, w1, w2⟩ := hst
      have s2 : ia = J (i : Nat) := s2
      have s1 : ba = J (W : Nat) := s1
      subst s2
      subst s1
      show ok (fpX0_wantedAt_l48s (J (x : Nat)) (J (S : Nat)) (J (W : Nat)) (J (i : Nat)) M) _
      unfold fpX0_wantedAt_l48s
      rw [h.2.1, h.2.2.2.1]
      rcases Nat.lt_or_eq_of_le hi with him | him
      · have i8 : i < 8 := by omega
        refine okF (fun z => by have := (leN (by omega) (by omega)).1 z; omega) ?_
        rw [mn_d hab.1 hS, isIn_d _ (mn_lt hab.1 hS) i i8, mn_bit]
        by_cases hc : ((pab P).testBit i && !S.testBit i) = true
        · rw [if_pos hc]
          simp only [Bool.and_eq_true, Bool.not_eq_true'] at hc
          refine okF (by decide) ?_
          obtain ⟨Wi, r1, r2, r3⟩ := hr i him hc.1 hc.2
          have n8 := nS_lt S hS i i8
          have e8 : (J (S : Nat) ||| ((1 : Int32) <<< (J (i : Nat) &&& 31))) * (8 : Int32) + J (i : Nat) = J ((8 * nS S i + i : Nat) : Int) := by
            rw [ins_d S hS i i8, show (8 : Int32) = J 8 from rfl, J_mul, J_add]
            congr 1
            omega
          rw [e8]
          refine okE (inbJ (show 8 * nS S i + i < 2048 by omega) (by decide)) (okL ?_)
          rw [r1]
          have wb := wR_bd (b := Wi) h him
          have wb2 := wB_bd (w := wR P i Wi) h hx (Or.inl him)
          have eb := wBe (w := wR P i Wi) h hx (Or.inl him) (by omega)
          rw [plc_p i8] at eb wb2
          refine okE (wRe h him (by omega)) (okE eb (okL (okL ?_)))
          rw [minN (by omega) (by omega)]
          refine okS ⟨him, J_succ i, _, rfl, by omega, fun q hq => ?_⟩
          have hcr : cr P q (plc P s x) (pml P i) ≤ q := by unfold cr; omega
          have key : wB P (wR P i Wi) (plc P s x) (pml P i) ≤ q ↔ ∃ y, rn P i (cr P q (plc P s x) (pml P i)) = some y ∧ Can P 0 v (nS S i) (CC k) (pml P i) y := by
            rw [wB_le, wR_le hc.1 (by omega)]
            constructor
            · intro ⟨y, z1, z2⟩
              have : y ≤ prom P := by obtain ⟨-, -, rfl⟩ := rn_some z1; omega
              exact ⟨y, z1, (r3 y this).1 z2⟩
            · intro ⟨y, z1, z2⟩
              have : y ≤ prom P := by obtain ⟨-, -, rfl⟩ := rn_some z1; omega
              exact ⟨y, z1, (r3 y this).2 z2⟩
          rw [show (min W (wB P (wR P i Wi) (plc P s x) (pml P i)) ≤ q) ↔ (W ≤ q ∨ wB P (wR P i Wi) (plc P s x) (pml P i) ≤ q) by omega, w2 q hq, key]
          constructor
          · intro z
            rcases z with (z | ⟨p, p1, p2⟩) | z
            · exact Or.inl z
            · exact Or.inr ⟨p, by omega, p2⟩
            · exact Or.inr ⟨i, by omega, hc.1, hc.2, z⟩
          · intro z
            rcases z with z | ⟨p, p1, p2, p3, p4⟩
            · exact Or.inl (Or.inl z)
            · rcases Nat.lt_or_eq_of_le (Nat.le_of_lt_succ p1) with g | g
              · exact Or.inl (Or.inr ⟨p, g, p2, p3, p4⟩)
              · subst g
                exact Or.inr p4
        · rw [if_neg hc]
          refine okT rfl (okL (okS ⟨him, J_succ i, W, rfl, w1, fun q hq => ?_⟩))
          rw [w2 q hq]
          constructor
          · intro z
            rcases z with z | ⟨p, p1, p2⟩
            · exact Or.inl z
            · exact Or.inr ⟨p, by omega, p2⟩
          · intro z
            rcases z with z | ⟨p, p1, p2, p3, p4⟩
            · exact Or.inl z
            · rcases Nat.lt_or_eq_of_le (Nat.le_of_lt_succ p1) with g | g
              · exact Or.inr ⟨p, g, p2, p3, p4⟩
              · subst g
                rw [p2, p3] at hc
                exact absurd rfl hc
      · subst him
        exact okT ((leN (by omega) (by omega)).2 (Nat.le_refl _)) (okS ⟨W, rfl, w1, w2⟩))
    refine ⟨W, ?_, w1, fun q hq => ?_⟩
    · unfold fpX0_wantedAt_b45
      have er : lp (fpX0_wantedAt_l48 (J (x : Nat)) (J (S : Nat)) M) FU (J (W0 : Nat), (0 : Int32)) = some (J (W : Nat)) := er
      rw [er]
      rfl
    · rw [w2 q hq, Can.step hS hab.1]
      constructor
      · intro z
        rcases z with z | ⟨p, p1, p2⟩
        · exact Or.inl z
        · exact Or.inr ⟨p, by omega, p2⟩
      · intro z
        rcases z with z | ⟨p, p1, p2, p3⟩
        · exact Or.inl z
        · exact Or.inr ⟨p, hab.2 p p2, p2, p3⟩
  have pc8 : pc S ≤ 8 := by
    unfold pc
    exact Nat.le_trans (List.length_filter_le _ _) (by simp)
  have eb := wBe (w := v) (y := 9) h hx (Or.inr (Or.inr rfl)) (by omega)
  have eb : fpX0_wantedBefore (J (v : Nat)) (J (x : Nat)) (9 : Int32) M = some (J (wB P v (plc P s x) 0 : Nat)) := eb
  have bb : wB P v (plc P s x) 0 ≤ v + 1000 := wB_bd (w := v) (y := 9) h hx (Or.inr (Or.inr rfl))
  unfold fpX0_wantedAt letv
  rw [bc_d S hS]
  cases k with
  | none =>
    show ∃ W, (if enc none = (-1 : Int32) then _ else _) = _ ∧ _
    rw [if_pos (show enc none = (-1 : Int32) from rfl)]
    unfold fpX0_wantedAt_b24 fpX0_wantedAt_b34
    rw [eb, Option.bind_some, if_pos (show enc none = (-1 : Int32) from rfl)]
    exact loop _ (by omega) (fun q hq => by rw [wB_le]; exact ⟨fun z => ⟨Or.inl rfl, z⟩, fun z => z.2⟩)
  | some j =>
    have j8 := hk j rfl
    have ne : ¬ enc (some j) = (-1 : Int32) := fun z => by
      have z : J (j : Nat) = J (-1) := z
      have := (eqJ (a := (j : Int)) (b := -1) (by omega) (by omega) (by omega) (by omega)).1 z
      omega
    have ej : enc (some j) - J (pc S : Nat) = J ((j : Int) - (pc S : Int)) := J_sub _ _
    dsimp only
    rw [if_neg ne, ej]
    by_cases hjs : j = pc S
    · rw [if_pos (show J ((j : Int) - (pc S : Int)) = (0 : Int32) from (eqJ (b := 0) (by omega) (by omega) (by omega) (by omega)).2 (by omega))]
      unfold fpX0_wantedAt_b24 fpX0_wantedAt_b34
      rw [eb, Option.bind_some, if_neg ne, if_pos (show J ((j : Int) - (pc S : Int)) ≤ (0 : Int32) from (leJ (b := 0) (by omega) (by omega) (by omega) (by omega)).2 (by omega))]
      refine ⟨_, rfl, by omega, fun q hq => ?_⟩
      rw [wB_le, Can.step hS hab.1]
      constructor
      · intro z
        exact Or.inl ⟨Or.inr (by rw [hjs]), z⟩
      · intro z
        rcases z with z | ⟨p, p1, p2, p3, y, -, u, r, -, -, u3, -⟩
        · exact z.2
        · rw [pc_nS S hS p p1 p3] at u3
          rcases u3 with u3 | u3
          · cases u3
          · have := Option.some.inj u3
            omega
    · rw [if_neg (show ¬ J ((j : Int) - (pc S : Int)) = (0 : Int32) from fun z => by have := (eqJ (b := 0) (by omega) (by omega) (by omega) (by omega)).1 z; omega)]
      unfold fpX0_wantedAt_b34
      rw [if_neg ne]
      have big : ∀ q, q ≤ prom P → (1000000 ≤ q ↔ (CC (some j) (pc S) ∧ v ≤ cr P q (plc P s x) 0)) := fun q hq => ⟨fun z => by omega, fun z => by
        rcases z.1 with z | z
        · cases z
        · exact absurd (Option.some.inj z) hjs⟩
      by_cases hle : j ≤ pc S
      · rw [if_pos (show J ((j : Int) - (pc S : Int)) ≤ (0 : Int32) from (leJ (b := 0) (by omega) (by omega) (by omega) (by omega)).2 (by omega))]
        refine ⟨1000000, rfl, by omega, fun q hq => ?_⟩
        rw [big q hq, Can.step hS hab.1]
        constructor
        · intro z
          exact Or.inl z
        · intro z
          rcases z with z | ⟨p, p1, p2, p3, y, -, u, r, -, -, u3, -⟩
          · exact z
          · rw [pc_nS S hS p p1 p3] at u3
            rcases u3 with u3 | u3
            · cases u3
            · have := Option.some.inj u3
              omega
      · rw [if_neg (show ¬ J ((j : Int) - (pc S : Int)) ≤ (0 : Int32) from fun z => by have := (leJ (b := 0) (by omega) (by omega) (by omega) (by omega)).1 z; omega)]
        exact loop 1000000 (by omega) big
