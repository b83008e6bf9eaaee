/-! least, leastFor -/
theorem full_d : ∀ m, m ≤ 8 → ∀ S, S < 256 → S < 2 ^ m → pc S = m → S = 2 ^ m - 1 := by
  intro m hm
  match m, hm with
  | 0, _ => decide +kernel
  | 1, _ => decide +kernel
  | 2, _ => decide +kernel
  | 3, _ => decide +kernel
  | 4, _ => decide +kernel
  | 5, _ => decide +kernel
  | 6, _ => decide +kernel
  | 7, _ => decide +kernel
  | 8, _ => decide +kernel
  | m + 9, h => omega
theorem full_of {P : Pr} {m e v a q : Nat} (m8 : m ≤ 8) (hab : pab P < 256) (hb : ∀ q, (pab P).testBit q = true → q < m) (h : Can P e v 0 (CC (some m)) a q) : pab P = 2 ^ m - 1 := by
  obtain ⟨u, r, ⟨n1, n2, n3⟩, -, -⟩ := Can.pl.1 h
  have hl : u.length = m := by
    rcases n3 with z | z
    · cases z
    · exact (Option.some.inj z).symm
  obtain ⟨S, s1, s2, s3⟩ := setOf u n1 (fun q hq => bit_lt hab (n2 q hq))
  have sS : S < 2 ^ m := lt_pow (fun q hq => hb q (n2 q ((s2 q).2 hq)))
  have eS := full_d m m8 S s1 sS (by rw [s3, hl])
  refine set_ext hab (Nat.lt_of_lt_of_le (by have := Nat.one_le_two_pow (n := m); omega) (pow_le8 m8)) (fun q _ => ?_)
  have t : (2 ^ m - 1).testBit q = decide (q < m) := Nat.testBit_two_pow_sub_one m q
  rw [t]
  cases z : (pab P).testBit q with
  | true => simp [hb q z]
  | false =>
    by_cases qm : q < m
    · have b : S.testBit q = true := by rw [eS, t]; simp [qm]
      have := n2 q ((s2 q).2 b)
      rw [z] at this
      cases this
    · simp [qm]
theorem cc_cnt0 {k : Option Nat} (hk : ∀ j, k = some j → j ≤ 8) : (1 : Int32) ≤ enc k ↔ ¬ CC k 0 := by
  cases k with
  | none =>
    refine ⟨fun z => absurd z (by decide), fun z => absurd (Or.inl rfl) z⟩
  | some j =>
    have j8 := hk j rfl
    have e : ((1 : Int32) ≤ enc (some j)) ↔ 1 ≤ j := leN (a := 1) (b := j) (by omega) (by omega)
    rw [e]
    constructor
    · intro z c
      rcases c with c | c
      · cases c
      · have := Option.some.inj c
        omega
    · intro z
      refine Nat.pos_of_ne_zero (fun y => z (Or.inr (by rw [y])))
theorem cc_cnt {k : Option Nat} (hk : ∀ j, k = some j → j ≤ 8) : ∀ S, S < 256 → ((enc k < 0 ∨ J (pc S : Nat) = enc k) ↔ CC k (pc S)) := by
  intro S hS
  have pc8 : pc S ≤ 8 := by
    unfold pc
    exact Nat.le_trans (List.length_filter_le _ _) (by simp)
  cases k with
  | none => exact ⟨fun _ => Or.inl rfl, fun _ => Or.inl (by decide)⟩
  | some j =>
    have j8 := hk j rfl
    have e : (J (pc S : Nat) = enc (some j)) ↔ pc S = j := eqN (by omega) (by omega)
    have e2 : ¬ enc (some j) < (0 : Int32) := fun z => by
      have z : J (j : Nat) < J ((0 : Nat) : Int) := z
      have := (ltN (by omega) (by omega)).1 z
      omega
    rw [e]
    constructor
    · intro z
      rcases z with z | z
      · exact absurd z e2
      · exact Or.inr (by rw [z])
    · intro z
      rcases z with z | z
      · cases z
      · exact Or.inr (Option.some.inj z).symm
theorem fyG.trans8 {M A N : Me} (h : fyG M A) (g : ∀ r j, r ≠ 8 → N.1 r j = A.1 r j) (g2 : N.2 = A.2) : fyG M N :=
  ⟨fun r j h0 h5 h6 h7 h8 => (g r j h8).trans (h.1 r j h0 h5 h6 h7 h8), fun j hj => (g 0 j (by decide)).trans (h.2.1 j hj), g2.trans h.2.2⟩
theorem fyF.g {M N : Me} (h : fyF M N) : fyG M N := ⟨fun r j h0 h5 h6 h7 _ => h.1 r j h0 h5 h6 h7, h.2.1, h.2.2⟩
theorem SM.con {n W : Nat} {M1 M2 N1 N2 : Me} {a : Int32} (R : Rr n M1 M2) (f1 : ∀ r j, r < 46 → N1.1 r j = M1.1 r j) (f2 : MT N1) (f3 : fyG M2 N2) (hW : W < 2000000) (hn : ∃ b, a = b ∧ True) : (SM n ((fpX5_carriedOrNone (J (W : Nat)) N1).bind fun q => some (q.1, q.2)) (if J (W : Nat) ≤ M2.1 1 2 then some (J (W : Nat), N2) else (fpX6_finds (-1000004 : Int32) N2).bind fun q => some (q.1, q.2))) := by
  have RN : Rr n N1 N2 := R.fr f1 f2 (fun r j hr => f3.1 r j (by omega) (by omega) (by omega) (by omega) (by omega)) (f3.2.1 4 (by decide)) (f3.2.1 15 (by decide))
  have e6 : N1.1 1 6 = M2.1 1 2 := (f1 1 6 (by decide)).trans (R.1.1 2 (by decide))
  unfold fpX5_carriedOrNone
  rw [e6]
  by_cases h : J (W : Nat) ≤ M2.1 1 2
  · rw [if_pos h]
    exact .t2 h (.e rfl (RN.mono (Nat.le_succ n)))
  · rw [if_neg h]
    refine .f2 h ?_
    obtain ⟨v, A, B, h1, h2, h3⟩ := fnd RN 3 (by decide)
    have h1 : fpX5_finding (3 : Int32) N1 = some (v, A) := h1
    have h2 : fpX6_finds (-1000004 : Int32) N2 = some (v, B) := h2
    rw [h1, h2]
    exact ⟨v, A, B, rfl, rfl, h3⟩
