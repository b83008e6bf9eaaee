/-! ring -/
theorem pc_mono {T D : Nat} (h : sb T D) : pc T ≤ pc D := by
  unfold pc
  rw [← List.countP_eq_length_filter, ← List.countP_eq_length_filter]
  exact List.countP_mono_left (fun q hq hb => h q (List.mem_range.1 hq) hb)
theorem pc_full {T D : Nat} (hT : T < 256) (hD : D < 256) (h : sb T D) (hp : pc T = pc D) : T = D := by
  refine set_ext hT hD (fun q q8 => ?_)
  cases c : T.testBit q with
  | true => exact (h q q8 c).symm
  | false =>
    cases d : D.testBit q with
    | false => rfl
    | true =>
      have h1 : sb (nS T q) D := fun r r8 hr => by
        rw [nS_bit T hT q q8 r r8] at hr
        simp only [Bool.or_eq_true, decide_eq_true_eq] at hr
        rcases hr with z | z
        · exact h r r8 z
        · rw [z]; exact d
      have h2 := pc_mono h1
      rw [pc_nS T hT q q8 c] at h2
      omega
/-- a set that keeps itself, begun at one of its pumps -/
def Ring (P : Pr) (S p : Nat) : Prop := sb S (pab P) ∧ S < 256 ∧ S.testBit p = true ∧ 2 ≤ pc S ∧ ∃ v l q, Gd (2 ^ p) S v l ∧ fr P (pml P p) (pnd P p) (v ++ [l]) = some (pml P l, q) ∧ pnd P p ≤ cr P q (pml P l) (pml P p)
def RingY (P : Pr) (S p y : Nat) : Prop := pnd P p ≤ prom P ∧ ∃ u q, Pl (dl S p) (CC (some (pc S - 1))) u ∧ bk P (pml P p) (pml P p) y u = some q ∧ pnd P p ≤ q
theorem pw_bit {p q : Nat} : (2 ^ p).testBit q = true ↔ p = q := by
  rw [Nat.testBit_two_pow]
  simp
theorem ring_iff {P : Pr} {S p y : Nat} (hl0 : ∀ a, pls P a a = 0) (hab : pab P < 256) (hsb : sb S (pab P)) (hS : S < 256) (hp : S.testBit p = true) (h2 : 2 ≤ pc S) (hy : rn P p (pnd P p) = some y) : Ring P S p ↔ RingY P S p y := by
  have p8 := bit_lt hS hp
  have c0 : cr P (pnd P p) (pml P p) (pml P p) = pnd P p := by unfold cr; rw [hl0]; rfl
  have frp : ∀ u, fr P (pml P p) (pnd P p) (p :: u) = fr P (pml P p) y u := fun u => by
    show (rn P p (cr P (pnd P p) (pml P p) (pml P p))).bind (fun x => fr P (pml P p) x u) = _
    rw [c0, hy]
    rfl
  have dlt := dl_lt S hS p p8
  constructor
  · intro ⟨_, _, _, _, v, l, q, ⟨g1, g2, g3⟩, ef, hq⟩
    have hq2 : q ≤ prom P := by
      obtain ⟨t, -, hr⟩ := fr_snoc.1 ef
      exact rn_le hr
    have hcq : cr P q (pml P l) (pml P p) ≤ q := by unfold cr; omega
    obtain ⟨S', t1, t2, t3⟩ := setOf (v ++ [l]) g1 (fun r hr => bit_lt hS ((g2 r).1 hr))
    have eS : S = S' := set_uniq hS t1 g2 t2
    -- the first is p
    cases hvl : v ++ [l] with
    | nil => simp at hvl
    | cons c u =>
      have hc : c = p := by
        have := g3 c (by rw [hvl]; rfl)
        exact (pw_bit.1 this).symm
      subst hc
      rw [hvl] at g1 g2 ef t3
      have g1' := List.nodup_cons.1 g1
      rw [frp] at ef
      refine ⟨by omega, u, cr P q (pml P l) (pml P c), ⟨g1'.2, fun r hr => ?_, CC_some.2 ?_⟩, ?_, hq⟩
      · have hr' := (g2 r).1 (List.mem_cons_of_mem _ hr)
        rw [dl_bit S hS c p8 r (bit_lt hS hr'), hr']
        have : r ≠ c := fun z => by rw [z] at hr; exact g1'.1 hr
        simp [this]
      · rw [eS, t3]
        simp
      · unfold bk
        rw [ef]
        rfl
  · intro ⟨_, u, q, ⟨u1, u2, u3⟩, hb, hq⟩
    have u3 := CC_some.1 u3
    unfold bk at hb
    rcases List.eq_nil_or_concat u with hv | ⟨v, l, hv⟩
    · subst hv
      have u3 : pc S - 1 = 0 := u3
      omega
    · have hv : u = v ++ [l] := by rw [hv, List.concat_eq_append]
      have npu : ¬ p ∈ u := fun z => by
        have := u2 p z
        rw [dl_bit S hS p p8 p p8] at this
        simp at this
      obtain ⟨T, t1, t2, t3⟩ := setOf u u1 (fun r hr => bit_lt dlt (u2 r hr))
      have eT : T = dl S p := pc_full t1 dlt (fun r _ hr => u2 r ((t2 r).2 hr)) (by have := pc_dl S hS p p8 hp; omega)
      cases hfr : fr P (pml P p) y u with
      | none => rw [hfr] at hb; cases hb
      | some t =>
        rw [hfr] at hb
        obtain ⟨s1, s2⟩ := t
        have es : s1 = pml P l := by rw [hv] at hfr; exact fr_last hfr
        subst es
        have hb : some (cr P s2 (pml P l) (pml P p)) = some q := hb
        have hb := Option.some.inj hb
        refine ⟨hsb, hS, hp, h2, p :: v, l, s2, ⟨?_, fun r => ?_, fun r hr => ?_⟩, ?_, by omega⟩
        · show (p :: (v ++ [l])).Nodup
          rw [← hv]
          exact List.nodup_cons.2 ⟨npu, u1⟩
        · show r ∈ p :: (v ++ [l]) ↔ _
          rw [← hv]
          constructor
          · intro hr
            rcases List.mem_cons.1 hr with z | z
            · rw [z]; exact hp
            · have hd := u2 r z
              rw [dl_bit S hS p p8 r (bit_lt dlt hd)] at hd
              simp only [Bool.and_eq_true] at hd
              exact hd.1
          · intro hr
            by_cases z : r = p
            · rw [z]; simp
            · refine List.mem_cons_of_mem _ ((t2 r).2 ?_)
              rw [eT, dl_bit S hS p p8 r (bit_lt hS hr), hr]
              simp [z]
        · have hr : some p = some r := hr
          cases hr
          exact pw_bit.2 rfl
        · show fr P (pml P p) (pnd P p) (p :: (v ++ [l])) = _
          rw [← hv, frp]
          exact hfr
-- the least of some sets
def ordS (Z S : Nat) : Prop := pc Z < pc S ∨ (pc Z = pc S ∧ Z ≤ S)
def MinR (U : Nat → Prop) (Z : Nat) : Prop := (Z = 0 ∧ ∀ S, ¬ U S) ∨ (0 < Z ∧ Z < 256 ∧ U Z ∧ ∀ S, U S → ordS Z S)
theorem MinR.uniq {U : Nat → Prop} {Z Z' : Nat} (h : MinR U Z) (h' : MinR U Z') : Z = Z' := by
  rcases h with ⟨h1, h2⟩ | ⟨h1, h2, h3, h4⟩
  · rcases h' with ⟨g1, -⟩ | ⟨-, -, g3, -⟩
    · rw [h1, g1]
    · exact absurd g3 (h2 _)
  · rcases h' with ⟨-, g2⟩ | ⟨g1, g2, g3, g4⟩
    · exact absurd h3 (g2 _)
    · have a := h4 Z' g3
      have b := g4 Z h3
      unfold ordS at a b
      omega
theorem MinR.cg {U V : Nat → Prop} {Z : Nat} (h : MinR U Z) (e : ∀ S, U S ↔ V S) : MinR V Z := by
  rcases h with ⟨h1, h2⟩ | ⟨h1, h2, h3, h4⟩
  · exact Or.inl ⟨h1, fun S z => h2 S ((e S).2 z)⟩
  · exact Or.inr ⟨h1, h2, (e Z).1 h3, fun S z => h4 S ((e S).2 z)⟩
theorem MinR.add {U : Nat → Prop} {Z S : Nat} (h : MinR U Z) (S0 : 0 < S) (S8 : S < 256) : MinR (fun T => U T ∨ T = S) (if Z = 0 ∨ pc S < pc Z ∨ (pc S = pc Z ∧ S < Z) then S else Z) := by
  by_cases c : Z = 0 ∨ pc S < pc Z ∨ (pc S = pc Z ∧ S < Z)
  · rw [if_pos c]
    refine Or.inr ⟨S0, S8, Or.inr rfl, fun T hT => ?_⟩
    rcases hT with z | z
    · rcases h with ⟨-, h2⟩ | ⟨h1, h2, h3, h4⟩
      · exact absurd z (h2 T)
      · have := h4 T z
        unfold ordS at this ⊢
        omega
    · rw [z]
      exact Or.inr ⟨rfl, Nat.le_refl _⟩
  · rw [if_neg c]
    rcases h with ⟨h1, h2⟩ | ⟨h1, h2, h3, h4⟩
    · exact absurd (Or.inl h1) c
    · refine Or.inr ⟨h1, h2, Or.inl h3, fun T hT => ?_⟩
      rcases hT with z | z
      · exact h4 T z
      · rw [z]
        unfold ordS
        omega
theorem cb_e {S Z : Nat} (hS : S < 256) (hZ : Z < 256) : fpX0_comesBefore (J (S : Nat)) (J (Z : Nat)) = if Z = 0 ∨ pc S < pc Z ∨ (pc S = pc Z ∧ S < Z) then 1 else 0 := by
  have a := pc_le (S := S)
  have b := pc_le (S := Z)
  unfold fpX0_comesBefore
  rw [bc_d S hS, bc_d Z hZ, J_sub]
  by_cases c0 : Z = 0
  · rw [if_pos (show J (Z : Nat) = (0 : Int32) from (eqN (b := 0) (by omega) (by omega)).2 c0), if_pos (Or.inl c0)]
  · rw [if_neg (show ¬ J (Z : Nat) = (0 : Int32) from fun z => c0 ((eqN (b := 0) (by omega) (by omega)).1 z))]
    have l1 : (J ((pc S : Int) - (pc Z : Int)) < (0 : Int32)) ↔ pc S < pc Z := by
      rw [J_0, ltJ (by omega) (by omega) (by omega) (by omega)]
      omega
    have l2 : (J ((pc S : Int) - (pc Z : Int)) = (0 : Int32)) ↔ pc S = pc Z := by
      rw [J_0, eqJ (by omega) (by omega) (by omega) (by omega)]
      omega
    by_cases c1 : pc S < pc Z
    · rw [if_pos (l1.2 c1), if_pos (Or.inr (Or.inl c1))]
    · rw [if_neg (fun z => c1 (l1.1 z))]
      by_cases c2 : pc S = pc Z
      · rw [if_pos (l2.2 c2)]
        by_cases c3 : Z ≤ S
        · rw [if_pos ((leN (by omega) (by omega)).2 c3), if_neg (by omega)]
        · rw [if_neg (fun z => c3 ((leN (by omega) (by omega)).1 z)), if_pos (by omega)]
      · rw [if_neg (fun z => c2 (l2.1 z)), if_neg (by omega)]
theorem Ring.pos {P : Pr} {S p : Nat} (h : Ring P S p) : 0 < S := by
  refine Nat.pos_of_ne_zero (fun z => ?_)
  have := h.2.2.1
  rw [z] at this
  simp at this
/-- the class's isRing, the table being laid for a first pump -/
theorem irX_e {N : Me} {m s S p : Nat} {P : Pr} (h : PX N m s P) (mN : MT N) (hS : S < 2 ^ m) (S0 : 0 < S) (hp : p < m) (hT : TabX N P (pml P p) (pnd P p) (2 ^ p) (2 ^ m)) : ∃ b, fpX0_isRing (J (S : Nat)) (J (p : Nat)) N = some b ∧ ((b = 1 ∧ Ring P S p) ∨ (b = 0 ∧ ¬ Ring P S p)) := by
  have m8 := h.1
  have S8 : S < 256 := Nat.lt_of_lt_of_le hS (pow_le8 m8)
  have p8 : p < 8 := by omega
  have ab := h.2.2.1
  obtain ⟨n1, n2, -, -⟩ := h.2.2.2.2.2.2.1 p hp
  unfold fpX0_isRing
  rw [h.2.2.2.1]
  by_cases hsb : sb S (pab P)
  · rw [if_pos ((sub_d S8 ab.1).2 hsb), isIn_d S S8 p p8]
    by_cases hb : S.testBit p = true
    · rw [if_pos hb, if_neg (by decide), bc_d S S8]
      have l2 : (J (pc S : Nat) < (2 : Int32)) ↔ pc S < 2 := ltN (b := 2) (by have := pc_le (S := S); omega) (by omega)
      by_cases h2 : pc S < 2
      · rw [if_pos (l2.2 h2)]
        exact ⟨0, rfl, Or.inr ⟨rfl, fun z => by have := z.2.2.2.1; omega⟩⟩
      · rw [if_neg (fun z => h2 (l2.1 z))]
        obtain ⟨o, e1, o1, o2⟩ := mc_e (S := S) (y := p) h S8 (Or.inl hp) (fun l hl => by
          cases c : S.testBit l with
          | true => exact (hT S l S0 hS hsb c).2
          | false => exact (row_out mN S8 (by omega) c).2)
        rw [plc_p p8] at o1
        have o1 := o1.mx m8 mN S8 (fun q hq => ab.2 q (hsb q (bit_lt S8 hq) hq))
        rw [e1, Option.bind_some, inbJ p8 (by decide), Option.bind_some, n2]
        have key : (¬ enc o < J (pnd P p : Nat)) ↔ Ring P S p := by
          rw [Int32.not_lt, enc_le (fun x hx => by have := o2 x hx; omega) (by omega)]
          constructor
          · intro ⟨c, z1, z2⟩
            obtain ⟨l, x, w1, w2, w3⟩ := o1.1 c z1
            obtain ⟨v, g, ef⟩ := (hT S l S0 hS hsb w1).1.1 x w2
            exact ⟨hsb, S8, hb, by omega, v, l, x, g, ef, by omega⟩
          · intro ⟨_, _, _, _, v, l, q, g, ef, hq⟩
            have hl : S.testBit l = true := (g.2.1 l).1 (by simp)
            obtain ⟨q', w1, w2⟩ := (hT S l S0 hS hsb hl).1.2 v q g ef
            obtain ⟨c, z1, z2⟩ := o1.2 l q' hl w1
            have := cr_mono (P := P) (a := pml P l) (b := pml P p) w2
            exact ⟨c, z1, by omega⟩
        by_cases hr : Ring P S p
        · rw [if_neg (key.2 hr)]
          exact ⟨1, rfl, Or.inl ⟨rfl, hr⟩⟩
        · rw [if_pos (Classical.byContradiction (fun z => hr (key.1 z)))]
          exact ⟨0, rfl, Or.inr ⟨rfl, hr⟩⟩
    · rw [if_neg hb, if_pos rfl]
      exact ⟨0, rfl, Or.inr ⟨rfl, fun z => hb z.2.2.1⟩⟩
  · rw [if_neg (fun z => hsb ((sub_d S8 ab.1).1 z))]
    exact ⟨0, rfl, Or.inr ⟨rfl, fun z => hsb z.1⟩⟩
theorem sri_e {N : Me} {m s p Z : Nat} {P : Pr} {U : Nat → Prop} (h : PX N m s P) (mN : MT N) (hp : p < m) (hT : TabX N P (pml P p) (pnd P p) (2 ^ p) (2 ^ m)) (hZ : MinR U Z) : ∃ Z', lp (fpX0_smallestRing_l40 (J (p : Nat)) N) FU (J (Z : Nat), (1 : Int32)) = some (J (Z' : Nat)) ∧ MinR (fun S => U S ∨ Ring P S p) Z' := by
  have m8 := h.1
  have p8 := pow_le8 m8
  have p1 : 1 ≤ 2 ^ m := Nat.one_le_two_pow
  have ab := h.2.2.1
  obtain ⟨r, er, Z', rfl, q1⟩ := lp_ok (step := fpX0_smallestRing_l40 (J (p : Nat)) N) (Q := fun r => ∃ Z' : Nat, r = J (Z' : Nat) ∧ MinR (fun S => U S ∨ Ring P S p) Z') (fun i st => st.2 = J ((1 + i : Nat) : Int) ∧ ∃ Z' : Nat, st.1 = J (Z' : Nat) ∧ MinR (fun S => U S ∨ (S < 1 + i ∧ Ring P S p)) Z') (2 ^ m - 1) (by omega) (s := (J (Z : Nat), (1 : Int32))) ⟨rfl, Z, rfl, hZ.cg (fun S => ⟨fun z => Or.inl z, fun z => by
    rcases z with z | ⟨z1, z2⟩
    · exact z
    · have := z2.pos
      omega⟩)⟩ (by
    intro i st hi hst
    obtain ⟨za, ia⟩ := st
    obtain ⟨s1, Y, s2, x1⟩ := hst
    have s1 : ia = J ((1 + i : Nat) : Int) := s1
    have s2 : za = J (Y : Nat) := s2
    subst s1
    subst s2
    have Y8 : Y < 256 := by
      rcases x1 with ⟨z, -⟩ | ⟨-, z, -⟩
      · rw [z]; decide
      · exact z
    show ok (fpX0_smallestRing_l40s (J (p : Nat)) (J (Y : Nat)) (J ((1 + i : Nat) : Int)) N) _
    unfold fpX0_smallestRing_l40s
    rw [h.2.1, shl_d m (by omega)]
    have es : J ((1 + i : Nat) : Int) + 1 = J ((1 + (i + 1) : Nat) : Int) := J_succ _
    by_cases hin : 1 + i < 2 ^ m
    · refine okF (fun z => by have := (leN (by omega) (by omega)).1 z; omega) ?_
      obtain ⟨b, e1, hb⟩ := irX_e (S := 1 + i) h mN hin (by omega) hp hT
      refine okE e1 ?_
      rcases hb with ⟨rfl, hr⟩ | ⟨rfl, hr⟩
      · refine okF (by decide) ?_
        rw [cb_e (by omega) Y8, es]
        have ad := x1.add (S := 1 + i) (by omega) (by omega)
        have cg : ∀ T, ((U T ∨ (T < 1 + i ∧ Ring P T p)) ∨ T = 1 + i) ↔ (U T ∨ (T < 1 + (i + 1) ∧ Ring P T p)) := fun T => by
          constructor
          · intro z
            rcases z with (z | z) | z
            · exact Or.inl z
            · exact Or.inr ⟨by omega, z.2⟩
            · exact Or.inr ⟨by omega, by rw [z]; exact hr⟩
          · intro z
            rcases z with z | ⟨z1, z2⟩
            · exact Or.inl (Or.inl z)
            · rcases Nat.lt_or_eq_of_le (Nat.le_of_lt_succ (show T < (1 + i) + 1 by omega)) with y | y
              · exact Or.inl (Or.inr ⟨y, z2⟩)
              · exact Or.inr y
        have ad := ad.cg cg
        by_cases c : Y = 0 ∨ pc (1 + i) < pc Y ∨ (pc (1 + i) = pc Y ∧ 1 + i < Y)
        · rw [if_pos c] at ad ⊢
          exact okF (by decide) (okL (okS ⟨by omega, rfl, 1 + i, rfl, ad⟩))
        · rw [if_neg c] at ad ⊢
          exact okT rfl (okL (okS ⟨by omega, rfl, Y, rfl, ad⟩))
      · rw [es]
        refine okT rfl (okL (okS ⟨by omega, rfl, Y, rfl, x1.cg (fun T => ?_)⟩))
        constructor
        · intro z
          rcases z with z | z
          · exact Or.inl z
          · exact Or.inr ⟨by omega, z.2⟩
        · intro z
          rcases z with z | ⟨z1, z2⟩
          · exact Or.inl z
          · rcases Nat.lt_or_eq_of_le (Nat.le_of_lt_succ (show T < (1 + i) + 1 by omega)) with y | y
            · exact Or.inr ⟨y, z2⟩
            · rw [y] at z2
              exact absurd z2 hr
    · refine okT ((leN (by omega) (by omega)).2 (by omega)) (okS ⟨Y, rfl, x1.cg (fun T => ?_)⟩)
      constructor
      · intro z
        rcases z with z | z
        · exact Or.inl z
        · exact Or.inr z.2
      · intro z
        rcases z with z | z
        · exact Or.inl z
        · have := sb_lt z.2.1 ab.2 z.1
          exact Or.inr ⟨by omega, z⟩)
  exact ⟨Z', er, q1⟩
theorem smr_e {A : Me} {m s : Nat} {P : Pr} (h : PX A m s P) (mA : MT A) : ∃ Z N, fpX0_smallestRing A = some (J (Z : Nat), N) ∧ (∀ r j, r ≠ 53 → N.1 r j = A.1 r j) ∧ MT N ∧ MinR (fun S => ∃ p, p < m ∧ Ring P S p) Z := by
  have m8 := h.1
  have ab := h.2.2.1
  obtain ⟨⟨ra, N⟩, er, Z, q1, q2, q3, q4⟩ := lp_ok (step := fpX0_smallestRing_l4) (Q := fun r => ∃ Z : Nat, r.1 = J (Z : Nat) ∧ (∀ r' j, r' ≠ 53 → r.2.1 r' j = A.1 r' j) ∧ MT r.2 ∧ MinR (fun S => ∃ p, p < m ∧ Ring P S p) Z) (fun i st => st.2.1 = J (i : Nat) ∧ ∃ Z : Nat, st.1 = J (Z : Nat) ∧ (∀ r' j, r' ≠ 53 → st.2.2.1 r' j = A.1 r' j) ∧ MT st.2.2 ∧ MinR (fun S => ∃ p, p < i ∧ Ring P S p) Z) m (by omega) (s := ((0 : Int32), (0 : Int32), A)) ⟨rfl, 0, rfl, fun _ _ _ => rfl, mA, Or.inl ⟨rfl, fun S ⟨p, hp, _⟩ => absurd hp (Nat.not_lt_zero _)⟩⟩ (by
    intro i st hi hst
    obtain ⟨za, ia, X⟩ := st
    obtain ⟨s1, Z, s2, x1, x2, x3⟩ := hst
    have s1 : ia = J (i : Nat) := s1
    have s2 : za = J (Z : Nat) := s2
    have x1 : ∀ r' j, r' ≠ 53 → X.1 r' j = A.1 r' j := x1
    have x2 : MT X := x2
    subst s1
    subst s2
    have hX : PX X m s P := h.same (fun r j h1 h2 => x1 r j (by omega))
    show ok (fpX0_smallestRing_l4s (J (Z : Nat)) (J (i : Nat)) X) _
    unfold fpX0_smallestRing_l4s
    rw [hX.2.1, hX.2.2.2.1]
    rcases Nat.lt_or_eq_of_le hi with him | him
    · have i8 : i < 8 := by omega
      refine okF (fun z => by have := (leN (by omega) (by omega)).1 z; omega) ?_
      rw [isIn_d _ ab.1 i i8]
      by_cases hb : (pab P).testBit i = true
      · rw [if_pos hb]
        obtain ⟨n1, n2, -, -⟩ := hX.2.2.2.2.2.2.1 i him
        refine okF (by decide) (okE (inbJ i8 (by decide)) ?_)
        have pi8 : 2 ^ i < 256 := by
          have : 2 ^ i < 2 ^ 8 := Nat.pow_lt_pow_right (by decide) i8
          exact this
        obtain ⟨Y, e1, g1, g2, g3⟩ := spread_e (x := i) (w := pnd P i) (f := 2 ^ i) (s0 := 1) hX x2 (Or.inl him) n1 pi8 (by decide) Nat.one_le_two_pow (fun S l a1 a2 => by omega)
        rw [plc_p i8] at g3
        rw [n2, shl_d i (by omega)]
        have e1 : fpX0_spread (1 : Int32) (J (i : Nat)) (J (pnd P i : Nat)) (J (2 ^ i : Nat)) X = some Y := e1
        have hY : PX Y m s P := hX.same (fun r j h1 h2 => g1 r j (by omega))
        obtain ⟨Z', e2, w1⟩ := sri_e hY g2 him g3 x3
        refine okE e1 (okE e2 (okL (okS ⟨him, J_succ i, Z', rfl, fun r j hr => (g1 r j hr).trans (x1 r j hr), g2, w1.cg (fun S => ?_)⟩)))
        constructor
        · intro z
          rcases z with ⟨p, z1, z2⟩ | z
          · exact ⟨p, by omega, z2⟩
          · exact ⟨i, by omega, z⟩
        · intro ⟨p, z1, z2⟩
          rcases Nat.lt_or_eq_of_le (Nat.le_of_lt_succ z1) with y | y
          · exact Or.inl ⟨p, y, z2⟩
          · rw [y] at z2
            exact Or.inr z2
      · rw [if_neg hb]
        refine okT rfl (okL (okS ⟨him, J_succ i, Z, rfl, x1, x2, x3.cg (fun S => ?_)⟩))
        constructor
        · intro ⟨p, z1, z2⟩
          exact ⟨p, by omega, z2⟩
        · intro ⟨p, z1, z2⟩
          rcases Nat.lt_or_eq_of_le (Nat.le_of_lt_succ z1) with y | y
          · exact ⟨p, y, z2⟩
          · rw [y] at z2
            exact absurd (z2.1 i i8 z2.2.2.1) hb
    · subst him
      exact okT ((leN (by omega) (by omega)).2 (Nat.le_refl _)) (okS ⟨Z, rfl, x1, x2, x3⟩))
  have q1 : ra = J (Z : Nat) := q1
  subst q1
  refine ⟨Z, N, ?_, q2, q3, q4⟩
  unfold fpX0_smallestRing
  rw [er]
  rfl
