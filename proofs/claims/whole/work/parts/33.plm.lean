/-! The class's table filled, and the most -/
theorem Top.le {P : Pr} {a w f S l q : Nat} {o : Option Nat} (h : Top P a w f S l o) (e : o = some q) : q ≤ prom P := by
  obtain ⟨v, -, ef⟩ := h.1 q e
  obtain ⟨s, -, hr⟩ := fr_snoc.1 ef
  obtain ⟨-, -, rfl⟩ := rn_some hr
  omega
theorem lt_pow {S m : Nat} (h : ∀ q, S.testBit q = true → q < m) : S < 2 ^ m := by
  refine Nat.lt_pow_two_of_testBit S (fun i hi => ?_)
  cases z : S.testBit i with
  | false => rfl
  | true =>
    have := h i z
    omega
theorem pow_le8 {m : Nat} (h : m ≤ 8) : 2 ^ m ≤ 256 := Nat.pow_le_pow_right (n := 2) (i := m) (j := 8) (by decide) h
theorem row_out {M : Me} {S l : Nat} (h : MT M) (hS : S < 256) (hl : l < 8) (hb : S.testBit l = false) : tb M S l = none ∧ RowX M S l := by
  have e := h S hS l hl hb
  have t : tb M S l = none := by
    unfold tb
    rw [e]
    rfl
  refine ⟨t, ?_, fun x hx => ?_⟩
  · rw [t, e]
    rfl
  · rw [t] at hx
    cases hx
def TabX (M : Me) (P : Pr) (a w f N : Nat) : Prop := ∀ S l, 0 < S → S < N → sb S (pab P) → S.testBit l = true → Top P a w f S l (tb M S l) ∧ RowX M S l
theorem tb_same {M N : Me} {S l : Nat} (h : N.1 53 (8 * S + l) = M.1 53 (8 * S + l)) : tb N S l = tb M S l := by
  unfold tb
  rw [h]
theorem RowX.same {M N : Me} {S l : Nat} (h : N.1 53 (8 * S + l) = M.1 53 (8 * S + l)) (r : RowX M S l) : RowX N S l := by
  unfold RowX
  rw [tb_same h, h]
  exact r
theorem MxI.mx {M : Me} {P : Pr} {m S e : Nat} {o : Option Nat} (hm : m ≤ 8) (hMT : MT M) (hS : S < 256) (hb : ∀ q, S.testBit q = true → q < m) (h : MxI P m (tb M S) e o) : Mx P S (tb M S) e o := by
  constructor
  · intro c hc
    obtain ⟨l, x, h1, h2, h3⟩ := h.1 c hc
    refine ⟨l, x, ?_, h2, h3⟩
    cases z : S.testBit l with
    | true => rfl
    | false =>
      have := (row_out hMT hS (show l < 8 by omega) z).1
      rw [this] at h2
      cases h2
  · intro l x h1 h2
    exact h.2 l x (hb l h1) h2
theorem b97_e {X : Me} {m s S i : Nat} {o : Option Nat} {P : Pr} {a2 a3 a4 : Int32} (h : PX X m s P) (hS : S < 256) (hi : i < m) (ho : ∀ x, o = some x → x < 1000000) : fpX0_spread_b97_29 a2 a3 a4 (J (S : Nat)) (J (i : Nat)) (enc o) X = some (.inl (J ((i + 1 : Nat) : Int), wrM X 53 (8 * S + i) (enc (o.bind (rn P i))))) := by
  have h1 := h.1
  unfold fpX0_spread_b97_29 letv
  have e8 : J (S : Nat) * (8 : Int32) + J (i : Nat) = J ((8 * S + i : Nat) : Int) := by
    rw [show (8 : Int32) = J 8 from rfl, J_mul, J_add]
    congr 1
    omega
  rw [ran_e h hi ho, Option.bind_some, e8, inbJ (by omega) (by decide), Option.bind_some, J_succ]
theorem wr_tb {X : Me} {S i : Nat} {o : Option Nat} (ho : ∀ x, o = some x → x < 1000) : tb (wrM X 53 (8 * S + i) (enc o)) S i = o ∧ RowX (wrM X 53 (8 * S + i) (enc o)) S i := by
  have t : tb (wrM X 53 (8 * S + i) (enc o)) S i = o := by
    unfold tb
    rw [wrM_eq, dec_enc (fun x hx => by have := ho x hx; omega)]
  refine ⟨t, ?_, fun x hx => ho x (t.symm.trans hx)⟩
  rw [t, wrM_eq]
theorem inner_e {K : Me} {m s x w f S : Nat} {P : Pr} (h : PX K m s P) (hMT : MT K) (hx : okp m x) (hw : w < 1000) (hf : f < 256) (S0 : 0 < S) (hS : S < 2 ^ m) (hsb : sb S (pab P)) (hT : TabX K P (plc P s x) w f S) : ∃ N, lp (fpX0_spread_l29 (J (x : Nat)) (J (w : Nat)) (J (f : Nat)) (J (S : Nat))) FU ((0 : Int32), K) = some N ∧ (∀ r j, r ≠ 53 → N.1 r j = K.1 r j) ∧ MT N ∧ TabX N P (plc P s x) w f (S + 1) := by
  have h1 := h.1
  have hS8 : S < 256 := Nat.lt_of_lt_of_le hS (pow_le8 h1)
  have hSm : ∀ q, S.testBit q = true → q < m := fun q hq => h.2.2.1.2 q (hsb q (bit_lt hS8 hq) hq)
  obtain ⟨N, e, f1, f2, f3, f4⟩ := lp_ok (step := fpX0_spread_l29 (J (x : Nat)) (J (w : Nat)) (J (f : Nat)) (J (S : Nat))) (Q := fun N => (∀ r j, r ≠ 53 → N.1 r j = K.1 r j) ∧ (∀ S' l, S' ≠ S → l < 8 → N.1 53 (8 * S' + l) = K.1 53 (8 * S' + l)) ∧ MT N ∧ ∀ l, l < m → S.testBit l = true → Top P (plc P s x) w f S l (tb N S l) ∧ RowX N S l) (fun i st => st.1 = J (i : Nat) ∧ (∀ r j, r ≠ 53 → st.2.1 r j = K.1 r j) ∧ (∀ S' l, S' ≠ S → l < 8 → st.2.1 53 (8 * S' + l) = K.1 53 (8 * S' + l)) ∧ MT st.2 ∧ ∀ l, l < i → S.testBit l = true → Top P (plc P s x) w f S l (tb st.2 S l) ∧ RowX st.2 S l) m (by omega) (s := ((0 : Int32), K)) ⟨rfl, fun _ _ _ => rfl, fun _ _ _ _ => rfl, hMT, fun l hl => absurd hl (Nat.not_lt_zero _)⟩ (by
    intro i st hi hst
    obtain ⟨ia, X⟩ := st
    obtain ⟨s1, x1, x2, x3, x4⟩ := hst
    have s1 : ia = J (i : Nat) := s1
    have x1 : ∀ r j, r ≠ 53 → X.1 r j = K.1 r j := x1
    have x2 : ∀ S' l, S' ≠ S → l < 8 → X.1 53 (8 * S' + l) = K.1 53 (8 * S' + l) := x2
    have x3 : MT X := x3
    have x4 : ∀ l, l < i → S.testBit l = true → Top P (plc P s x) w f S l (tb X S l) ∧ RowX X S l := x4
    subst s1
    have hX : PX X m s P := h.same (fun r j r1 r2 => x1 r j (by omega))
    show ok (fpX0_spread_l29s (J (x : Nat)) (J (w : Nat)) (J (f : Nat)) (J (S : Nat)) (J (i : Nat)) X) _
    unfold fpX0_spread_l29s
    rw [hX.2.1]
    rcases Nat.lt_or_eq_of_le hi with him | him
    · have i8 : i < 8 := by omega
      refine okF (fun z => by have := (leN (by omega) (by omega)).1 z; omega) ?_
      rw [isIn_d S hS8 i i8, isIn_d f hf i i8, del_d S hS8 i i8]
      by_cases hb : S.testBit i = true
      · rw [if_pos hb]
        refine okF (by decide) (okL ?_)
        -- what is written
        have fin : ∀ o : Option Nat, (∀ y, o = some y → y < 1000000) → Top P (plc P s x) w f S i (o.bind (rn P i)) → ok (fpX0_spread_b97_29 (J (x : Nat)) (J (w : Nat)) (J (f : Nat)) (J (S : Nat)) (J (i : Nat)) (enc o) X) (Sum.elim (fun s' => i < m ∧ s'.1 = J ((i + 1 : Nat) : Int) ∧ (∀ r j, r ≠ 53 → s'.2.1 r j = K.1 r j) ∧ (∀ S' l, S' ≠ S → l < 8 → s'.2.1 53 (8 * S' + l) = K.1 53 (8 * S' + l)) ∧ MT s'.2 ∧ ∀ l, l < i + 1 → S.testBit l = true → Top P (plc P s x) w f S l (tb s'.2 S l) ∧ RowX s'.2 S l) (fun N => (∀ r j, r ≠ 53 → N.1 r j = K.1 r j) ∧ (∀ S' l, S' ≠ S → l < 8 → N.1 53 (8 * S' + l) = K.1 53 (8 * S' + l)) ∧ MT N ∧ ∀ l, l < m → S.testBit l = true → Top P (plc P s x) w f S l (tb N S l) ∧ RowX N S l)) := by
          intro o ho hTop
          rw [b97_e hX hS8 him ho]
          have hb9 : ∀ y, o.bind (rn P i) = some y → y < 1000 := fun y hy => Nat.lt_of_le_of_lt (hTop.le hy) h.2.2.2.2.1
          obtain ⟨t1, t2⟩ := wr_tb (X := X) (S := S) (i := i) hb9
          refine okS ⟨him, rfl, fun r j hr => ?_, fun S' l hS' hl => ?_, fun S' hS' l hl hbl => ?_, fun l hl hbl => ?_⟩
          · exact (wrM_nr hr).trans (x1 r j hr)
          · exact (wrM_nj (by omega)).trans (x2 S' l hS' hl)
          · by_cases e2 : S' = S ∧ l = i
            · rw [e2.1, e2.2, hb] at hbl
              cases hbl
            · exact (wrM_nj (by omega)).trans (x3 S' hS' l hl hbl)
          · rcases Nat.lt_or_eq_of_le (Nat.le_of_lt_succ hl) with z | z
            · have es : (wrM X 53 (8 * S + i) (enc (o.bind (rn P i)))).1 53 (8 * S + l) = X.1 53 (8 * S + l) := wrM_nj (by omega)
              obtain ⟨y1, y2⟩ := x4 l z hbl
              exact ⟨by rw [show tb (wrM X 53 (8 * S + i) (enc (o.bind (rn P i)))) S l = tb X S l from tb_same es]; exact y1, y2.same es⟩
            · subst z
              exact ⟨by rw [t1]; exact hTop, t2⟩
        by_cases h0 : dl S i = 0
        · rw [h0]
          refine okT rfl ?_
          have hone := Top.one (P := P) (a := plc P s x) (w := w) (f := f) hS8 i8 hb h0
          by_cases hfi : f.testBit i = true
          · rw [if_pos hfi] at hone ⊢
            refine okF (by decide) (okE (car_e (w := w) hX hx (Or.inl him) (by omega)) ?_)
            rw [plc_p i8]
            exact fin (some (cr P w (plc P s x) (pml P i))) (fun y hy => by cases hy; unfold cr; omega) hone
          · rw [if_neg hfi] at hone ⊢
            refine okT rfl ?_
            exact fin none (fun y hy => by cases hy) hone
        · have dS := dl_lt' S hS8 i i8 hb
          have d8 := dl_lt S hS8 i i8
          have hdm : ∀ q, (dl S i).testBit q = true → S.testBit q = true := fun q hq => by
            rw [dl_bit S hS8 i i8 q (bit_lt d8 hq)] at hq
            simp only [Bool.and_eq_true] at hq
            exact hq.1
          have hdT : ∀ l, (dl S i).testBit l = true → Top P (plc P s x) w f (dl S i) l (tb X (dl S i) l) ∧ RowX X (dl S i) l := fun l hl => by
            have es := x2 (dl S i) l (by omega) (bit_lt d8 hl)
            obtain ⟨y1, y2⟩ := hT (dl S i) l (Nat.pos_of_ne_zero h0) dS (fun q q8 hq => hsb q q8 (hdm q hq)) hl
            exact ⟨by rw [tb_same es]; exact y1, y2.same es⟩
          refine okF (fun z => h0 ((eqN (b := 0) (by omega) (by omega)).1 z)) ?_
          obtain ⟨o, c1, c2, c3⟩ := mc_e (S := dl S i) (y := i) hX d8 (Or.inl him) (fun l hl => by
            cases z : (dl S i).testBit l with
            | true => exact (hdT l z).2
            | false => exact (row_out x3 d8 (by omega) z).2)
          refine okE c1 ?_
          rw [plc_p i8] at c2
          exact fin o (fun y hy => by have := c3 y hy; omega) (Top.step hS8 i8 hb h0 (fun l hl => (hdT l hl).1) (c2.mx h1 x3 d8 (fun q hq => hSm q (hdm q hq))))
      · rw [if_neg hb]
        refine okT rfl (okL (okS ⟨him, J_succ i, x1, x2, x3, fun l hl hbl => ?_⟩))
        rcases Nat.lt_or_eq_of_le (Nat.le_of_lt_succ hl) with z | z
        · exact x4 l z hbl
        · subst z
          exact absurd hbl hb
    · subst him
      exact okT ((leN (by omega) (by omega)).2 (Nat.le_refl _)) (okS ⟨x1, x2, x3, x4⟩))
  refine ⟨N, e, f1, f3, fun S' l s0 s1 s2 s3 => ?_⟩
  rcases Nat.lt_or_eq_of_le (Nat.le_of_lt_succ s1) with z | z
  · have es := f2 S' l (by omega) (bit_lt (by omega) s3)
    obtain ⟨y1, y2⟩ := hT S' l s0 z s2 s3
    exact ⟨by rw [tb_same es]; exact y1, y2.same es⟩
  · subst z
    exact f4 l (hSm l s3) s3
theorem spread_e {M : Me} {m s x w f s0 : Nat} {P : Pr} (h : PX M m s P) (hMT : MT M) (hx : okp m x) (hw : w < 1000) (hf : f < 256) (s01 : 0 < s0) (s0m : s0 ≤ 2 ^ m) (hT : TabX M P (plc P s x) w f s0) : ∃ N, fpX0_spread (J (s0 : Nat)) (J (x : Nat)) (J (w : Nat)) (J (f : Nat)) M = some N ∧ (∀ r j, r ≠ 53 → N.1 r j = M.1 r j) ∧ MT N ∧ TabX N P (plc P s x) w f (2 ^ m) := by
  have h1 := h.1
  have p8 := pow_le8 h1
  obtain ⟨N, e, f1, f2, f3⟩ := lp_ok (step := fpX0_spread_l3 (J (x : Nat)) (J (w : Nat)) (J (f : Nat))) (Q := fun N => (∀ r j, r ≠ 53 → N.1 r j = M.1 r j) ∧ MT N ∧ TabX N P (plc P s x) w f (2 ^ m)) (fun i st => s0 + i ≤ 2 ^ m ∧ st.1 = J ((s0 + i : Nat) : Int) ∧ (∀ r j, r ≠ 53 → st.2.1 r j = M.1 r j) ∧ MT st.2 ∧ TabX st.2 P (plc P s x) w f (s0 + i)) (2 ^ m - s0) (by omega) (s := (J (s0 : Nat), M)) ⟨by omega, rfl, fun _ _ _ => rfl, hMT, hT⟩ (by
    intro i st hi hst
    obtain ⟨ia, X⟩ := st
    obtain ⟨sl, s1, x1, x3, x4⟩ := hst
    have s1 : ia = J ((s0 + i : Nat) : Int) := s1
    have x1 : ∀ r j, r ≠ 53 → X.1 r j = M.1 r j := x1
    have x3 : MT X := x3
    have x4 : TabX X P (plc P s x) w f (s0 + i) := x4
    subst s1
    have hX : PX X m s P := h.same (fun r j r1 r2 => x1 r j (by omega))
    show ok (fpX0_spread_l3s (J (x : Nat)) (J (w : Nat)) (J (f : Nat)) (J ((s0 + i : Nat) : Int)) X) _
    unfold fpX0_spread_l3s
    rw [hX.2.1, hX.2.2.2.1, shl_d m (by omega)]
    by_cases hc : 2 ^ m ≤ s0 + i
    · have he : s0 + i = 2 ^ m := by omega
      rw [he] at x4
      exact okT ((leN (by omega) (by omega)).2 hc) (okS ⟨x1, x3, x4⟩)
    · refine okF (fun z => hc ((leN (by omega) (by omega)).1 z)) ?_
      by_cases hsb : sb (s0 + i) (pab P)
      · refine okT ((sub_d (by omega) h.2.2.1.1).2 hsb) ?_
        obtain ⟨N, e, f1, f2, f3⟩ := inner_e hX x3 hx hw hf (by omega) (by omega) hsb x4
        refine okE e (okL (okS ⟨by omega, by omega, J_succ _, fun r j hr => (f1 r j hr).trans (x1 r j hr), f2, f3⟩))
      · refine okF (fun z => hsb ((sub_d (by omega) h.2.2.1.1).1 z)) (okL (okS ⟨by omega, by omega, J_succ _, x1, x3, fun S l t0 t1 t2 t3 => ?_⟩))
        rcases Nat.lt_or_eq_of_le (Nat.le_of_lt_succ t1) with z | z
        · exact x4 S l t0 z t2 t3
        · subst z
          exact absurd t2 hsb)
  refine ⟨N, ?_, f1, f2, f3⟩
  unfold fpX0_spread
  rw [e]
  rfl
