/-! The model's best -/
theorem PY.same {M N : Me} {m : Nat} {P : Pr} (h : PY M m P) (f : ∀ r j, r ≠ 8 → N.1 r j = M.1 r j) : PY N m P := by
  obtain ⟨h1, h2, h3, h4, h5, h6, h7, h8, sp, h9, h10, h11, h12⟩ := h
  refine ⟨h1, by rw [f _ _ (by decide)]; exact h2, h3, by rw [f _ _ (by decide)]; exact h4, h5, by rw [f _ _ (by decide)]; exact h6, fun p hp => ?_, fun p hp => ?_, sp, h9, by rw [f _ _ (by decide)]; exact h10, h11, fun q p hq hp => ?_⟩
  · rw [f _ _ (by decide), f _ _ (by decide)]; exact h7 p hp
  · rw [f _ _ (by decide)]; exact h8 p hp
  · rw [f _ _ (by decide)]; exact h12 q p hq hp
theorem left_e {M : Me} {m w a b : Nat} {P : Pr} (h : PY M m P) (hw : w < 1000000) (ha : a < 1000000) (hb : b < 1000000) : fpX6_left (J (w : Nat)) (J (a : Nat)) (J (b : Nat)) M = some (J (cr P w a b : Nat)) := by
  obtain ⟨h1, h2, h3, h4, h5, h6, h7, h8, sp, h9, h10, h11, h12⟩ := h
  rw [leftY h10 hw ha hb (by omega)]
  unfold cr
  rw [h11]
theorem ranY_e {M : Me} {m p : Nat} {o : Option Nat} {P : Pr} (h : PY M m P) (hp : p < m) (ho : ∀ x, o = some x → x < 1000000) : fpX6_ran (enc o) (J (p : Nat)) M = some (enc (o.bind (rn P p))) := by
  obtain ⟨h1, h2, h3, h4, h5, h6, h7, h8, -⟩ := h
  obtain ⟨n1, n2, y1, y2⟩ := h7 p hp
  unfold fpX6_ran letv
  rw [inbJ (show p < 8 by omega) (by decide), Option.bind_some]
  dsimp only
  rw [h4, has_d _ h3.1 p (by omega), n2, y2, h6]
  cases o with
  | none =>
    rw [if_pos (show enc none < (0 : Int32) by decide)]
    rfl
  | some x =>
    have hx := ho x rfl
    show (if J (x : Nat) < 0 then some (-1 : Int32) else if J (x : Nat) < J (pnd P p : Nat) then some (-1) else if (if (pab P).testBit p = true then (1 : Int32) else 0) = 0 then some (-1) else if J (prom P : Nat) ≤ J (x : Nat) - J (pnd P p : Nat) + J (pyl P p : Nat) then some (J (prom P : Nat)) else some (J (x : Nat) - J (pnd P p : Nat) + J (pyl P p : Nat))) = some (enc (rn P p x))
    rw [if_neg (fun z => by have := (ltN (b := 0) (by omega) (by omega)).1 z; omega)]
    by_cases hn : x < pnd P p
    · rw [if_pos ((ltN (by omega) (by omega)).2 hn)]
      have : rn P p x = none := if_neg (fun z => by have := z.2; omega)
      rw [this]
      rfl
    · rw [if_neg (fun z => hn ((ltN (by omega) (by omega)).1 z))]
      by_cases hb : (pab P).testBit p = true
      · rw [if_pos hb, if_neg (by decide), subN (by omega), addN, rn_of hb (by omega)]
        by_cases hr : prom P ≤ x - pnd P p + pyl P p
        · rw [if_pos ((leN (by omega) (by omega)).2 hr)]
          show some (J (prom P : Nat)) = some (J (min (prom P) (x - pnd P p + pyl P p) : Nat))
          rw [Nat.min_eq_left hr]
        · rw [if_neg (fun z => hr ((leN (by omega) (by omega)).1 z))]
          show some (J (x - pnd P p + pyl P p : Nat)) = some (J (min (prom P) (x - pnd P p + pyl P p) : Nat))
          rw [Nat.min_eq_right (by omega)]
      · rw [if_neg hb, if_pos rfl]
        have : rn P p x = none := if_neg (fun z => hb z.1)
        rw [this]
        rfl
def ty8 (M : Me) (S l : Nat) : Option Nat := dec (M.1 8 (8 * S + l))
def RowY (M : Me) (S l : Nat) : Prop := M.1 8 (8 * S + l) = enc (ty8 M S l) ∧ ∀ x, ty8 M S l = some x → x < 1000
theorem itM_e {M : Me} {m p : Nat} {P : Pr} (h : PY M m P) (hp : p < m) : fpX6_its (J (p : Nat)) (1 : Int32) M = some (J (pml P p : Nat)) := by
  have h1 := h.1
  have := (h.2.2.2.2.2.2.2.1 p hp).2
  refine (itsE (w := 1) (by omega) (by decide)).trans ?_
  rw [this]
/-- the most over a set's members below i -/
def MyI (P : Pr) (S i : Nat) (T : Nat → Option Nat) (e : Nat) (o : Option Nat) : Prop := (∀ c, o = some c → ∃ l x, S.testBit l = true ∧ T l = some x ∧ c = cr P x (pml P l) e) ∧ ∀ l x, l < i → S.testBit l = true → T l = some x → ∃ c, o = some c ∧ cr P x (pml P l) e ≤ c
theorem cw_e {M : Me} {m S p a w : Nat} {P : Pr} (h : PY M m P) (hS : S < 256) (S0 : S ≠ 0) (hb : ∀ q, S.testBit q = true → q < m) (hp : p < m) (hr : ∀ l, S.testBit l = true → RowY M S l) : ∃ o, fpX6_comesWith (J (S : Nat)) (J (p : Nat)) (J (w : Nat)) (J (a : Nat)) M = some (enc o) ∧ Mx P S (ty8 M S) (pml P p) o ∧ ∀ x, o = some x → x < 1000 := by
  have h1 := h.1
  obtain ⟨sp, sp9, -, hls, hlo⟩ := h.2.2.2.2.2.2.2.2
  obtain ⟨r, e, o, ho, q1, q2⟩ := lp_ok (step := fpX6_comesWith_l24 (J (S : Nat)) (J (p : Nat)) M) (Q := fun r => ∃ o, r = enc o ∧ MyI P S 8 (ty8 M S) (pml P p) o ∧ ∀ x, o = some x → x < 1000) (fun i st => st.2 = J (i : Nat) ∧ ∃ o, st.1 = enc o ∧ MyI P S i (ty8 M S) (pml P p) o ∧ ∀ x, o = some x → x < 1000) 8 (by omega) (s := ((-1 : Int32), (0 : Int32))) ⟨rfl, none, rfl, ⟨fun c e => (by cases e), fun l x hl => absurd hl (Nat.not_lt_zero _)⟩, fun x e => (by cases e)⟩ (by
    intro i st hi hst
    obtain ⟨b, ia⟩ := st
    obtain ⟨s2, o, s1, o1, o2⟩ := hst
    have s2 : ia = J (i : Nat) := s2
    have s1 : b = enc o := s1
    subst s2
    subst s1
    show ok (fpX6_comesWith_l24s (J (S : Nat)) (J (p : Nat)) (enc o) (J (i : Nat)) M) _
    unfold fpX6_comesWith_l24s
    rcases Nat.lt_or_eq_of_le hi with him | him
    · refine okF (fun z => by have := (leN (a := 8) (by omega) (by omega)).1 z; omega) ?_
      rw [has_d S hS i him]
      have neg1 : (-1 : Int32) ≤ enc o := by
        cases o with
        | none => exact Int32.le_refl _
        | some c =>
          have := o2 c rfl
          exact (leJ (a := -1) (b := (c : Int)) (by omega) (by omega) (by omega) (by omega)).2 (by omega)
      have skip : (∀ x, S.testBit i = true → ty8 M S i = some x → ∃ c, o = some c ∧ cr P x (pml P i) (pml P p) ≤ c) → MyI P S (i + 1) (ty8 M S) (pml P p) o := by
        intro hs
        refine ⟨o1.1, fun l x hl hbl hx => ?_⟩
        rcases Nat.lt_or_eq_of_le (Nat.le_of_lt_succ hl) with z | z
        · exact o1.2 l x z hbl hx
        · subst z
          exact hs x hbl hx
      by_cases hbi : S.testBit i = true
      · rw [if_pos hbi]
        have e8 : (8 : Int32) * J (S : Nat) + J (i : Nat) = J ((8 * S + i : Nat) : Int) := by
          rw [show (8 : Int32) = J 8 from rfl, J_mul, J_add]
          rfl
        refine okF (by decide) ?_
        rw [e8]
        refine okE (inbJ (show 8 * S + i < 2048 by omega) (by decide)) ?_
        obtain ⟨r1, r2⟩ := hr i hbi
        have him' := hb i hbi
        rw [r1]
        unfold fpX6_comesWith_b56_24
        cases hx : ty8 M S i with
        | none => exact okT neg1 (okL (okS ⟨him, J_succ i, o, rfl, skip (fun x _ e => by rw [hx] at e; cases e), o2⟩))
        | some x =>
          have x9 := r2 x hx
          by_cases c1 : enc (some x) ≤ enc o
          · obtain ⟨c, d1, d2⟩ := (enc_le (o := o) (y := x) (fun z e => by have := o2 z e; omega) (by omega)).1 c1
            exact okT c1 (okL (okS ⟨him, J_succ i, o, rfl, skip (fun x' _ e => by
              rw [hx] at e
              cases e
              exact ⟨c, d1, Nat.le_trans (show cr P x _ _ ≤ x by unfold cr; omega) d2⟩), o2⟩))
          · refine okF c1 ?_
            have e8' : (8 : Int32) * J (i : Nat) + J (p : Nat) = J ((8 * i + p : Nat) : Int) := by
              rw [show (8 : Int32) = J 8 from rfl, J_mul, J_add]
              rfl
            rw [e8']
            refine okE (inbJ (show 8 * i + p < 64 by omega) (by decide)) ?_
            rw [hlo i p him' hp]
            have hl9 : ls sp (pml P i) (pml P p) < 100 := ls_lt (h.2.2.2.2.2.2.2.1 i him').1 (h.2.2.2.2.2.2.2.1 p hp).1
            have ecr : cr P x (pml P i) (pml P p) = x - ls sp (pml P i) (pml P p) := by
              unfold cr
              rw [hls]
            have tail : ok (fpX6_comesWith_b101_24 (J (S : Nat)) (J (p : Nat)) (enc o) (J (i : Nat)) (J (cr P x (pml P i) (pml P p) : Nat)) M) (Sum.elim (fun s' => i < 8 ∧ s'.2 = J ((i + 1 : Nat) : Int) ∧ ∃ o, s'.1 = enc o ∧ MyI P S (i + 1) (ty8 M S) (pml P p) o ∧ ∀ x, o = some x → x < 1000) (fun r => ∃ o, r = enc o ∧ MyI P S 8 (ty8 M S) (pml P p) o ∧ ∀ x, o = some x → x < 1000)) := by
              unfold fpX6_comesWith_b101_24
              by_cases c2 : J (cr P x (pml P i) (pml P p) : Nat) ≤ enc o
              · obtain ⟨c, d1, d2⟩ := (enc_le (o := o) (fun z e => by have := o2 z e; omega) (by omega)).1 c2
                exact okT c2 (okL (okS ⟨him, J_succ i, o, rfl, skip (fun x' _ e => by
                  rw [hx] at e
                  cases e
                  exact ⟨c, d1, d2⟩), o2⟩))
              · refine okF c2 (okL (okS ⟨him, J_succ i, some (cr P x (pml P i) (pml P p)), rfl, ⟨fun c e => ?_, fun l x' hl hbl hx' => ?_⟩, fun z e => by cases e; omega⟩))
                · cases e
                  exact ⟨i, x, hbi, hx, rfl⟩
                · refine ⟨_, rfl, ?_⟩
                  rcases Nat.lt_or_eq_of_le (Nat.le_of_lt_succ hl) with z | z
                  · obtain ⟨c, d1, d2⟩ := o1.2 l x' z hbl hx'
                    refine Nat.le_of_lt (Nat.lt_of_le_of_lt d2 ?_)
                    refine Nat.lt_of_not_le (fun w => c2 ((enc_le (o := o) (fun z e => by have := o2 z e; omega) (by omega)).2 ⟨c, d1, w⟩))
                  · subst z
                    rw [hx] at hx'
                    cases hx'
                    exact Nat.le_refl _
            by_cases c3 : x ≤ ls sp (pml P i) (pml P p)
            · refine okT ((leN (by omega) (by omega)).2 c3) ?_
              rw [show cr P x (pml P i) (pml P p) = 0 by omega] at tail
              exact tail
            · refine okF (fun z => c3 ((leN (by omega) (by omega)).1 z)) ?_
              show ok (fpX6_comesWith_b101_24 (J (S : Nat)) (J (p : Nat)) (enc o) (J (i : Nat)) (J (x : Nat) - J (ls sp (pml P i) (pml P p) : Nat)) M) _
              rw [subN (by omega), ← ecr]
              exact tail
      · rw [if_neg hbi]
        refine okT rfl ?_
        unfold fpX6_comesWith_b56_24
        exact okT neg1 (okL (okS ⟨him, J_succ i, o, rfl, skip (fun x e => absurd e hbi), o2⟩))
    · subst him
      exact okT (by decide) (okS ⟨o, rfl, o1, o2⟩))
  refine ⟨o, ?_, ⟨q1.1, fun l x hl hx => q1.2 l x (bit_lt hS hl) hl hx⟩, q2⟩
  unfold fpX6_comesWith
  rw [if_neg (show ¬ J (S : Nat) = (0 : Int32) from fun z => S0 ((eqN (b := 0) (by omega) (by omega)).1 z)), e, ho]
  rfl
