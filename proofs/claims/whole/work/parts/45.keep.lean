/-! keep -/
def sumR (f : Nat → Nat) : Nat → Nat
  | 0 => 0
  | i + 1 => sumR f i + f i
def sumL (f : Nat → Nat) : List Nat → Nat
  | [] => 0
  | p :: t => f p + sumL f t
theorem sumL_erase (f : Nat → Nat) (p : Nat) : ∀ u : List Nat, p ∈ u → sumL f u = f p + sumL f (u.erase p)
  | [], h => by cases h
  | q :: t, h => by
    by_cases e : q = p
    · subst e
      rw [List.erase_cons_head]
      rfl
    · have h2 : p ∈ t := by
        rcases List.mem_cons.1 h with z | z
        · exact absurd z.symm e
        · exact z
      rw [List.erase_cons_tail (by simpa using e)]
      have := sumL_erase f p t h2
      show f q + sumL f t = f p + (f q + sumL f (t.erase p))
      omega
theorem sumL_le (f : Nat → Nat) : ∀ (m : Nat) (u : List Nat), u.Nodup → (∀ p, p ∈ u → p < m) → sumL f u ≤ sumR f m
  | 0, u, _, h => by
    cases u with
    | nil => exact Nat.le_refl _
    | cons p t => exact absurd (h p (by simp)) (Nat.not_lt_zero _)
  | m + 1, u, hn, h => by
    by_cases hm : m ∈ u
    · have h1 := sumL_erase f m u hm
      have h2 := sumL_le f m (u.erase m) (hn.erase m) (fun p hp => by
        have h3 := (List.Nodup.mem_erase_iff hn).1 hp
        have := h p h3.2
        omega)
      show sumL f u ≤ sumR f m + f m
      omega
    · have h2 := sumL_le f m u hn (fun p hp => by
        have := h p hp
        have : p ≠ m := fun z => hm (by rw [← z]; exact hp)
        omega)
      show sumL f u ≤ sumR f m + f m
      omega
theorem sumR_add (way : Nat) (g : Nat → Nat) : ∀ m, sumR (fun p => way + g p) m = m * way + sumR g m
  | 0 => by simp [sumR]
  | m + 1 => by
    show sumR (fun p => way + g p) m + (way + g m) = (m + 1) * way + (sumR g m + g m)
    rw [sumR_add way g m, Nat.add_mul]
    omega
def isP (m x : Nat) : Prop := x < m ∨ x = 8
theorem ein_e {M : Me} {m s p w0 : Nat} {a2 a3 : Int32} {P : Pr} (h : PX M m s P) (hp : p < m) (hw : w0 < 1000) : ∃ way, lp (fpX0_enoughForAll_l21 a2 a3 (J (p : Nat)) M) FU (J (w0 : Nat), (0 : Int32)) = some (J (way : Nat)) ∧ way < 1000 ∧ w0 ≤ way ∧ ∀ x, isP m x → pls P (plc P s x) (pml P p) ≤ way := by
  have m8 := h.1
  obtain ⟨r, e, way, q1, q2, q3, q4⟩ := lp_ok (step := fpX0_enoughForAll_l21 a2 a3 (J (p : Nat)) M) (Q := fun r => ∃ way : Nat, r = J (way : Nat) ∧ way < 1000 ∧ w0 ≤ way ∧ ∀ x, isP m x → pls P (plc P s x) (pml P p) ≤ way) (fun i st => st.2 = J (i : Nat) ∧ ∃ way : Nat, st.1 = J (way : Nat) ∧ way < 1000 ∧ w0 ≤ way ∧ ∀ x, x < i → isP m x → pls P (plc P s x) (pml P p) ≤ way) 9 (by omega) (s := (J (w0 : Nat), (0 : Int32))) ⟨rfl, w0, rfl, hw, Nat.le_refl _, fun x hx => absurd hx (Nat.not_lt_zero _)⟩ (by
    intro i st hi hst
    obtain ⟨wa, ia⟩ := st
    obtain ⟨s1, way, s2, x1, x2, x3⟩ := hst
    have s1 : ia = J (i : Nat) := s1
    have s2 : wa = J (way : Nat) := s2
    subst s1
    subst s2
    show ok (fpX0_enoughForAll_l21s a2 a3 (J (p : Nat)) (J (way : Nat)) (J (i : Nat)) M) _
    unfold fpX0_enoughForAll_l21s
    rw [h.2.1]
    rcases Nat.lt_or_eq_of_le hi with hin | hin
    · refine okF (fun z => by have := (ltN (a := 8) (by omega) (by omega)).1 z; omega) ?_
      have b44 : isP m i → ok (fpX0_enoughForAll_b44_21 (J (way : Nat)) a2 a3 (J (p : Nat)) (J (i : Nat)) M) (Sum.elim (fun st => i < 9 ∧ st.2 = J ((i + 1 : Nat) : Int) ∧ ∃ way : Nat, st.1 = J (way : Nat) ∧ way < 1000 ∧ w0 ≤ way ∧ ∀ x, x < i + 1 → isP m x → pls P (plc P s x) (pml P p) ≤ way) (fun r => ∃ way : Nat, r = J (way : Nat) ∧ way < 1000 ∧ w0 ≤ way ∧ ∀ x, isP m x → pls P (plc P s x) (pml P p) ≤ way)) := by
        intro hx
        unfold fpX0_enoughForAll_b44_21
        have okx : okp m i := by unfold isP at hx; unfold okp; omega
        obtain ⟨l1, l2⟩ := h.2.2.2.2.2.2.2 i p okx (Or.inl hp)
        rw [plc_p (x := p) (by omega)] at l1 l2
        have e10 : J (i : Nat) * (10 : Int32) + J (p : Nat) = J ((10 * i + p : Nat) : Int) := by
          rw [show (10 : Int32) = J 10 from rfl, J_mul, J_add]
          congr 1
          omega
        rw [e10]
        refine okE (inbJ (by omega) (by decide)) (okL (okL ?_))
        rw [l2, maxN (by omega) (by omega)]
        refine okS ⟨hin, J_succ i, _, rfl, by omega, by omega, fun x hxi hx' => ?_⟩
        rcases Nat.lt_or_eq_of_le (Nat.le_of_lt_succ hxi) with z | z
        · have := x3 x z hx'
          omega
        · rw [z]
          omega
      by_cases c1 : i < m
      · exact okT ((ltN (by omega) (by omega)).2 c1) (b44 (Or.inl c1))
      · refine okF (fun z => c1 ((ltN (by omega) (by omega)).1 z)) ?_
        by_cases c2 : i = 8
        · exact okT ((eqN (b := 8) (by omega) (by omega)).2 c2) (b44 (Or.inr c2))
        · refine okF (fun z => c2 ((eqN (b := 8) (by omega) (by omega)).1 z)) (okL (okS ⟨hin, J_succ i, way, rfl, x1, x2, fun x hxi hx' => ?_⟩))
          rcases Nat.lt_or_eq_of_le (Nat.le_of_lt_succ hxi) with z | z
          · exact x3 x z hx'
          · rw [z] at hx'
            rcases hx' with y | y
            · exact absurd y c1
            · exact absurd y c2
    · subst hin
      exact okT (by decide) (okS ⟨way, rfl, x1, x2, fun x hx => x3 x (by unfold isP at hx; omega) hx⟩))
  subst q1
  exact ⟨way, e, q2, q3, q4⟩
theorem eno_e {M : Me} {m s : Nat} {P : Pr} (h : PX M m s P) : ∃ way nd, fpX0_enoughForAll M = some (J ((m * way + nd + sumR (fun p => pnd P p - pyl P p) m : Nat) : Int)) ∧ way < 1000 ∧ nd < 1000 ∧ sumR (fun p => pnd P p - pyl P p) m ≤ 1000 * m ∧ (∀ p, p < m → pnd P p ≤ nd) ∧ ∀ p x, p < m → isP m x → pls P (plc P s x) (pml P p) ≤ way := by
  have m8 := h.1
  obtain ⟨⟨r1, r2, r3⟩, e, way, nd, q1, q2, q3, q4, q5, q6, q7, q8⟩ := lp_ok (step := fpX0_enoughForAll_l9 M) (Q := fun r => ∃ way nd : Nat, r.1 = J (way : Nat) ∧ r.2.1 = J (nd : Nat) ∧ r.2.2 = J (sumR (fun p => pnd P p - pyl P p) m : Nat) ∧ way < 1000 ∧ nd < 1000 ∧ sumR (fun p => pnd P p - pyl P p) m ≤ 1000 * m ∧ (∀ p, p < m → pnd P p ≤ nd) ∧ ∀ p x, p < m → isP m x → pls P (plc P s x) (pml P p) ≤ way) (fun i st => st.2.2.2 = J (i : Nat) ∧ ∃ way nd : Nat, st.1 = J (way : Nat) ∧ st.2.1 = J (nd : Nat) ∧ st.2.2.1 = J (sumR (fun p => pnd P p - pyl P p) i : Nat) ∧ way < 1000 ∧ nd < 1000 ∧ sumR (fun p => pnd P p - pyl P p) i ≤ 1000 * i ∧ (∀ p, p < i → pnd P p ≤ nd) ∧ ∀ p x, p < i → isP m x → pls P (plc P s x) (pml P p) ≤ way) m (by omega) (s := ((0 : Int32), (0 : Int32), (0 : Int32), (0 : Int32))) ⟨rfl, 0, 0, rfl, rfl, rfl, by decide, by decide, Nat.le_refl _, fun p hp => absurd hp (Nat.not_lt_zero _), fun p x hp => absurd hp (Nat.not_lt_zero _)⟩ (by
    intro i st hi hst
    obtain ⟨wa, na, la, ia⟩ := st
    obtain ⟨s0, way, nd, s1, s2, s3, x1, x2, x3, x4, x5⟩ := hst
    have s0 : ia = J (i : Nat) := s0
    have s1 : wa = J (way : Nat) := s1
    have s2 : na = J (nd : Nat) := s2
    have s3 : la = J (sumR (fun p => pnd P p - pyl P p) i : Nat) := s3
    subst s0
    subst s1
    subst s2
    subst s3
    show ok (fpX0_enoughForAll_l9s (J (way : Nat)) (J (nd : Nat)) (J (sumR (fun p => pnd P p - pyl P p) i : Nat)) (J (i : Nat)) M) _
    unfold fpX0_enoughForAll_l9s
    rw [h.2.1]
    rcases Nat.lt_or_eq_of_le hi with him | him
    · refine okF (fun z => by have := (leN (by omega) (by omega)).1 z; omega) ?_
      obtain ⟨way', e1, g1, g2, g3⟩ := ein_e (a2 := J (nd : Nat)) (a3 := J (sumR (fun p => pnd P p - pyl P p) i : Nat)) h him x1
      obtain ⟨n1, n2, y1, y2⟩ := h.2.2.2.2.2.2.1 i him
      refine okE e1 (okE (inbJ (show i < 8 by omega) (by decide)) (okL (okL (okL ?_))))
      rw [n2, y2, maxN (by omega) (by omega), max0, least0N (by omega) (by omega), addN]
      refine okS ⟨him, J_succ i, way', max nd (pnd P i), rfl, rfl, rfl, g1, by omega, ?_, fun p hp => ?_, fun p x hp hx => ?_⟩
      · show sumR (fun p => pnd P p - pyl P p) i + (pnd P i - pyl P i) ≤ 1000 * (i + 1)
        omega
      · rcases Nat.lt_or_eq_of_le (Nat.le_of_lt_succ hp) with z | z
        · have := x4 p z
          omega
        · rw [z]
          omega
      · rcases Nat.lt_or_eq_of_le (Nat.le_of_lt_succ hp) with z | z
        · have := x5 p x z hx
          omega
        · rw [z]
          exact g3 x hx
    · subst him
      exact okT ((leN (by omega) (by omega)).2 (Nat.le_refl _)) (okS ⟨way, nd, rfl, rfl, rfl, x1, x2, x3, x4, x5⟩))
  have q1 : r1 = J (way : Nat) := q1
  have q2 : r2 = J (nd : Nat) := q2
  have q3 : r3 = J (sumR (fun p => pnd P p - pyl P p) m : Nat) := q3
  subst q1
  subst q2
  subst q3
  refine ⟨way, nd, ?_, q4, q5, q6, q7, q8⟩
  unfold fpX0_enoughForAll
  rw [e, Option.bind_some, h.2.1]
  show some (J (m : Nat) * J (way : Nat) + J (nd : Nat) + J (sumR (fun p => pnd P p - pyl P p) m : Nat)) = _
  rw [J_mul, J_add, J_add]
  rfl
/-- a plan that runs through with enough water, and with one bucket less -/
theorem near {P : Pr} {m s way nd : Nat} (h1 : ∀ p, p < m → pnd P p ≤ nd) (h2 : ∀ p x, p < m → isP m x → pls P (plc P s x) (pml P p) ≤ way) (m8 : m ≤ 8) : ∀ (u : List Nat) (z x y b x' : Nat), (∀ p, p ∈ u → p < m) → isP m z → x ≤ y + 1 → (x ≤ y ∨ nd + sumL (fun p => way + (pnd P p - pyl P p)) u ≤ y) → fr P (plc P s z) x u = some (b, x') → ∃ y', fr P (plc P s z) y u = some (b, y') ∧ x' ≤ y' + 1
  | [], z, x, y, b, x', _, _, hxy, _, h => by
    cases h
    exact ⟨y, rfl, hxy⟩
  | p :: t, z, x, y, b, x', hu, hz, hxy, hB, h => by
    rcases hB with hB | hB
    · obtain ⟨y', e1, e2⟩ := fr_mw hB h
      exact ⟨y', e1, by omega⟩
    · have pm : p < m := hu p (by simp)
      have hl := h2 p z pm hz
      have hn := h1 p pm
      have hB : nd + (way + (pnd P p - pyl P p) + sumL (fun p => way + (pnd P p - pyl P p)) t) ≤ y := hB
      have h : (rn P p (cr P x (plc P s z) (pml P p))).bind (fun x => fr P (pml P p) x t) = some (b, x') := h
      cases hr : rn P p (cr P x (plc P s z) (pml P p)) with
      | none => rw [hr] at h; cases h
      | some x1 =>
        rw [hr] at h
        have h : fr P (pml P p) x1 t = some (b, x') := h
        obtain ⟨c1, c2, c3⟩ := rn_some hr
        have c4 : cr P y (plc P s z) (pml P p) = y - pls P (plc P s z) (pml P p) := rfl
        have c5 : cr P x (plc P s z) (pml P p) = x - pls P (plc P s z) (pml P p) := rfl
        have ry : rn P p (cr P y (plc P s z) (pml P p)) = some (min (prom P) (cr P y (plc P s z) (pml P p) - pnd P p + pyl P p)) := rn_of c1 (by omega)
        have ez : pml P p = plc P s p := (plc_p (by omega)).symm
        rw [ez] at h
        obtain ⟨y', e1, e2⟩ := near h1 h2 m8 t p x1 (min (prom P) (cr P y (plc P s z) (pml P p) - pnd P p + pyl P p)) b x' (fun q hq => hu q (List.mem_cons_of_mem _ hq)) (Or.inl pm) (by omega) (by omega) h
        refine ⟨y', ?_, e2⟩
        show (rn P p (cr P y (plc P s z) (pml P p))).bind (fun x => fr P (pml P p) x t) = _
        rw [ry]
        rw [← ez] at e1
        exact e1
/-- nothing gains above what is enough if nothing does below -/
theorem gain_no {P : Pr} {m s way nd : Nat} (m8 : m ≤ 8) (hab : ∀ q, (pab P).testBit q = true → q < m) (h1 : ∀ p, p < m → pnd P p ≤ nd) (h2 : ∀ p x, p < m → isP m x → pls P (plc P s x) (pml P p) ≤ way) (h : ∀ w, w ≤ m * way + nd + sumR (fun p => pnd P p - pyl P p) m → ¬ Can P 0 (w + 1) 0 (CC none) s w) : ∀ w, ¬ Can P 0 (w + 1) 0 (CC none) s w
  | 0 => h 0 (Nat.zero_le _)
  | w + 1 => by
    by_cases hw : w + 1 ≤ m * way + nd + sumR (fun p => pnd P p - pyl P p) m
    · exact h (w + 1) hw
    · intro hc
      refine gain_no m8 hab h1 h2 h w ?_
      obtain ⟨u, r, ⟨n1, n2, n3⟩, n4, n5⟩ := Can.pl.1 hc
      have um : ∀ p, p ∈ u → p < m := fun p hp => hab p (n2 p hp)
      have hs := sumL_le (fun p => way + (pnd P p - pyl P p)) m u n1 um
      rw [sumR_add] at hs
      unfold bk at n4
      cases hf : fr P s (w + 1) u with
      | none => rw [hf] at n4; cases n4
      | some t =>
        obtain ⟨b, x'⟩ := t
        rw [hf] at n4
        have n4 : some (x' - pls P b 0) = some r := n4
        have n4 := Option.some.inj n4
        have es : s = plc P s 8 := rfl
        rw [es] at hf
        obtain ⟨y', e1, e2⟩ := near h1 h2 m8 u 8 (w + 1) w b x' um (Or.inr rfl) (Nat.le_refl _) (Or.inr (by omega)) hf
        refine Can.pl.2 ⟨u, y' - pls P b 0, ⟨n1, n2, n3⟩, ?_, by omega⟩
        unfold bk
        rw [← es] at e1
        rw [e1]
        rfl
theorem lgn_e {M : Me} {m s : Nat} {P : Pr} (h : PX M m s P) : ∃ W N, fpX0_leastGaining M = some (J (W : Nat), N) ∧ W < 2000000 ∧ (∀ r j, r ≠ 54 → N.1 r j = M.1 r j) ∧ (W ≤ prom P → Can P 0 (W + 1) 0 (CC none) s W) ∧ ∀ w, w < W → w ≤ prom P → ¬ Can P 0 (w + 1) 0 (CC none) s w := by
  have m8 := h.1
  have rm := h.2.2.2.2.1
  obtain ⟨way, nd, e1, b1, b2, b3, b4, b5⟩ := eno_e h
  have hmul : m * way ≤ 8 * 1000 := Nat.mul_le_mul m8 (by omega)
  have hno := gain_no (s := s) m8 h.2.2.1.2 b4 b5
  generalize hE : m * way + nd + sumR (fun p => pnd P p - pyl P p) m = E at e1 hno
  have E9 : E < 100000 := by omega
  unfold fpX0_leastGaining
  rw [e1, Option.bind_some, h.2.2.2.2.2.1, minN (by omega) (by omega)]
  show ∃ W N, (lp (fpX0_leastGaining_l16 (J (min (prom P) E : Nat))) FU ((0 : Int32), (0 : Int32), M)).bind _ = _ ∧ _
  generalize hb : min (prom P) E = b
  obtain ⟨r, er, hr⟩ := lp_ok (step := fpX0_leastGaining_l16 (J (b : Nat))) (Q := fun r => Sum.elim (fun N => (∀ r' j, r' ≠ 54 → N.1 r' j = M.1 r' j) ∧ ∀ w, w ≤ b → ¬ Can P 0 (w + 1) 0 (CC none) s w) (fun o => ∃ W : Nat, o.1 = J (W : Nat) ∧ W ≤ prom P ∧ (∀ r' j, r' ≠ 54 → o.2.1 r' j = M.1 r' j) ∧ Can P 0 (W + 1) 0 (CC none) s W ∧ ∀ w, w < W → ¬ Can P 0 (w + 1) 0 (CC none) s w) r) (fun i st => st.2.1 = J (i : Nat) ∧ ∃ w : Nat, st.1 = J (w : Nat) ∧ i ≤ w ∧ w < 2000000 ∧ (∀ r' j, r' ≠ 54 → st.2.2.1 r' j = M.1 r' j) ∧ ∀ w', w' < w → w' ≤ prom P → ¬ Can P 0 (w' + 1) 0 (CC none) s w') 1000 (by omega) (s := ((0 : Int32), (0 : Int32), M)) ⟨rfl, 0, rfl, Nat.le_refl _, by decide, fun _ _ _ => rfl, fun w hw => absurd hw (Nat.not_lt_zero _)⟩ (by
    intro i st hi hst
    obtain ⟨wa, ia, X⟩ := st
    obtain ⟨s1, w, s2, x1, x2, x3, x4⟩ := hst
    have s1 : ia = J (i : Nat) := s1
    have s2 : wa = J (w : Nat) := s2
    have x3 : ∀ r' j, r' ≠ 54 → X.1 r' j = M.1 r' j := x3
    subst s1
    subst s2
    have hX : PX X m s P := h.same54 x3
    show ok (fpX0_leastGaining_l16s (J (b : Nat)) (J (w : Nat)) (J (i : Nat)) X) _
    unfold fpX0_leastGaining_l16s
    by_cases c1 : 999 < i
    · exact okT ((ltN (a := 999) (by omega) (by omega)).2 c1) (okS ⟨x3, fun w' hw' => x4 w' (by omega) (by omega)⟩)
    · refine okF (fun z => c1 ((ltN (a := 999) (by omega) (by omega)).1 z)) ?_
      by_cases c2 : b < w
      · exact okT ((ltN (by omega) (by omega)).2 c2) (okS ⟨x3, fun w' hw' => x4 w' (by omega) (by omega)⟩)
      · refine okF (fun z => c2 ((ltN (by omega) (by omega)).1 z)) ?_
        obtain ⟨N, W, e2, g1, ⟨t0, t1⟩, -⟩ := lst_e (v := w + 1) (k := none) hX (by omega) (fun j hj => by cases hj)
        have e2 : fpX0_leastStart (J (w : Nat) + 1) (-1 : Int32) X = some (J (W : Nat), N) := by rw [J_succ]; exact e2
        refine okE e2 ?_
        by_cases c3 : w < W
        · refine okT ((ltN (by omega) (by omega)).2 c3) (okL (okS ⟨by omega, J_succ i, W, rfl, by omega, by omega, fun r j hr => (g1 r j hr).trans (x3 r j hr), fun w' hw' hr' z => ?_⟩))
          by_cases c4 : w' < w
          · exact x4 w' c4 hr' z
          · have := (t1 w' hr').2 (z.mw (Nat.le_refl _) (by omega))
            omega
        · refine okF (fun z => c3 ((ltN (by omega) (by omega)).1 z)) (okS ⟨w, rfl, by omega, fun r j hr => (g1 r j hr).trans (x3 r j hr), (t1 w (by omega)).1 (by omega), fun w' hw' => x4 w' hw' (by omega)⟩))
  rw [er, Option.bind_some]
  rcases r with N | ⟨wa, N⟩
  · obtain ⟨g1, g2⟩ := hr
    have hn : ∀ w, w ≤ prom P → ¬ Can P 0 (w + 1) 0 (CC none) s w := by
      intro w hw
      by_cases c : w ≤ b
      · exact g2 w c
      · refine hno (fun w' hw' => ?_) w
        exact g2 w' (by omega)
    exact ⟨1000000, N, rfl, by decide, g1, fun z => by omega, fun w _ hw => hn w hw⟩
  · obtain ⟨W, q1, q2, q3, q4, q5⟩ := hr
    have q1 : wa = J (W : Nat) := q1
    subst q1
    exact ⟨W, N, rfl, by omega, q3, fun _ => q4, fun w hw _ => q5 w hw⟩
theorem kp_l {M : Me} {n : Nat} (hO : RO n (M.1 1)) (hn : n ≤ 1000) : ∃ w X, lp fpX6_keep_l2 FU ((0 : Int32), M) = some (J (w : Nat), X) ∧ fyG M X ∧ w ≤ vn (M.1 1) 2 + 1 ∧ (w ≤ vn (M.1 1) 2 → Can (PR (M.1 1) (vn (M.1 1) 4)) 0 (w + 1) 0 (CC none) (vn (M.1 1) 7) w) ∧ ∀ w', w' < w → ¬ Can (PR (M.1 1) (vn (M.1 1) 4)) 0 (w' + 1) 0 (CC none) (vn (M.1 1) 7) w' := by
  have k2 := hO.k2
  have rm : vn (M.1 1) 2 < 1000 := by unfold vn; omega
  have e2 : M.1 1 2 = J (vn (M.1 1) 2 : Nat) := vn_J (by omega)
  obtain ⟨⟨rw', X⟩, er, w, q1, q2, q4, q5, q6⟩ := lp_ok (step := fpX6_keep_l2) (Q := fun r => ∃ w : Nat, r.1 = J (w : Nat) ∧ fyG M r.2 ∧ w ≤ vn (M.1 1) 2 + 1 ∧ (w ≤ vn (M.1 1) 2 → Can (PR (M.1 1) (vn (M.1 1) 4)) 0 (w + 1) 0 (CC none) (vn (M.1 1) 7) w) ∧ ∀ w', w' < w → ¬ Can (PR (M.1 1) (vn (M.1 1) 4)) 0 (w' + 1) 0 (CC none) (vn (M.1 1) 7) w') (fun i st => st.1 = J (i : Nat) ∧ fyG M st.2 ∧ ∀ w', w' < i → ¬ Can (PR (M.1 1) (vn (M.1 1) 4)) 0 (w' + 1) 0 (CC none) (vn (M.1 1) 7) w') (vn (M.1 1) 2 + 1) (by omega) (s := ((0 : Int32), M)) ⟨rfl, fyG.rf, fun w hw => absurd hw (Nat.not_lt_zero _)⟩ (by
    intro i st hi hst
    obtain ⟨ia, X⟩ := st
    obtain ⟨s1, x1, x3⟩ := hst
    have s1 : ia = J (i : Nat) := s1
    have x1 : fyG M X := x1
    subst s1
    show ok (fpX6_keep_l2s (J (i : Nat)) X) _
    unfold fpX6_keep_l2s
    rw [show X.1 1 2 = J (vn (M.1 1) 2 : Nat) by rw [x1.r1]; exact e2]
    by_cases hc : vn (M.1 1) 2 < i
    · exact okT ((ltN (by omega) (by omega)).2 hc) (okS ⟨i, rfl, x1, hi, fun z => absurd z (by omega), x3⟩)
    · refine okF (fun z => hc ((ltN (by omega) (by omega)).1 z)) ?_
      obtain ⟨N, q, e1, g1, g2, -, g4⟩ := mwG (w := i) hO hn (by omega) x1.r1
      refine okE e1 ?_
      have key : (J (i : Nat) < J (q : Nat)) ↔ Can (PR (M.1 1) (vn (M.1 1) 4)) 0 (i + 1) 0 (CC none) (vn (M.1 1) 7) i := by
        rw [ltN (by omega) (by omega), CCn, ← g4.can]
        exact ⟨fun z => ⟨q, rfl, z⟩, fun ⟨q', z1, z2⟩ => by cases z1; exact z2⟩
      by_cases h0 : Can (PR (M.1 1) (vn (M.1 1) 4)) 0 (i + 1) 0 (CC none) (vn (M.1 1) 7) i
      · exact okT (key.2 h0) (okS ⟨i, rfl, x1.tr g1, hi, fun _ => h0, x3⟩)
      · refine okF (fun z => h0 (key.1 z)) (okL (okS ⟨by omega, J_succ i, x1.tr g1, fun w' hw' => ?_⟩))
        rcases Nat.lt_or_eq_of_le (Nat.le_of_lt_succ hw') with z | z
        · exact x3 w' z
        · rw [z]; exact h0)
  have q1 : rw' = J (w : Nat) := q1
  subst q1
  exact ⟨w, X, er, q2, q4, q5, q6⟩
theorem s17 : sim17 Rr := by
  intro n M1 M2 hn R
  show SM n _ _
  unfold fpX5_keep fpX6_keep
  have k2 := R.2.k2
  have rm9 : vn (M2.1 1) 2 < 1000 := by unfold vn; omega
  obtain ⟨A, e1, f1, mA, hA, -⟩ := layR R (by omega)
  obtain ⟨W, N, e3, W9, g1, t1, t2⟩ := lgn_e hA
  have t1 : W ≤ vn (M2.1 1) 2 → _ := t1
  have t2 : ∀ w, w < W → w ≤ vn (M2.1 1) 2 → _ := t2
  obtain ⟨w, X, er, x1, x2, x3, x4⟩ := kp_l R.2 (by omega)
  have fN : ∀ r j, r < 46 → N.1 r j = M1.1 r j := fun r j hr => (g1 r j (by omega)).trans (f1 r j (by omega))
  have mN : MT N := fun S hS l hl hb => by rw [g1 53 _ (by omega)]; exact mA S hS l hl hb
  refine .b1 e1 (.b1 e3 (.b2 er ?_))
  unfold fpX6_keep_b27
  refine SM.con R fN mN x1.h W9 (by omega) ?_
  have a1 : w ≤ vn (M2.1 1) 2 → W ≤ w := fun z => Nat.le_of_not_lt (fun y => t2 w y z (x3 z))
  have a2 : W ≤ vn (M2.1 1) 2 → w ≤ W := fun z => Nat.le_of_not_lt (fun y => x4 W y (t1 z))
  exact ⟨⟨fun z => Nat.le_trans (a2 z) z, fun z => Nat.le_trans (a1 z) z⟩, fun z => Nat.le_antisymm (a1 (Nat.le_trans (a2 z) z)) (a2 z)⟩
