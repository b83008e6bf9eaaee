/-! The class's planner: carried, ran, the table, the most -/
def enc : Option Nat → Int32
  | none => J (-1)
  | some x => J (x : Nat)
def dec (x : Int32) : Option Nat := if x = -1 then none else some x.toInt.toNat
theorem dec_enc {o : Option Nat} (h : ∀ x, o = some x → x < 1000000) : dec (enc o) = o := by
  cases o with
  | none => rfl
  | some x =>
    have hx := h x rfl
    unfold dec enc
    rw [if_neg (fun z => ?_), tJn (by omega)]
    · rfl
    · rw [J_m1, eqJ (by omega) (by omega) (by omega) (by omega)] at z
      omega
def plc (P : Pr) (s x : Nat) : Nat := if x = 8 then s else if x = 9 then 0 else pml P x
def okp (m x : Nat) : Prop := x < m ∨ x = 8 ∨ x = 9
theorem plc_p {P : Pr} {s x : Nat} (h : x < 8) : plc P s x = pml P x := by
  unfold plc
  rw [if_neg (by omega), if_neg (by omega)]
/-- the planner is laid: m pumps, start mile s -/
def PX (M : Me) (m s : Nat) (P : Pr) : Prop := m ≤ 8 ∧ M.1 46 2 = J (m : Nat) ∧ (pab P < 256 ∧ ∀ q, (pab P).testBit q = true → q < m) ∧ M.1 46 3 = J (pab P : Nat) ∧ prom P < 1000 ∧ M.1 46 4 = J (prom P : Nat) ∧ (∀ p, p < m → pnd P p < 1000 ∧ M.1 50 p = J (pnd P p : Nat) ∧ pyl P p < 1000 ∧ M.1 51 p = J (pyl P p : Nat)) ∧ ∀ x y, okp m x → okp m y → pls P (plc P s x) (plc P s y) < 1000 ∧ M.1 49 (10 * x + y) = J (pls P (plc P s x) (plc P s y) : Nat)
theorem PX.same {M N : Me} {m s : Nat} {P : Pr} (h : PX M m s P) (f : ∀ r j, 46 ≤ r → r < 53 → N.1 r j = M.1 r j) : PX N m s P := by
  obtain ⟨h1, h2, h3, h4, h5, h6, h7, h8⟩ := h
  refine ⟨h1, by rw [f _ _ (by omega) (by omega)]; exact h2, h3, by rw [f _ _ (by omega) (by omega)]; exact h4, h5, by rw [f _ _ (by omega) (by omega)]; exact h6, fun p hp => ?_, fun x y hx hy => ?_⟩
  · rw [f _ _ (by omega) (by omega), f _ _ (by omega) (by omega)]
    exact h7 p hp
  · rw [f _ _ (by omega) (by omega)]
    exact h8 x y hx hy
theorem car_e {M : Me} {m s x y w : Nat} {P : Pr} (h : PX M m s P) (hx : okp m x) (hy : okp m y) (hw : w < 1000000) : fpX0_carried (J (w : Nat)) (J (x : Nat)) (J (y : Nat)) M = some (J (cr P w (plc P s x) (plc P s y) : Nat)) := by
  obtain ⟨h1, h2, h3, h4, h5, h6, h7, h8⟩ := h
  obtain ⟨l1, l2⟩ := h8 x y hx hy
  unfold fpX0_carried
  have e : J (x : Nat) * (10 : Int32) + J (y : Nat) = J ((10 * x + y : Nat) : Int) := by
    rw [show (10 : Int32) = J 10 from rfl, J_mul, J_add]
    congr 1
    omega
  unfold okp at hx hy
  rw [e, inbJ (by omega) (by decide), Option.bind_some, l2, max0, least0N hw (by omega)]
  rfl
theorem enc_lt {o : Option Nat} {k : Nat} (h : ∀ x, o = some x → x < 1000000) (hk : k < 1000000) : J (k : Nat) ≤ enc o ↔ ∃ x, o = some x ∧ k ≤ x := by
  cases o with
  | none =>
    unfold enc
    rw [leJ (by omega) (by omega) (by omega) (by omega)]
    exact ⟨fun z => by omega, fun ⟨x, e, _⟩ => by cases e⟩
  | some y =>
    have hy := h y rfl
    unfold enc
    rw [leN (by omega) (by omega)]
    exact ⟨fun z => ⟨y, rfl, z⟩, fun ⟨x, e, z⟩ => by cases e; exact z⟩
theorem ran_e {M : Me} {m s p : Nat} {o : Option Nat} {P : Pr} (h : PX M m s P) (hp : p < m) (ho : ∀ x, o = some x → x < 1000000) : fpX0_ran (J (p : Nat)) (enc o) M = some (enc (o.bind (rn P p))) := by
  obtain ⟨h1, h2, h3, h4, h5, h6, h7, h8⟩ := h
  obtain ⟨n1, n2, y1, y2⟩ := h7 p hp
  unfold fpX0_ran
  rw [h4, isIn_d _ h3.1 p (by omega)]
  by_cases hb : (pab P).testBit p = true
  · rw [if_pos hb, if_neg (by decide), inbJ (by omega) (by decide), Option.bind_some, n2, y2, h6]
    cases o with
    | none =>
      rw [if_neg (fun z => ?_)]
      · rfl
      · obtain ⟨x, e, -⟩ := (enc_lt (o := none) (fun x e => by cases e) (by omega)).1 z
        cases e
    | some x =>
      have hx := ho x rfl
      show (if J (pnd P p : Nat) ≤ J (x : Nat) then some (fpJ9_min_7cf53 (J (prom P : Nat)) (J (x : Nat) - J (pnd P p : Nat) + J (pyl P p : Nat))) else some (-1)) = some (enc (rn P p x))
      by_cases hn : pnd P p ≤ x
      · rw [if_pos ((leN (by omega) (by omega)).2 hn), subN hn, addN, minN (by omega) (by omega), rn_of hb hn]
        rfl
      · rw [if_neg (fun z => hn ((leN (by omega) (by omega)).1 z))]
        have : rn P p x = none := if_neg (fun z => hn z.2)
        rw [this]
        rfl
  · rw [if_neg hb, if_pos rfl]
    have : o.bind (rn P p) = none := by
      cases o with
      | none => rfl
      | some x => exact if_neg (fun z => hb z.1)
    rw [this]
    rfl
def tb (M : Me) (S l : Nat) : Option Nat := dec (M.1 53 (8 * S + l))
/-- a row of the table stands as told -/
def RowX (M : Me) (S l : Nat) : Prop := M.1 53 (8 * S + l) = enc (tb M S l) ∧ ∀ x, tb M S l = some x → x < 1000
def MxI (P : Pr) (i : Nat) (T : Nat → Option Nat) (e : Nat) (o : Option Nat) : Prop := (∀ c, o = some c → ∃ l x, l < i ∧ T l = some x ∧ c = cr P x (pml P l) e) ∧ ∀ l x, l < i → T l = some x → ∃ c, o = some c ∧ cr P x (pml P l) e ≤ c
theorem enc_le {o : Option Nat} {y : Nat} (h : ∀ x, o = some x → x < 1000000) (hy : y < 1000000) : J (y : Nat) ≤ enc o ↔ ∃ x, o = some x ∧ y ≤ x := enc_lt h hy
theorem maxE {o : Option Nat} {y : Nat} (h : ∀ x, o = some x → x < 1000000) (hy : y < 1000000) : ∃ o', fpJ9_max_7cf53 (enc o) (J (y : Nat)) = enc o' ∧ (∀ c, o' = some c → o = some c ∨ c = y) ∧ (∃ c, o' = some c ∧ y ≤ c) ∧ ∀ c, o = some c → ∃ c', o' = some c' ∧ c ≤ c' := by
  cases o with
  | none =>
    refine ⟨some y, ?_, fun c e => Or.inr (by cases e; rfl), ⟨y, rfl, Nat.le_refl _⟩, fun c e => by cases e⟩
    unfold fpJ9_max_7cf53 enc
    rw [if_pos ((ltJ (by omega) (by omega) (by omega) (by omega)).2 (by omega))]
  | some x =>
    have hx := h x rfl
    refine ⟨some (max x y), ?_, fun c e => ?_, ⟨_, rfl, by omega⟩, fun c e => ?_⟩
    · exact maxN (by omega) (by omega)
    · cases e
      rcases Nat.le_total x y with z | z
      · exact Or.inr (by omega)
      · exact Or.inl (by rw [Nat.max_eq_left z])
    · cases e
      exact ⟨_, rfl, by omega⟩
theorem mc_e {M : Me} {m s S y : Nat} {P : Pr} (h : PX M m s P) (hS : S < 256) (hy : okp m y) (hr : ∀ l, l < m → RowX M S l) : ∃ o, fpX0_mostComing (J (S : Nat)) (J (y : Nat)) M = some (enc o) ∧ MxI P m (tb M S) (plc P s y) o ∧ ∀ x, o = some x → x < 1000 := by
  have h1 := h.1
  have h2 := h.2.1
  obtain ⟨r, e, o, ho, q1, q2⟩ := lp_ok (step := fpX0_mostComing_l5 (J (S : Nat)) (J (y : Nat)) M) (Q := fun r => ∃ o, r = enc o ∧ MxI P m (tb M S) (plc P s y) o ∧ ∀ x, o = some x → x < 1000) (fun i st => st.2 = J (i : Nat) ∧ ∃ o, st.1 = enc o ∧ MxI P i (tb M S) (plc P s y) o ∧ ∀ x, o = some x → x < 1000) m (by omega) (s := ((-1 : Int32), (0 : Int32))) ⟨rfl, none, rfl, ⟨fun c e => (by cases e), fun l x hl => absurd hl (Nat.not_lt_zero _)⟩, fun x e => (by cases e)⟩ (by
    intro i st hi hst
    obtain ⟨b, ia⟩ := st
    obtain ⟨s2, o, s1, o1, o2⟩ := hst
    have s2 : ia = J (i : Nat) := s2
    have s1 : b = enc o := s1
    subst s2
    subst s1
    show ok (fpX0_mostComing_l5s (J (S : Nat)) (J (y : Nat)) (enc o) (J (i : Nat)) M) _
    unfold fpX0_mostComing_l5s letv
    rw [h2]
    rcases Nat.lt_or_eq_of_le hi with him | him
    · have e8 : J (S : Nat) * (8 : Int32) + J (i : Nat) = J ((8 * S + i : Nat) : Int) := by
        rw [show (8 : Int32) = J 8 from rfl, J_mul, J_add]
        congr 1
        omega
      rw [if_neg (fun z => by have := (leN (by omega) (by omega)).1 z; omega), e8, inbJ (by omega) (by decide), Option.bind_some]
      obtain ⟨r1, r2⟩ := hr i him
      rw [r1]
      have up : ∀ o', (∀ c, o' = some c → o = some c ∨ ∃ x, tb M S i = some x ∧ c = cr P x (pml P i) (plc P s y)) → (∀ c, o = some c → ∃ c', o' = some c' ∧ c ≤ c') → (∀ x, tb M S i = some x → ∃ c', o' = some c' ∧ cr P x (pml P i) (plc P s y) ≤ c') → MxI P (i + 1) (tb M S) (plc P s y) o' := by
        intro o' u1 u2 u3
        constructor
        · intro c hc
          rcases u1 c hc with z | ⟨x, z1, z2⟩
          · obtain ⟨l, x, a1, a2, a3⟩ := o1.1 c z
            exact ⟨l, x, by omega, a2, a3⟩
          · exact ⟨i, x, by omega, z1, z2⟩
        · intro l x hl hx
          rcases Nat.lt_or_eq_of_le (Nat.le_of_lt_succ hl) with z | z
          · obtain ⟨c, c1, c2⟩ := o1.2 l x z hx
            obtain ⟨c', c3, c4⟩ := u2 c c1
            exact ⟨c', c3, Nat.le_trans c2 c4⟩
          · subst z
            exact u3 x hx
      cases hx : tb M S i with
      | none =>
        have c1 : enc none ≤ enc o := by
          cases o with
          | none => exact Int32.le_refl _
          | some c =>
            have := o2 c rfl
            exact (leJ (by omega) (by omega) (by omega) (by omega)).2 (by omega)
        refine okT c1 ?_
        refine okS ⟨him, ?_, o, rfl, up o (fun c hc => Or.inl hc) (fun c hc => ⟨c, hc, Nat.le_refl _⟩) (fun x e => by rw [hx] at e; cases e), o2⟩
        exact J_succ i
      | some x =>
        have x9 := r2 x hx
        by_cases c1 : enc (some x) ≤ enc o
        · refine okT c1 ?_
          obtain ⟨c, d1, d2⟩ := (enc_le (o := o) (y := x) (fun z e => by have := o2 z e; omega) (by omega)).1 c1
          refine okS ⟨him, ?_, o, rfl, up o (fun c hc => Or.inl hc) (fun c hc => ⟨c, hc, Nat.le_refl _⟩) (fun x' e => ?_), o2⟩
          · exact J_succ i
          · rw [hx] at e
            cases e
            refine ⟨c, d1, Nat.le_trans (show cr P x _ _ ≤ x by unfold cr; omega) d2⟩
        · refine okF c1 ?_
          have hi8 : i < 8 := by omega
          have ec := car_e (w := x) (x := i) (y := y) h (Or.inl him) hy (by omega)
          rw [plc_p hi8] at ec
          refine okE ec ?_
          have hcx : cr P x (pml P i) (plc P s y) ≤ x := by unfold cr; omega
          obtain ⟨o', m1, m2, m3, m4⟩ := maxE (o := o) (y := cr P x (pml P i) (plc P s y)) (fun z e => by have := o2 z e; omega) (by omega)
          rw [m1]
          refine okS ⟨him, ?_, o', rfl, up o' (fun c hc => ?_) m4 (fun x' e => ?_), fun z hz => ?_⟩
          · exact J_succ i
          · rcases m2 c hc with z | z
            · exact Or.inl z
            · exact Or.inr ⟨x, hx, z⟩
          · rw [hx] at e
            cases e
            exact m3
          · rcases m2 z hz with w | w
            · exact o2 z w
            · omega
    · subst him
      rw [if_pos ((leN (by omega) (by omega)).2 (Nat.le_refl _))]
      exact okS ⟨o, rfl, o1, o2⟩)
  refine ⟨o, ?_, q1, q2⟩
  unfold fpX0_mostComing
  rw [e, ho]
  rfl
