/-! The best of all plans; the least that is wanted; searching -/
theorem setOf : ∀ (u : List Nat), u.Nodup → (∀ q, q ∈ u → q < 8) → ∃ S, S < 256 ∧ (∀ q, q ∈ u ↔ S.testBit q = true) ∧ pc S = u.length
  | [], _, _ => ⟨0, by decide, fun q => by simp, rfl⟩
  | p :: t, hn, h8 => by
    have hn' := List.nodup_cons.1 hn
    obtain ⟨S, h1, h2, h3⟩ := setOf t hn'.2 (fun q hq => h8 q (List.mem_cons_of_mem _ hq))
    have p8 : p < 8 := h8 p (by simp)
    have hb : S.testBit p = false := by
      cases z : S.testBit p with
      | false => rfl
      | true => exact absurd ((h2 p).2 z) hn'.1
    refine ⟨nS S p, nS_lt S h1 p p8, fun q => ?_, ?_⟩
    · constructor
      · intro hq
        have q8 := h8 q hq
        rw [nS_bit S h1 p p8 q q8]
        rcases List.mem_cons.1 hq with e | e
        · simp [e]
        · rw [(h2 q).1 e]
          rfl
      · intro hq
        have q8 := bit_lt (nS_lt S h1 p p8) hq
        rw [nS_bit S h1 p p8 q q8] at hq
        simp only [Bool.or_eq_true, decide_eq_true_eq] at hq
        rcases hq with z | z
        · exact List.mem_cons_of_mem _ ((h2 q).2 z)
        · rw [z]; simp
    · rw [pc_nS S h1 p p8 hb, h3]
      rfl
theorem set_uniq {S T : Nat} {u : List Nat} (hS : S < 256) (hT : T < 256) (h1 : ∀ q, q ∈ u ↔ S.testBit q = true) (h2 : ∀ q, q ∈ u ↔ T.testBit q = true) : S = T := by
  refine set_ext hS hT (fun q _ => ?_)
  cases z : T.testBit q with
  | true => exact (h1 q).1 ((h2 q).2 z)
  | false =>
    cases y : S.testBit q with
    | false => rfl
    | true =>
      have := (h2 q).1 ((h1 q).2 y)
      rw [z] at this
      cases this
def Pl (may : Nat) (C : Nat → Prop) (u : List Nat) : Prop := u.Nodup ∧ (∀ p, p ∈ u → may.testBit p = true) ∧ C u.length
def Bst (P : Pr) (e a w may : Nat) (C : Nat → Prop) (o : Option Nat) : Prop := (∀ q, o = some q → ∃ u, Pl may C u ∧ bk P e a w u = some q) ∧ ∀ u q, Pl may C u → bk P e a w u = some q → ∃ q', o = some q' ∧ q ≤ q'
theorem Bst.uniq {P : Pr} {e a w may : Nat} {C : Nat → Prop} {o o' : Option Nat} (h : Bst P e a w may C o) (h' : Bst P e a w may C o') : o = o' := by
  cases o with
  | none =>
    cases o' with
    | none => rfl
    | some q =>
      obtain ⟨v, g, e⟩ := h'.1 q rfl
      obtain ⟨q', e', -⟩ := h.2 v q g e
      cases e'
  | some q =>
    obtain ⟨v, g, e⟩ := h.1 q rfl
    obtain ⟨q', rfl, l1⟩ := h'.2 v q g e
    obtain ⟨v', g', e'⟩ := h'.1 q' rfl
    obtain ⟨q2, e2, l2⟩ := h.2 v' q' g' e'
    cases e2
    rw [Nat.le_antisymm l1 l2]
theorem Bst.ge {P : Pr} {e a w may : Nat} {C : Nat → Prop} {o : Option Nat} (h : Bst P e a w may C o) (v : Nat) : (∃ q, o = some q ∧ v ≤ q) ↔ ∃ u q, Pl may C u ∧ bk P e a w u = some q ∧ v ≤ q := by
  constructor
  · intro ⟨q, h1, h2⟩
    obtain ⟨u, g, b⟩ := h.1 q h1
    exact ⟨u, q, g, b, h2⟩
  · intro ⟨u, q, g, b, h2⟩
    obtain ⟨q', h3, h4⟩ := h.2 u q g b
    exact ⟨q', h3, Nat.le_trans h2 h4⟩
/-- the most over the tables is the best of the plans -/
theorem Bst.of {P : Pr} {e a w f may : Nat} {C : Nat → Prop} {T : Nat → Nat → Option Nat} {o : Option Nat} (hmay : may < 256) (hf : ∀ q, may.testBit q = true → f.testBit q = true) (hT : ∀ S l, 0 < S → S < 256 → sb S may → S.testBit l = true → Top P a w f S l (T S l)) (h1 : ∀ q, o = some q → (C 0 ∧ q = cr P w a e) ∨ ∃ S l x, 0 < S ∧ S < 256 ∧ sb S may ∧ C (pc S) ∧ S.testBit l = true ∧ T S l = some x ∧ q = cr P x (pml P l) e) (h2 : C 0 → ∃ q, o = some q ∧ cr P w a e ≤ q) (h3 : ∀ S l x, 0 < S → S < 256 → sb S may → C (pc S) → S.testBit l = true → T S l = some x → ∃ q, o = some q ∧ cr P x (pml P l) e ≤ q) : Bst P e a w may C o := by
  constructor
  · intro q hq
    rcases h1 q hq with ⟨c0, rfl⟩ | ⟨S, l, x, s0, s1, s2, s3, s4, s5, rfl⟩
    · exact ⟨[], ⟨by simp, fun p hp => (by cases hp), c0⟩, rfl⟩
    · obtain ⟨v, g, ef⟩ := (hT S l s0 s1 s2 s4).1 x s5
      have m8 : ∀ q, q ∈ v ++ [l] → q < 8 := fun q hq => bit_lt s1 ((g.2.1 q).1 hq)
      obtain ⟨S', t1, t2, t3⟩ := setOf (v ++ [l]) g.1 m8
      have eS : S = S' := set_uniq s1 t1 g.2.1 t2
      refine ⟨v ++ [l], ⟨g.1, fun p hp => s2 p (m8 p hp) ((g.2.1 p).1 hp), ?_⟩, ?_⟩
      · rw [← t3, ← eS]; exact s3
      · unfold bk
        rw [ef]
        rfl
  · intro u q ⟨n1, n2, n3⟩ hb
    unfold bk at hb
    rcases List.eq_nil_or_concat u with hv | ⟨v, l, hv⟩
    · subst hv
      cases hb
      exact h2 n3
    · have hv : u = v ++ [l] := by rw [hv, List.concat_eq_append]
      subst hv
      cases hfr : fr P a w (v ++ [l]) with
      | none => rw [hfr] at hb; cases hb
      | some s =>
        rw [hfr] at hb
        obtain ⟨s1, s2⟩ := s
        have es : s1 = pml P l := fr_last hfr
        subst es
        cases hb
        have m8 : ∀ q, q ∈ v ++ [l] → q < 8 := fun q hq => bit_lt hmay (n2 q hq)
        obtain ⟨S, t1, t2, t3⟩ := setOf (v ++ [l]) n1 m8
        have hl : S.testBit l = true := (t2 l).1 (by simp)
        have S0 : 0 < S := by
          refine Nat.pos_of_ne_zero (fun z => ?_)
          rw [z] at hl
          simp at hl
        have hsb : sb S may := fun q _ hq => n2 q ((t2 q).2 hq)
        have g : Gd f S v l := ⟨n1, t2, fun p hp => hf p (n2 p (List.mem_of_head? hp))⟩
        obtain ⟨x, x1, x2⟩ := (hT S l S0 t1 hsb hl).2 v s2 g hfr
        obtain ⟨q', y1, y2⟩ := h3 S l x S0 t1 hsb (by rw [t3]; exact n3) hl x1
        exact ⟨q', y1, Nat.le_trans (cr_mono x2) y2⟩
-- worked back
def wB (P : Pr) (x a b : Nat) : Nat := if x = 0 then 0 else x + pls P a b
def wR (P : Pr) (p b : Nat) : Nat := if prom P < b then 1000000 else max (pnd P p) (b + pnd P p - pyl P p)
theorem wB_le {P : Pr} {x a b q : Nat} : wB P x a b ≤ q ↔ x ≤ cr P q a b := by
  unfold wB cr
  by_cases h : x = 0
  · rw [if_pos h]; omega
  · rw [if_neg h]; omega
theorem wR_le {P : Pr} {p b x : Nat} (ha : (pab P).testBit p = true) (hx : x < 1000000) : wR P p b ≤ x ↔ ∃ q, rn P p x = some q ∧ b ≤ q := by
  unfold wR
  constructor
  · intro h
    by_cases hb : prom P < b
    · rw [if_pos hb] at h; omega
    · rw [if_neg hb] at h
      exact ⟨_, rn_of ha (by omega), by omega⟩
  · intro ⟨q, h1, h2⟩
    obtain ⟨-, h3, rfl⟩ := rn_some h1
    rw [if_neg (by omega)]
    omega
/-- plans of the rest, from a place with all of S run, bring v or more -/
def Can (P : Pr) (e v S : Nat) (C : Nat → Prop) (a q : Nat) : Prop := ∃ u r, u.Nodup ∧ (∀ p, p ∈ u → (pab P).testBit p = true ∧ S.testBit p = false) ∧ C (pc S + u.length) ∧ bk P e a q u = some r ∧ v ≤ r
theorem bk_cons {P : Pr} {e a w p : Nat} {t : List Nat} : bk P e a w (p :: t) = (rn P p (cr P w a (pml P p))).bind fun x => bk P e (pml P p) x t := by
  unfold bk
  show Option.map _ ((rn P p (cr P w a (pml P p))).bind fun x => fr P (pml P p) x t) = _
  cases rn P p (cr P w a (pml P p)) with
  | none => rfl
  | some x => rfl
theorem Can.step {P : Pr} {e v S a q : Nat} {C : Nat → Prop} (hS : S < 256) (hab : pab P < 256) : Can P e v S C a q ↔ (C (pc S) ∧ v ≤ cr P q a e) ∨ ∃ p, p < 8 ∧ (pab P).testBit p = true ∧ S.testBit p = false ∧ ∃ x, rn P p (cr P q a (pml P p)) = some x ∧ Can P e v (nS S p) C (pml P p) x := by
  constructor
  · intro ⟨u, r, h1, h2, h3, h4, h5⟩
    cases u with
    | nil =>
      cases h4
      exact Or.inl ⟨h3, h5⟩
    | cons p t =>
      have hp := h2 p (by simp)
      have p8 := bit_lt hab hp.1
      rw [bk_cons] at h4
      cases hr : rn P p (cr P q a (pml P p)) with
      | none => rw [hr] at h4; cases h4
      | some x =>
        rw [hr] at h4
        have hn := List.nodup_cons.1 h1
        refine Or.inr ⟨p, p8, hp.1, hp.2, x, hr, t, r, hn.2, fun c hc => ?_, ?_, h4, h5⟩
        · have hc' := h2 c (List.mem_cons_of_mem _ hc)
          have c8 := bit_lt hab hc'.1
          refine ⟨hc'.1, ?_⟩
          have hne : c ≠ p := fun z => by rw [z] at hc; exact hn.1 hc
          rw [nS_bit S hS p p8 c c8, hc'.2]
          simp [hne]
        · rw [pc_nS S hS p p8 hp.2]
          have : pc S + 1 + t.length = pc S + (p :: t).length := by simp only [List.length_cons]; omega
          rw [this]
          exact h3
  · intro h
    rcases h with ⟨h1, h2⟩ | ⟨p, p8, h1, h2, x, hr, t, r, n1, n2, n3, n4, n5⟩
    · exact ⟨[], _, by simp, fun p hp => (by cases hp), h1, rfl, h2⟩
    · refine ⟨p :: t, r, List.nodup_cons.2 ⟨fun z => ?_, n1⟩, fun c hc => ?_, ?_, ?_, n5⟩
      · have := (n2 p z).2
        rw [nS_bit S hS p p8 p p8] at this
        simp at this
      · rcases List.mem_cons.1 hc with z | z
        · rw [z]; exact ⟨h1, h2⟩
        · have hc' := n2 c z
          have c8 := bit_lt hab hc'.1
          refine ⟨hc'.1, ?_⟩
          have := hc'.2
          rw [nS_bit S hS p p8 c c8] at this
          simp only [Bool.or_eq_false_iff] at this
          exact this.1
      · rw [pc_nS S hS p p8 h2] at n3
        have : pc S + 1 + t.length = pc S + (p :: t).length := by simp only [List.length_cons]; omega
        rw [← this]
        exact n3
      · rw [bk_cons, hr]
        exact n4
theorem Can.pl {P : Pr} {e v a q : Nat} {C : Nat → Prop} : Can P e v 0 C a q ↔ ∃ u r, Pl (pab P) C u ∧ bk P e a q u = some r ∧ v ≤ r := by
  constructor
  · intro ⟨u, r, h1, h2, h3, h4, h5⟩
    refine ⟨u, r, ⟨h1, fun p hp => (h2 p hp).1, ?_⟩, h4, h5⟩
    have e0 : pc 0 = 0 := rfl
    rw [e0, Nat.zero_add] at h3
    exact h3
  · intro ⟨u, r, h1, h4, h5⟩
    refine ⟨u, r, h1.1, fun p hp => ⟨h1.2.1 p hp, Nat.zero_testBit p⟩, ?_, h4, h5⟩
    have e0 : pc 0 = 0 := rfl
    rw [e0, Nat.zero_add]
    exact h1.2.2
