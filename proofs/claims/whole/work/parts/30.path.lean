/-! Plans as lists of pumps: what they bring; tables by set and last pump -/
abbrev Pr : Type := (Nat → Nat) × (Nat → Nat) × (Nat → Nat) × Nat × Nat × (Nat → Nat → Nat)
abbrev pml (P : Pr) : Nat → Nat := P.1
abbrev pnd (P : Pr) : Nat → Nat := P.2.1
abbrev pyl (P : Pr) : Nat → Nat := P.2.2.1
abbrev pab (P : Pr) : Nat := P.2.2.2.1
abbrev prom (P : Pr) : Nat := P.2.2.2.2.1
abbrev pls (P : Pr) : Nat → Nat → Nat := P.2.2.2.2.2
def rn (P : Pr) (p w : Nat) : Option Nat := if (pab P).testBit p = true ∧ pnd P p ≤ w then some (min (prom P) (w - pnd P p + pyl P p)) else none
def cr (P : Pr) (w a b : Nat) : Nat := w - pls P a b
/-- where he stands and what he has, having run these -/
def fr (P : Pr) : Nat → Nat → List Nat → Option (Nat × Nat)
  | a, w, [] => some (a, w)
  | a, w, p :: t => (rn P p (cr P w a (pml P p))).bind fun x => fr P (pml P p) x t
def bk (P : Pr) (e a w : Nat) (u : List Nat) : Option Nat := (fr P a w u).map fun s => cr P s.2 s.1 e
theorem fr_app (P : Pr) : ∀ (u v : List Nat) (a w : Nat), fr P a w (u ++ v) = (fr P a w u).bind fun s => fr P s.1 s.2 v
  | [], v, a, w => rfl
  | p :: t, v, a, w => by
    show (rn P p (cr P w a (pml P p))).bind (fun x => fr P (pml P p) x (t ++ v)) = ((rn P p (cr P w a (pml P p))).bind fun x => fr P (pml P p) x t).bind _
    cases rn P p (cr P w a (pml P p)) with
    | none => rfl
    | some x => exact fr_app P t v (pml P p) x
theorem rn_some {P : Pr} {p w q : Nat} (h : rn P p w = some q) : (pab P).testBit p = true ∧ pnd P p ≤ w ∧ q = min (prom P) (w - pnd P p + pyl P p) := by
  unfold rn at h
  by_cases hc : (pab P).testBit p = true ∧ pnd P p ≤ w
  · rw [if_pos hc] at h
    cases h
    exact ⟨hc.1, hc.2, rfl⟩
  · rw [if_neg hc] at h
    cases h
theorem rn_of {P : Pr} {p w : Nat} (h1 : (pab P).testBit p = true) (h2 : pnd P p ≤ w) : rn P p w = some (min (prom P) (w - pnd P p + pyl P p)) := if_pos ⟨h1, h2⟩
theorem rn_mono {P : Pr} {p w w' q : Nat} (h : rn P p w = some q) (hw : w ≤ w') : ∃ q', rn P p w' = some q' ∧ q ≤ q' := by
  obtain ⟨h1, h2, rfl⟩ := rn_some h
  exact ⟨_, rn_of h1 (Nat.le_trans h2 hw), by omega⟩
theorem cr_mono {P : Pr} {w w' a b : Nat} (hw : w ≤ w') : cr P w a b ≤ cr P w' a b := by
  unfold cr
  omega
/-- more water, more room, less spilt: never less -/
theorem fr_mono {ml nd yl : Nat → Nat} {ab rm rm' : Nat} {L L' : Nat → Nat → Nat} (hr : rm ≤ rm') (hL : ∀ a b, L' a b ≤ L a b) : ∀ (u : List Nat) (a w w' b x : Nat), w ≤ w' → fr (ml, nd, yl, ab, rm, L) a w u = some (b, x) → ∃ x', fr (ml, nd, yl, ab, rm', L') a w' u = some (b, x') ∧ x ≤ x'
  | [], a, w, w', b, x, hw, h => by
    cases h
    exact ⟨w', rfl, hw⟩
  | p :: t, a, w, w', b, x, hw, h => by
    have h : (rn (ml, nd, yl, ab, rm, L) p (w - L a (ml p))).bind (fun x => fr (ml, nd, yl, ab, rm, L) (ml p) x t) = some (b, x) := h
    cases h1 : rn (ml, nd, yl, ab, rm, L) p (w - L a (ml p)) with
    | none => rw [h1] at h; cases h
    | some q =>
      rw [h1] at h
      obtain ⟨c1, c2, c3⟩ := rn_some h1
      have c2 : nd p ≤ w - L a (ml p) := c2
      have c3 : q = min rm (w - L a (ml p) - nd p + yl p) := c3
      have h5 := hL a (ml p)
      have h6 : rn (ml, nd, yl, ab, rm', L') p (w' - L' a (ml p)) = some (min rm' (w' - L' a (ml p) - nd p + yl p)) := rn_of c1 (show nd p ≤ _ by omega)
      obtain ⟨x', e1, e2⟩ := fr_mono hr hL t (ml p) q (min rm' (w' - L' a (ml p) - nd p + yl p)) b x (by omega) h
      refine ⟨x', ?_, e2⟩
      show (rn (ml, nd, yl, ab, rm', L') p (w' - L' a (ml p))).bind (fun x => fr (ml, nd, yl, ab, rm', L') (ml p) x t) = _
      rw [h6]
      exact e1
theorem fr_last {P : Pr} {u : List Nat} {l a w : Nat} {s : Nat × Nat} (h : fr P a w (u ++ [l]) = some s) : s.1 = pml P l := by
  rw [fr_app] at h
  cases h1 : fr P a w u with
  | none => rw [h1] at h; cases h
  | some t =>
    rw [h1] at h
    have h : (rn P l (cr P t.2 t.1 (pml P l))).bind (fun x => some (pml P l, x)) = some s := h
    cases h2 : rn P l (cr P t.2 t.1 (pml P l)) with
    | none => rw [h2] at h; cases h
    | some q =>
      rw [h2] at h
      cases h
      rfl
theorem fr_snoc {P : Pr} {u : List Nat} {l a w q : Nat} : fr P a w (u ++ [l]) = some (pml P l, q) ↔ ∃ s, fr P a w u = some s ∧ rn P l (cr P s.2 s.1 (pml P l)) = some q := by
  rw [fr_app]
  constructor
  · intro h
    cases h1 : fr P a w u with
    | none => rw [h1] at h; cases h
    | some t =>
      rw [h1] at h
      have h : (rn P l (cr P t.2 t.1 (pml P l))).bind (fun x => some (pml P l, x)) = some (pml P l, q) := h
      refine ⟨t, rfl, ?_⟩
      cases h2 : rn P l (cr P t.2 t.1 (pml P l)) with
      | none => rw [h2] at h; cases h
      | some q' =>
        rw [h2] at h
        cases h
        rfl
  · intro ⟨s, h1, h2⟩
    rw [h1]
    show (rn P l (cr P s.2 s.1 (pml P l))).bind (fun x => some (pml P l, x)) = _
    rw [h2]
    rfl
theorem fr_able {P : Pr} : ∀ (u : List Nat) (a w : Nat) (s : Nat × Nat), fr P a w u = some s → ∀ p, p ∈ u → (pab P).testBit p = true
  | [], a, w, s, _, p, hp => by cases hp
  | q :: t, a, w, s, h, p, hp => by
    have h : (rn P q (cr P w a (pml P q))).bind (fun x => fr P (pml P q) x t) = some s := h
    cases h1 : rn P q (cr P w a (pml P q)) with
    | none => rw [h1] at h; cases h
    | some x =>
      rw [h1] at h
      rcases List.mem_cons.1 hp with e | e
      · subst e
        exact (rn_some h1).1
      · exact fr_able t _ _ s h p e
/-- a plan of just these pumps, the last one l, the first one of f -/
def Gd (f S : Nat) (v : List Nat) (l : Nat) : Prop := (v ++ [l]).Nodup ∧ (∀ q, q ∈ v ++ [l] ↔ S.testBit q = true) ∧ ∀ p, (v ++ [l]).head? = some p → f.testBit p = true
/-- o is the most water behind such plans -/
def Top (P : Pr) (a w f S l : Nat) (o : Option Nat) : Prop := (∀ q, o = some q → ∃ v, Gd f S v l ∧ fr P a w (v ++ [l]) = some (pml P l, q)) ∧ ∀ v q, Gd f S v l → fr P a w (v ++ [l]) = some (pml P l, q) → ∃ q', o = some q' ∧ q ≤ q'
theorem Top.uniq {P : Pr} {a w f S l : Nat} {o o' : Option Nat} (h : Top P a w f S l o) (h' : Top P a w f S l o') : o = o' := by
  cases o with
  | none =>
    cases o' with
    | none => rfl
    | some q =>
      obtain ⟨v, g, e⟩ := h'.1 q rfl
      obtain ⟨q', e', -⟩ := h.2 v q g e
      cases e'
  | some q =>
    obtain ⟨v, g, e⟩ := h.1 q rfl
    obtain ⟨q', rfl, l1⟩ := h'.2 v q g e
    obtain ⟨v', g', e'⟩ := h'.1 q' rfl
    obtain ⟨q2, e2, l2⟩ := h.2 v' q' g' e'
    cases e2
    rw [Nat.le_antisymm l1 l2]
theorem dl_zero {S l : Nat} (hS : S < 256) (hl : l < 8) (h : dl S l = 0) (q : Nat) (hq : S.testBit q = true) : q = l := by
  have q8 := bit_lt hS hq
  have := dl_bit S hS l hl q q8
  rw [h, hq] at this
  simp at this
  exact this
theorem Top.one {P : Pr} {a w f S l : Nat} (hS : S < 256) (hl : l < 8) (hm : S.testBit l = true) (h0 : dl S l = 0) : Top P a w f S l (if f.testBit l = true then rn P l (cr P w a (pml P l)) else none) := by
  constructor
  · intro q h
    by_cases hf : f.testBit l = true
    · rw [if_pos hf] at h
      refine ⟨[], ⟨by simp, fun q => ?_, fun p hp => ?_⟩, ?_⟩
      · simp only [List.nil_append, List.mem_singleton]
        exact ⟨fun e => by rw [e]; exact hm, fun e => dl_zero hS hl h0 q e⟩
      · cases hp
        exact hf
      · show (rn P l (cr P w a (pml P l))).bind (fun x => some (pml P l, x)) = _
        rw [h]
        rfl
    · rw [if_neg hf] at h
      cases h
  · intro v q g e
    have hv : v = [] := by
      cases v with
      | nil => rfl
      | cons p t =>
        have hp : S.testBit p = true := (g.2.1 p).1 (by simp)
        have hpl := dl_zero hS hl h0 p hp
        have nd := g.1
        rw [hpl] at nd
        simp at nd
    subst hv
    have hf : f.testBit l = true := g.2.2 l rfl
    rw [if_pos hf]
    have e : (rn P l (cr P w a (pml P l))).bind (fun x => some (pml P l, x)) = some (pml P l, q) := e
    cases h2 : rn P l (cr P w a (pml P l)) with
    | none => rw [h2] at e; cases e
    | some q' =>
      rw [h2] at e
      cases e
      exact ⟨q, rfl, Nat.le_refl _⟩
/-- the most of what comes from the tables of a set -/
def Mx (P : Pr) (S : Nat) (T : Nat → Option Nat) (e : Nat) (o : Option Nat) : Prop := (∀ c, o = some c → ∃ l x, S.testBit l = true ∧ T l = some x ∧ c = cr P x (pml P l) e) ∧ ∀ l x, S.testBit l = true → T l = some x → ∃ c, o = some c ∧ cr P x (pml P l) e ≤ c
theorem Gd.drop {f S l l' : Nat} {v : List Nat} (hS : S < 256) (hl : l < 8) (g : Gd f S (v ++ [l']) l) : Gd f (dl S l) v l' := by
  obtain ⟨g1, g2, g3⟩ := g
  have n1 : (v ++ [l']).Nodup ∧ [l].Nodup ∧ ∀ x ∈ v ++ [l'], ∀ y ∈ [l], x ≠ y := List.nodup_append.1 g1
  refine ⟨n1.1, fun q => ?_, fun p hp => ?_⟩
  · have hq := g2 q
    constructor
    · intro hm
      have h1 : S.testBit q = true := hq.1 (List.mem_append_left _ hm)
      have q8 := bit_lt hS h1
      have hne : q ≠ l := n1.2.2 q hm l (by simp)
      rw [dl_bit S hS l hl q q8, h1]
      simp [hne]
    · intro hb
      have q8 := bit_lt (dl_lt S hS l hl) hb
      rw [dl_bit S hS l hl q q8] at hb
      simp only [Bool.and_eq_true, decide_eq_true_eq] at hb
      rcases List.mem_append.1 (hq.2 hb.1) with z | z
      · exact z
      · exact absurd (List.mem_singleton.1 z) hb.2
  · refine g3 p ?_
    cases v with
    | nil => exact hp
    | cons c t => exact hp
theorem Gd.grow {f S l l' : Nat} {v : List Nat} (hS : S < 256) (hl : l < 8) (hm : S.testBit l = true) (g : Gd f (dl S l) v l') : Gd f S (v ++ [l']) l := by
  obtain ⟨g1, g2, g3⟩ := g
  have hno : ¬ l ∈ v ++ [l'] := by
    intro z
    have := (g2 l).1 z
    rw [dl_bit S hS l hl l hl] at this
    simp at this
  refine ⟨List.nodup_append.2 ⟨g1, by simp, fun x hx y hy => ?_⟩, fun q => ?_, fun p hp => ?_⟩
  · rw [List.mem_singleton.1 hy]
    intro z
    rw [z] at hx
    exact hno hx
  · constructor
    · intro z
      rcases List.mem_append.1 z with z | z
      · have h1 := (g2 q).1 z
        have q8 := bit_lt (dl_lt S hS l hl) h1
        rw [dl_bit S hS l hl q q8] at h1
        simp only [Bool.and_eq_true] at h1
        exact h1.1
      · rw [List.mem_singleton.1 z]
        exact hm
    · intro hq
      by_cases e : q = l
      · rw [e]
        simp
      · refine List.mem_append_left _ ((g2 q).2 ?_)
        rw [dl_bit S hS l hl q (bit_lt hS hq), hq]
        simp [e]
  · refine g3 p ?_
    cases v with
    | nil => exact hp
    | cons c t => exact hp
theorem Top.step {P : Pr} {a w f S l : Nat} {T : Nat → Option Nat} {o : Option Nat} (hS : S < 256) (hl : l < 8) (hm : S.testBit l = true) (h0 : dl S l ≠ 0) (hT : ∀ l', (dl S l).testBit l' = true → Top P a w f (dl S l) l' (T l')) (hM : Mx P (dl S l) T (pml P l) o) : Top P a w f S l (o.bind (rn P l)) := by
  constructor
  · intro q h
    cases o with
    | none => cases h
    | some c =>
      have h : rn P l c = some q := h
      obtain ⟨l', x, b1, b2, rfl⟩ := hM.1 c rfl
      obtain ⟨v, g, e⟩ := (hT l' b1).1 x b2
      exact ⟨v ++ [l'], g.grow hS hl hm, fr_snoc.2 ⟨_, e, h⟩⟩
  · intro v q g e
    rcases List.eq_nil_or_concat v with hv | ⟨v', l', hv⟩
    · subst hv
      refine absurd ?_ h0
      refine set_ext (dl_lt S hS l hl) (by decide) (fun q hq => ?_)
      rw [Nat.zero_testBit, dl_bit S hS l hl q hq]
      cases hb : S.testBit q with
      | false => rfl
      | true =>
        have := (g.2.1 q).2 hb
        simp only [List.nil_append, List.mem_singleton] at this
        simp [this]
    · have hv : v = v' ++ [l'] := by rw [hv, List.concat_eq_append]
      subst hv
      obtain ⟨s, e1, e2⟩ := fr_snoc.1 e
      have es : s.1 = pml P l' := fr_last e1
      obtain ⟨s1, s2⟩ := s
      have es : s1 = pml P l' := es
      subst es
      have g' := g.drop hS hl
      have b1 : (dl S l).testBit l' = true := (g'.2.1 l').1 (by simp)
      obtain ⟨x', t1, t2⟩ := (hT l' b1).2 v' s2 g' e1
      obtain ⟨c, rfl, c2⟩ := hM.2 l' x' b1 t1
      obtain ⟨q', r1, r2⟩ := rn_mono e2 (Nat.le_trans (cr_mono t2) c2)
      exact ⟨q', r1, r2⟩
