/-! The best plan: of fewest pumps, then of least numbers -/
noncomputable def nx (T : Nat → Prop) : Nat := Classical.epsilon (fun p => T p ∧ ∀ q, q < p → ¬ T q)
theorem least_ex {T : Nat → Prop} (p : Nat) : T p → ∃ p, T p ∧ ∀ q, q < p → ¬ T q := by
  induction p using Nat.strongRecOn with
  | _ p ih =>
    intro h
    by_cases c : ∃ q, q < p ∧ T q
    · obtain ⟨q, c1, c2⟩ := c
      exact ih q c1 c2
    · exact ⟨p, h, fun q hq hT => c ⟨q, hq, hT⟩⟩
theorem nx_spec {T : Nat → Prop} {p : Nat} (h : T p) : T (nx T) ∧ ∀ q, q < nx T → ¬ T q := Classical.epsilon_spec (p := fun p => T p ∧ ∀ q, q < p → ¬ T q) (least_ex p h)
theorem nx_eq {T : Nat → Prop} {p : Nat} (h1 : T p) (h2 : ∀ q, q < p → ¬ T q) : nx T = p := by
  obtain ⟨h3, h4⟩ := nx_spec h1
  rcases Nat.lt_trichotomy (nx T) p with c | c | c
  · exact absurd h3 (h2 _ c)
  · exact c
  · exact absurd h1 (h4 p c)
/-- a pump that a best plan of n pumps can go on with -/
def Okp (P : Pr) (t n S a w p : Nat) : Prop := (pab P).testBit p = true ∧ S.testBit p = false ∧ ∃ x, rn P p (cr P w a (pml P p)) = some x ∧ Can P 0 t (nS S p) (CC (some n)) (pml P p) x
noncomputable def gst (P : Pr) (s w t n : Nat) : Nat → Nat × Nat × Nat
  | 0 => (0, s, w)
  | i + 1 => (nS (gst P s w t n i).1 (nx (Okp P t n (gst P s w t n i).1 (gst P s w t n i).2.1 (gst P s w t n i).2.2)), pml P (nx (Okp P t n (gst P s w t n i).1 (gst P s w t n i).2.1 (gst P s w t n i).2.2)), (rn P (nx (Okp P t n (gst P s w t n i).1 (gst P s w t n i).2.1 (gst P s w t n i).2.2)) (cr P (gst P s w t n i).2.2 (gst P s w t n i).2.1 (pml P (nx (Okp P t n (gst P s w t n i).1 (gst P s w t n i).2.1 (gst P s w t n i).2.2))))).getD 0)
noncomputable def gpl (P : Pr) (s w t n i : Nat) : Nat := nx (Okp P t n (gst P s w t n i).1 (gst P s w t n i).2.1 (gst P s w t n i).2.2)
/-- how far a best plan has come -/
def Inv (P : Pr) (s w t n i S a x : Nat) : Prop := S < 256 ∧ pc S = i ∧ sb S (pab P) ∧ Can P 0 t S (CC (some n)) a x ∧ x < 1000 ∧ ∃ v, v.Nodup ∧ (∀ q, q ∈ v ↔ S.testBit q = true) ∧ fr P s w v = some (a, x)
theorem le_top {P : Pr} {s w t a x r : Nat} {v u : List Nat} (hB : Bst P 0 s w (pab P) (fun _ => True) (some t)) (hv : v.Nodup) (hf : fr P s w v = some (a, x)) (hu : u.Nodup) (hua : ∀ q, q ∈ u → (pab P).testBit q = true) (hd : ∀ q, q ∈ u → ¬ q ∈ v) (hb : bk P 0 a x u = some r) : r ≤ t := by
  have e : bk P 0 s w (v ++ u) = some r := by
    unfold bk
    rw [fr_app, hf]
    exact hb
  obtain ⟨q', h1, h2⟩ := hB.2 (v ++ u) r ⟨List.nodup_append.2 ⟨hv, hu, fun p hp q hq z => by rw [z] at hp; exact hd q hq hp⟩, fun p hp => by
    rcases List.mem_append.1 hp with z | z
    · exact fr_able v s w _ hf p z
    · exact hua p z, trivial⟩ e
  cases h1
  exact h2
theorem CC_some {n j : Nat} : CC (some n) j ↔ n = j := ⟨fun z => by
  rcases z with z | z
  · cases z
  · exact Option.some.inj z, fun z => Or.inr (by rw [z])⟩
theorem Inv.next {P : Pr} {s w t n i S a x p : Nat} (hr : prom P < 1000) (hI : Inv P s w t n i S a x) (hp : Okp P t n S a x p) (p8 : p < 8) : ∃ y, rn P p (cr P x a (pml P p)) = some y ∧ Inv P s w t n (i + 1) (nS S p) (pml P p) y := by
  obtain ⟨h1, h2, h3, h4, h5, v, v1, v2, v3⟩ := hI
  obtain ⟨c1, c2, y, c3, c4⟩ := hp
  refine ⟨y, c3, nS_lt S h1 p p8, by rw [pc_nS S h1 p p8 c2, h2], sb_nS (m := 8) h1 p8 c1 h3, c4, by have := rn_le c3; omega, v ++ [p], ?_, fun q => ?_, fr_snoc.2 ⟨_, v3, c3⟩⟩
  · refine List.nodup_append.2 ⟨v1, by simp, fun q hq z hz e => ?_⟩
    rw [List.mem_singleton.1 hz] at e
    rw [e] at hq
    have := (v2 p).1 hq
    rw [c2] at this
    cases this
  · constructor
    · intro hq
      rcases List.mem_append.1 hq with z | z
      · have hb := (v2 q).1 z
        rw [nS_bit S h1 p p8 q (bit_lt h1 hb), hb]
        rfl
      · rw [List.mem_singleton.1 z, nS_bit S h1 p p8 p p8]
        simp
    · intro hq
      have q8 := bit_lt (nS_lt S h1 p p8) hq
      rw [nS_bit S h1 p p8 q q8] at hq
      simp only [Bool.or_eq_true, decide_eq_true_eq] at hq
      rcases hq with z | z
      · exact List.mem_append_left _ ((v2 q).2 z)
      · rw [z]; simp
theorem Inv.ex {P : Pr} {s w t n i S a x : Nat} (hab : pab P < 256) (hI : Inv P s w t n i S a x) (hi : i < n) : ∃ p, p < 8 ∧ Okp P t n S a x p := by
  obtain ⟨h1, h2, h3, h4, h5, -⟩ := hI
  rcases (Can.step h1 hab).1 h4 with ⟨z, -⟩ | ⟨p, p1, p2, p3, y, p4, p5⟩
  · have := CC_some.1 z
    omega
  · exact ⟨p, p1, p2, p3, y, p4, p5⟩
theorem Okp.lt {P : Pr} {t n S a x p : Nat} (hab : pab P < 256) (h : Okp P t n S a x p) : p < 8 := bit_lt hab h.1
theorem gst_s {P : Pr} {s w t n i y : Nat} (h : rn P (gpl P s w t n i) (cr P (gst P s w t n i).2.2 (gst P s w t n i).2.1 (pml P (gpl P s w t n i))) = some y) : gst P s w t n (i + 1) = (nS (gst P s w t n i).1 (gpl P s w t n i), pml P (gpl P s w t n i), y) := by
  have e : gst P s w t n (i + 1) = (nS (gst P s w t n i).1 (gpl P s w t n i), pml P (gpl P s w t n i), (rn P (gpl P s w t n i) (cr P (gst P s w t n i).2.2 (gst P s w t n i).2.1 (pml P (gpl P s w t n i)))).getD 0) := rfl
  rw [e, h]
  rfl
theorem inv_i {P : Pr} {s w t n : Nat} (hab : pab P < 256) (hr : prom P < 1000) (hw : w < 1000) (hN : Can P 0 t 0 (CC (some n)) s w) : ∀ i, i ≤ n → Inv P s w t n i (gst P s w t n i).1 (gst P s w t n i).2.1 (gst P s w t n i).2.2
  | 0, _ => ⟨by show 0 < 256; decide, by show pc 0 = 0; rfl, fun q _ hq => by have hq : Nat.testBit 0 q = true := hq; simp at hq, hN, hw, [], by simp, fun q => by show q ∈ [] ↔ Nat.testBit 0 q = true; simp, rfl⟩
  | i + 1, hi => by
    have hI := inv_i hab hr hw hN i (by omega)
    obtain ⟨p, p8, hp⟩ := hI.ex hab (by omega)
    have hg : Okp P t n _ _ _ (gpl P s w t n i) := (nx_spec hp).1
    obtain ⟨y, e1, e2⟩ := hI.next hr hg (hg.lt hab)
    rw [gst_s e1]
    exact e2
theorem gp_ok {P : Pr} {s w t n i : Nat} (hab : pab P < 256) (hr : prom P < 1000) (hw : w < 1000) (hN : Can P 0 t 0 (CC (some n)) s w) (hi : i < n) : Okp P t n (gst P s w t n i).1 (gst P s w t n i).2.1 (gst P s w t n i).2.2 (gpl P s w t n i) ∧ ∀ q, q < gpl P s w t n i → ¬ Okp P t n (gst P s w t n i).1 (gst P s w t n i).2.1 (gst P s w t n i).2.2 q := by
  obtain ⟨p, p8, hp⟩ := (inv_i hab hr hw hN i (by omega)).ex hab hi
  exact nx_spec hp
theorem gp_st {P : Pr} {s w t n i : Nat} (hab : pab P < 256) (hr : prom P < 1000) (hw : w < 1000) (hN : Can P 0 t 0 (CC (some n)) s w) (hi : i < n) : ∃ y, rn P (gpl P s w t n i) (cr P (gst P s w t n i).2.2 (gst P s w t n i).2.1 (pml P (gpl P s w t n i))) = some y ∧ gst P s w t n (i + 1) = (nS (gst P s w t n i).1 (gpl P s w t n i), pml P (gpl P s w t n i), y) := by
  have hg := (gp_ok hab hr hw hN hi).1
  obtain ⟨-, -, y, e1, -⟩ := hg
  exact ⟨y, e1, gst_s e1⟩
/-- the best of the plans that go on so is the top if such a plan brings it -/
theorem top_iff {P : Pr} {s w t n i S a x p y may : Nat} {o : Option Nat} (hB : Bst P 0 s w (pab P) (fun _ => True) (some t)) (hr : prom P < 1000) (hI : Inv P s w t n i S a x) (hin : i < n) (p8 : p < 8) (c1 : (pab P).testBit p = true) (c2 : S.testBit p = false) (c3 : rn P p (cr P x a (pml P p)) = some y) (hm : ∀ q, may.testBit q = true ↔ (pab P).testBit q = true ∧ (nS S p).testBit q = false) (hb : Bst P 0 (pml P p) y may (CC (some (n - 1 - i))) o) : o = some t ↔ Can P 0 t (nS S p) (CC (some n)) (pml P p) y := by
  obtain ⟨h1, h2, h3, h4, h5, v, v1, v2, v3⟩ := hI
  have pcS : pc (nS S p) = i + 1 := by rw [pc_nS S h1 p p8 c2, h2]
  constructor
  · intro e
    obtain ⟨u, ⟨u1, u2, u3⟩, u4⟩ := hb.1 t e
    refine ⟨u, t, u1, fun q hq => (hm q).1 (u2 q hq), ?_, u4, Nat.le_refl _⟩
    rw [pcS]
    have := CC_some.1 u3
    exact CC_some.2 (by omega)
  · intro ⟨u, r, u1, u2, u3, u4, u5⟩
    rw [pcS] at u3
    have u3 := CC_some.1 u3
    obtain ⟨q', e1, e2⟩ := hb.2 u r ⟨u1, fun q hq => (hm q).2 (u2 q hq), CC_some.2 (by omega)⟩ u4
    obtain ⟨u', ⟨w1, w2, w3⟩, w4⟩ := hb.1 q' e1
    have hnd : (v ++ [p]).Nodup := by
      refine List.nodup_append.2 ⟨v1, by simp, fun q hq z hz e => ?_⟩
      rw [List.mem_singleton.1 hz] at e
      rw [e] at hq
      have := (v2 p).1 hq
      rw [c2] at this
      cases this
    have le := le_top hB hnd (fr_snoc.2 ⟨_, v3, c3⟩) w1 (fun q hq => ((hm q).1 (w2 q hq)).1) (fun q hq z => by
      have hq := ((hm q).1 (w2 q hq)).2
      have : (nS S p).testBit q = true := by
        rcases List.mem_append.1 z with y | y
        · have hb := (v2 q).1 y
          rw [nS_bit S h1 p p8 q (bit_lt h1 hb), hb]
          rfl
        · rw [List.mem_singleton.1 y, nS_bit S h1 p p8 p p8]
          simp
      rw [this] at hq
      cases hq) w4
    rw [e1]
    congr 1
    omega
theorem top_iff0 {P : Pr} {s w t k : Nat} {o : Option Nat} (hB : Bst P 0 s w (pab P) (fun _ => True) (some t)) (hb : Bst P 0 s w (pab P) (CC (some k)) o) : o = some t ↔ Can P 0 t 0 (CC (some k)) s w := by
  constructor
  · intro e
    exact hb.can.1 ⟨t, e, Nat.le_refl _⟩
  · intro z
    obtain ⟨q, e1, e2⟩ := hb.can.2 z
    obtain ⟨u, ⟨w1, w2, w3⟩, w4⟩ := hb.1 q e1
    obtain ⟨q', z1, z2⟩ := hB.2 u q ⟨w1, w2, trivial⟩ w4
    cases z1
    rw [e1]
    congr 1
    omega
theorem enc_eq {o : Option Nat} {t : Nat} (h : ∀ x, o = some x → x < 1000000) (ht : t < 1000000) : enc o = J (t : Nat) ↔ o = some t := by
  cases o with
  | none => exact ⟨fun z => absurd z.symm (enc_ne ht), fun z => by cases z⟩
  | some x =>
    have := h x rfl
    constructor
    · intro z
      rw [(eqN (by omega) (by omega)).1 z]
    · intro z
      cases z
      rfl
