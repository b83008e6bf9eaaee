/-! Texts: words -/
def lst (g : Nat → Int32) : Nat → List Nat
  | 0 => []
  | i + 1 => ((g i).toInt.toNat - 96) :: lst g i
def vl : List Nat → Nat
  | [] => 0
  | d :: t => 32 * vl t + d
def sv : List Nat → Nat
  | [] => 0
  | d :: t => if 36028797018963967 < sv t then sv t else 32 * sv t + d
def gdL (g : Nat → Int32) (i : Nat) : Prop := ∀ k, k < i → 97 ≤ (g k).toInt ∧ (g k).toInt ≤ 122
theorem lst_len {g : Nat → Int32} : ∀ i, (lst g i).length = i
  | 0 => rfl
  | i + 1 => by
    show (lst g i).length + 1 = i + 1
    rw [lst_len i]
theorem lst_d {g : Nat → Int32} : ∀ i, gdL g i → ∀ d, d ∈ lst g i → 1 ≤ d ∧ d ≤ 26
  | 0, _, d, h => by cases h
  | i + 1, hg, d, h => by
    rcases List.mem_cons.1 h with z | z
    · have := hg i (by omega)
      rw [z]
      omega
    · exact lst_d i (fun k hk => hg k (by omega)) d z
theorem lst_eq {g c : Nat → Int32} : ∀ i, gdL g i → gdL c i → (lst g i = lst c i ↔ ∀ k, k < i → g k = c k)
  | 0, _, _ => ⟨fun _ k hk => absurd hk (Nat.not_lt_zero _), fun _ => rfl⟩
  | i + 1, hg, hc => by
    have ih := lst_eq (g := g) (c := c) i (fun k hk => hg k (by omega)) (fun k hk => hc k (by omega))
    have a := hg i (by omega)
    have b := hc i (by omega)
    constructor
    · intro h k hk
      have h : ((g i).toInt.toNat - 96) :: lst g i = ((c i).toInt.toNat - 96) :: lst c i := h
      have h1 := (List.cons.inj h).1
      have h2 := (List.cons.inj h).2
      rcases Nat.lt_or_eq_of_le (Nat.le_of_lt_succ hk) with z | z
      · exact ih.1 h2 k z
      · rw [z]
        exact Int32.toInt_inj.1 (by omega)
    · intro h
      show ((g i).toInt.toNat - 96) :: lst g i = ((c i).toInt.toNat - 96) :: lst c i
      rw [h i (by omega), ih.2 (fun k hk => h k (by omega))]
theorem vl_inj : ∀ u v : List Nat, (∀ d, d ∈ u → 1 ≤ d ∧ d ≤ 26) → (∀ d, d ∈ v → 1 ≤ d ∧ d ≤ 26) → vl u = vl v → u = v
  | [], [], _, _, _ => rfl
  | [], d :: t, _, h, e => by
    have := h d (by simp)
    have e : 0 = 32 * vl t + d := e
    omega
  | d :: t, [], h, _, e => by
    have := h d (by simp)
    have e : 32 * vl t + d = 0 := e
    omega
  | d :: t, d' :: t', h, h', e => by
    have a := h d (by simp)
    have b := h' d' (by simp)
    have e : 32 * vl t + d = 32 * vl t' + d' := e
    have e1 : d = d' := by omega
    have e2 : vl t = vl t' := by omega
    rw [e1, vl_inj t t' (fun q hq => h q (List.mem_cons_of_mem _ hq)) (fun q hq => h' q (List.mem_cons_of_mem _ hq)) e2]
theorem sv_b : ∀ u : List Nat, (∀ d, d ∈ u → 1 ≤ d ∧ d ≤ 26) → sv u ≤ 1152921504606846976
  | [], _ => by unfold sv; decide
  | d :: t, h => by
    have a := h d (by simp)
    have ih := sv_b t (fun q hq => h q (List.mem_cons_of_mem _ hq))
    unfold sv
    by_cases c : 36028797018963967 < sv t
    · rw [if_pos c]; exact ih
    · rw [if_neg c]; omega
theorem sv_vl {c : Nat} (hc : c ≤ 36028797018963967) : ∀ u : List Nat, sv u = c ↔ vl u = c := by
  have up : ∀ u : List Nat, sv u ≤ 36028797018963967 → vl u = sv u := by
    intro u
    induction u with
    | nil => intro _; rfl
    | cons d t ih =>
      intro h
      unfold sv at h ⊢
      by_cases z : 36028797018963967 < sv t
      · rw [if_pos z] at h
        omega
      · rw [if_neg z]
        show 32 * vl t + d = _
        rw [ih (by omega)]
  have dn : ∀ u : List Nat, vl u ≤ 36028797018963967 → sv u = vl u := by
    intro u
    induction u with
    | nil => intro _; rfl
    | cons d t ih =>
      intro h
      have h : 32 * vl t + d ≤ 36028797018963967 := h
      have e := ih (by omega)
      unfold sv
      rw [if_neg (by omega), e]
      rfl
  intro u
  constructor
  · intro h
    rw [up u (by omega), h]
  · intro h
    rw [dn u (by omega), h]
def I (x : Int) : Int64 := Int64.ofInt x
theorem tI {x : Int} (h1 : -9223372036854775808 ≤ x) (h2 : x < 9223372036854775808) : (I x).toInt = x := Int64.toInt_ofInt_of_le h1 h2
theorem I_add (a b : Int) : I a + I b = I (a + b) := (Int64.ofInt_add a b).symm
theorem I_mul (a b : Int) : I a * I b = I (a * b) := (Int64.ofInt_mul a b).symm
theorem to64 {x : Int32} : x.toInt64 = I x.toInt := by
  refine Int64.toInt_inj.1 ?_
  have a := tlo x
  have b := thi x
  rw [t64, tI (by omega) (by omega)]
theorem lgle {a b : Int64} : lg_cmp a b ≤ 0 ↔ a.toInt ≤ b.toInt := by
  unfold lg_cmp
  simp only [gt_iff_lt, Int64.lt_iff_toInt_lt]
  by_cases z : b.toInt < a.toInt
  · rw [if_pos z]
    exact ⟨fun h => absurd h (by decide), fun h => by omega⟩
  · rw [if_neg z]
    by_cases z2 : a = b
    · rw [if_pos z2]
      exact ⟨fun _ => by omega, fun _ => by decide⟩
    · rw [if_neg z2]
      exact ⟨fun _ => by omega, fun _ => by decide⟩
theorem lgeq {a b : Int64} : lg_cmp a b = 0 ↔ a = b := by
  unfold lg_cmp
  simp only [gt_iff_lt, Int64.lt_iff_toInt_lt]
  by_cases z : b.toInt < a.toInt
  · rw [if_pos z]
    refine ⟨fun h => absurd h (by decide), fun h => ?_⟩
    rw [h] at z
    omega
  · rw [if_neg z]
    by_cases z2 : a = b
    · rw [if_pos z2]
      exact ⟨fun _ => z2, fun _ => rfl⟩
    · rw [if_neg z2]
      exact ⟨fun h => absurd h (by decide), fun h => absurd h z2⟩
section TW
variable {T : Nat → Int32} {L : Nat}
/-- a word stands here, and it is this one -/
def Wd (T : Nat → Int32) (L j e r : Nat) : Prop := (j < L ∧ ltT T j = true) ∧ lst (fun k => T (j + k)) (e - j) = lst (jschr r) (jsl r)
theorem let_all {j : Nat} (h : j < L ∧ ltT T j = true) : gdL (fun k => T (j + k)) (te T L j - j) := by
  intro k hk
  have e : te T L j = rq (ltT T) L j := by unfold te; rw [if_neg (by omega), if_pos h.2]
  have := (rq_b (q := ltT T) (show j ≤ L by omega)).2.2 (j + k) (by omega) (by omega)
  unfold ltT at this
  simp only [decide_eq_true_eq] at this
  exact this
theorem wlp {M : Me} {j e : Nat} (h : baY T L M) (h7 : M.1 0 17 = J (e : Nat)) (hj : j ≤ e) (he : e ≤ L) : ∃ v, lp (fpX6_word_l7 M) FU ((0 : Int64), J (j : Nat)) = some v ∧ (gdL (fun k => T (j + k)) (e - j) → v = I (sv (lst (fun k => T (j + k)) (e - j)) : Nat)) := by
  have L1 := h.1
  obtain ⟨v, er, q⟩ := lp_ok (step := fpX6_word_l7 M) (Q := fun v => gdL (fun k => T (j + k)) (e - j) → v = I (sv (lst (fun k => T (j + k)) (e - j)) : Nat)) (fun i st => st.2 = J ((j + i : Nat) : Int) ∧ (gdL (fun k => T (j + k)) (e - j) → st.1 = I (sv (lst (fun k => T (j + k)) i) : Nat))) (e - j) (by omega) (s := ((0 : Int64), J (j : Nat))) ⟨rfl, fun _ => rfl⟩ (by
    intro i st hi hst
    obtain ⟨va, ia⟩ := st
    obtain ⟨s1, s2⟩ := hst
    have s1 : ia = J ((j + i : Nat) : Int) := s1
    have s2 : gdL (fun k => T (j + k)) (e - j) → va = I (sv (lst (fun k => T (j + k)) i) : Nat) := s2
    subst s1
    show ok (fpX6_word_l7s va (J ((j + i : Nat) : Int)) M) _
    unfold fpX6_word_l7s
    rw [h7]
    by_cases c : e ≤ j + i
    · have ei : i = e - j := by omega
      refine okT ((leN (by omega) (by omega)).2 c) (okS ?_)
      show gdL _ _ → va = _
      rw [← ei] at s2 ⊢
      exact s2
    · refine okF (fun z => c ((leN (by omega) (by omega)).1 z)) ?_
      rw [J_succ]
      have hb : gdL (fun k => T (j + k)) (e - j) → sv (lst (fun k => T (j + k)) i) ≤ 1152921504606846976 := fun hg => sv_b _ (lst_d i (fun k hk => hg k (by omega)))
      by_cases c1 : lg_cmp va (36028797018963967 : Int64) ≤ 0
      · refine okT c1 (okE (inbJ (show j + i < 120 by omega) (by decide)) (okL (okL (okS ⟨by omega, rfl, fun hg => ?_⟩))))
        have sb := hb hg
        have hv : va = I (sv (lst (fun k => T (j + k)) i) : Nat) := s2 hg
        have gi := hg i (by omega)
        rw [lgle, hv, tI (by omega) (by omega)] at c1
        have c1 : ((sv (lst (fun k => T (j + k)) i) : Nat) : Int) ≤ 36028797018963967 := c1
        show (32 : Int64) * va + (M.1 11 (j + i) - (96 : Int32)).toInt64 = _
        have gi : 97 ≤ (T (j + i)).toInt ∧ (T (j + i)).toInt ≤ 122 := gi
        have e1 : (M.1 11 (j + i) - (96 : Int32)).toInt64 = I (((T (j + i)).toInt.toNat - 96 : Nat) : Int) := by
          have e2 : M.1 11 (j + i) - (96 : Int32) = J (((T (j + i)).toInt.toNat - 96 : Nat) : Int) := by
            rw [h.2.2 _ (by omega), show (96 : Int32) = J 96 from rfl]
            have et : T (j + i) = J (T (j + i)).toInt := (J_t _).symm
            rw [et, J_sub, J_t]
            congr 1
            omega
          rw [e2, to64, tJn (by omega)]
        rw [hv, e1, show (32 : Int64) = I 32 from rfl, I_mul, I_add]
        have es : sv (lst (fun k => T (j + k)) (i + 1)) = 32 * sv (lst (fun k => T (j + k)) i) + ((T (j + i)).toInt.toNat - 96) := by
          show (if 36028797018963967 < sv (lst (fun k => T (j + k)) i) then _ else 32 * sv (lst (fun k => T (j + k)) i) + ((T (j + i)).toInt.toNat - 96)) = _
          rw [if_neg (by omega)]
        rw [es]
        rfl
      · refine okF c1 (okL (okS ⟨by omega, rfl, fun hg => ?_⟩))
        have sb := hb hg
        have hv : va = I (sv (lst (fun k => T (j + k)) i) : Nat) := s2 hg
        rw [lgle, hv, tI (by omega) (by omega)] at c1
        have c1 : ¬ ((sv (lst (fun k => T (j + k)) i) : Nat) : Int) ≤ 36028797018963967 := c1
        show va = _
        rw [hv]
        have es : sv (lst (fun k => T (j + k)) (i + 1)) = sv (lst (fun k => T (j + k)) i) := by
          show (if 36028797018963967 < sv (lst (fun k => T (j + k)) i) then sv (lst (fun k => T (j + k)) i) else _) = _
          rw [if_pos (by omega)]
        rw [es])
  exact ⟨v, er, q⟩
/-- the model's word, at a token: it tells which of the words stands here -/
theorem word_e {M : Me} {j : Nat} (h : tkY T L M j (te T L j)) (hj : j ≤ L) (h9 : M.1 0 19 = 0) : ∃ v, fpX6_word M = some v ∧ ∀ r c, 1000 ≤ r → r < 1014 → vl (lst (jschr r) (jsl r)) = c → 0 < c → c ≤ 36028797018963967 → gdL (jschr r) (jsl r) → (lg_cmp v (I (c : Nat)) = 0 ↔ Wd T L j (te T L j) r) := by
  obtain ⟨hb, h6, h7⟩ := h
  have L1 := hb.1
  have tb := te_b (T := T) hj
  obtain ⟨v, e1, hv⟩ := wlp (M := M) (j := j) (e := te T L j) hb h7 tb.1 tb.2.1
  unfold fpX6_word letv
  dsimp only
  rw [h6, e1, Option.bind_some, if_pos h9, bytY hb (by omega), Option.bind_some, isLY]
  by_cases c : j < L ∧ ltT T j = true
  · rw [if_pos c, if_neg (show ¬ (1 : Int32) = 0 by decide)]
    refine ⟨v, rfl, fun r k r1 r2 hk k0 kK hg => ?_⟩
    have hl := let_all c
    have hv := hv hl
    have sb := sv_b _ (lst_d _ hl)
    rw [lgeq, hv]
    have e2 : (I (sv (lst (fun k => T (j + k)) (te T L j - j)) : Nat) = I (k : Nat)) ↔ sv (lst (fun k => T (j + k)) (te T L j - j)) = k := by
      rw [← Int64.toInt_inj, tI (by omega) (by omega), tI (by omega) (by omega)]
      omega
    rw [e2, sv_vl kK]
    constructor
    · intro z
      exact ⟨c, vl_inj _ _ (lst_d _ hl) (lst_d _ hg) (z.trans hk.symm)⟩
    · intro z
      rw [z.2]
      exact hk
  · rw [if_neg c, if_pos (show (0 : Int32) = 0 from rfl)]
    refine ⟨0, rfl, fun r k r1 r2 hk k0 kK hg => ?_⟩
    rw [lgeq]
    constructor
    · intro z
      have z : I ((0 : Nat) : Int) = I (k : Nat) := z
      rw [← Int64.toInt_inj, tI (by omega) (by omega), tI (by omega) (by omega)] at z
      omega
    · intro z
      exact absurd z.1 c
theorem jsl_d : ∀ i, i < 14 → jsl (1000 + i) ≤ 7 ∧ ∀ k, k < 7 → k < jsl (1000 + i) → 97 ≤ (jschr (1000 + i) k).toInt ∧ (jschr (1000 + i) k).toInt ≤ 122 := by decide +kernel
theorem jsl_g {r : Nat} (r1 : 1000 ≤ r) (r2 : r < 1014) : jsl r ≤ 7 ∧ gdL (jschr r) (jsl r) := by
  have := jsl_d (r - 1000) (by omega)
  rw [show 1000 + (r - 1000) = r by omega] at this
  exact ⟨this.1, fun k hk => this.2 k (by omega) hk⟩
theorem kd_0 {j : Nat} : kd T L j = 0 ↔ j < L ∧ ltT T j = true := by
  unfold kd
  by_cases c : L ≤ j
  · rw [if_pos c]
    exact ⟨fun z => (by cases z), fun z => by omega⟩
  · rw [if_neg c]
    by_cases c1 : ltT T j = true
    · rw [if_pos c1]
      exact ⟨fun _ => ⟨by omega, c1⟩, fun _ => rfl⟩
    · rw [if_neg c1]
      refine ⟨fun z => ?_, fun z => absurd z.2 c1⟩
      by_cases c2 : dgT T j = true
      · rw [if_pos c2] at z; cases z
      · rw [if_neg c2] at z
        by_cases c3 : T j = 59
        · rw [if_pos c3] at z; cases z
        · rw [if_neg c3] at z; cases z
theorem kd_lt {j : Nat} : kd T L j < 5 := by
  unfold kd
  by_cases c : L ≤ j
  · rw [if_pos c]; decide
  · rw [if_neg c]
    by_cases c1 : ltT T j = true
    · rw [if_pos c1]; decide
    · rw [if_neg c1]
      by_cases c2 : dgT T j = true
      · rw [if_pos c2]; decide
      · rw [if_neg c2]
        by_cases c3 : T j = 59
        · rw [if_pos c3]; decide
        · rw [if_neg c3]; decide
/-- the class's isWord at a token -/
theorem isW_e {M : Me} {j r : Nat} (h : tkX T L M j (te T L j)) (hj : j ≤ L) (r1 : 1000 ≤ r) (r2 : r < 1014) : ∃ b, fpX4_isWord r M = some b ∧ ((b = 1 ∧ Wd T L j (te T L j) r) ∨ (b = 0 ∧ ¬ Wd T L j (te T L j) r)) := by
  obtain ⟨hb, h2, h3, h4, -⟩ := h
  have L1 := hb.1
  have tb := te_b (T := T) hj
  obtain ⟨js, hg⟩ := jsl_g r1 r2
  have hk := kd_lt (T := T) (L := L) (j := j)
  unfold fpX4_isWord
  rw [h2]
  by_cases c : j < L ∧ ltT T j = true
  · rw [if_pos (show J (kd T L j : Nat) = (0 : Int32) from (eqN (b := 0) (by omega) (by omega)).2 (kd_0.2 c)), h3, h4, subN tb.1]
    have hl := let_all c
    have ej : jslen r = J (jsl r : Nat) := rfl
    rw [ej]
    by_cases c1 : te T L j - j = jsl r
    · rw [if_pos (by rw [c1])]
      obtain ⟨o, er, ho⟩ := lp_ok (step := fpX4_isWord_l27 r M) (Q := fun o => Sum.elim (fun _ => ∀ k, k < jsl r → T (j + k) = jschr r k) (fun b => b = 0 ∧ ¬ ∀ k, k < jsl r → T (j + k) = jschr r k) o) (fun i st => st = J (i : Nat) ∧ ∀ k, k < i → T (j + k) = jschr r k) (jsl r) (by omega) (s := (0 : Int32)) ⟨rfl, fun k hk => absurd hk (Nat.not_lt_zero _)⟩ (by
        intro i st hi hst
        obtain ⟨rfl, x1⟩ := hst
        show ok (fpX4_isWord_l27s r (J (i : Nat)) M) _
        unfold fpX4_isWord_l27s
        rw [ej, h3]
        rcases Nat.lt_or_eq_of_le hi with him | him
        · refine okF (fun z => by have := (leN (by omega) (by omega)).1 z; omega) ?_
          rw [addN]
          refine okE (inbJ (show j + i < 120 by omega) (by decide)) (okE (inbJ him (by omega)) ?_)
          rw [hb.2.2 _ (by omega)]
          by_cases c2 : T (j + i) = jschr r i
          · refine okT c2 (okL (okS ⟨him, J_succ i, fun k hk => ?_⟩))
            rcases Nat.lt_or_eq_of_le (Nat.le_of_lt_succ hk) with z | z
            · exact x1 k z
            · rw [z]; exact c2
          · exact okF c2 (okS ⟨rfl, fun z => c2 (z i him)⟩)
        · refine okT ((leN (by omega) (by omega)).2 (by omega)) (okS ?_)
          show ∀ k, k < jsl r → T (j + k) = jschr r k
          rw [← him]
          exact x1)
      have er : lp (fpX4_isWord_l27 r M) FU (0 : Int32) = some o := er
      rw [er, Option.bind_some]
      have iff : Wd T L j (te T L j) r ↔ ∀ k, k < jsl r → T (j + k) = jschr r k := by
        unfold Wd
        rw [c1] at hl ⊢
        rw [lst_eq (jsl r) hl hg]
        exact ⟨fun z => z.2, fun z => ⟨c, z⟩⟩
      rcases o with u | b
      · exact ⟨1, rfl, Or.inl ⟨rfl, iff.2 ho⟩⟩
      · exact ⟨b, rfl, Or.inr ⟨ho.1, fun z => ho.2 (iff.1 z)⟩⟩
    · rw [if_neg (fun z => c1 ((eqN (by omega) (by omega)).1 z))]
      refine ⟨0, rfl, Or.inr ⟨rfl, fun z => c1 ?_⟩⟩
      have := congrArg List.length z.2
      rw [lst_len, lst_len] at this
      exact this
  · rw [if_neg (show ¬ J (kd T L j : Nat) = (0 : Int32) from fun z => c (kd_0.1 ((eqN (b := 0) (by omega) (by omega)).1 z)))]
    exact ⟨0, rfl, Or.inr ⟨rfl, fun z => c z.1⟩⟩
/-- of two words only one stands here -/
theorem Wd.ne {j e r r' : Nat} (h : Wd T L j e r) (hne : lst (jschr r) (jsl r) ≠ lst (jschr r') (jsl r')) : ¬ Wd T L j e r' := fun z => hne (h.2.symm.trans z.2)
end TW
