/-! The model's best, over all sets -/
def TabY (M : Me) (P : Pr) (a w may N : Nat) : Prop := ∀ S l, 0 < S → S < N → sb S may → S.testBit l = true → Top P a w 255 S l (ty8 M S l) ∧ RowY M S l
theorem ty_same {M N : Me} {S l : Nat} (h : N.1 8 (8 * S + l) = M.1 8 (8 * S + l)) : ty8 N S l = ty8 M S l := by
  unfold ty8
  rw [h]
theorem RowY.same {M N : Me} {S l : Nat} (h : N.1 8 (8 * S + l) = M.1 8 (8 * S + l)) (r : RowY M S l) : RowY N S l := by
  unfold RowY
  rw [ty_same h, h]
  exact r
theorem wr_ty {X : Me} {S i : Nat} {o : Option Nat} (ho : ∀ x, o = some x → x < 1000) : ty8 (wrM X 8 (8 * S + i) (enc o)) S i = o ∧ RowY (wrM X 8 (8 * S + i) (enc o)) S i := by
  have t : ty8 (wrM X 8 (8 * S + i) (enc o)) S i = o := by
    unfold ty8
    rw [wrM_eq, dec_enc (fun x hx => by have := ho x hx; omega)]
  refine ⟨t, ?_, fun x hx => ho x (t.symm.trans hx)⟩
  rw [t, wrM_eq]
theorem b255 : ∀ i, i < 8 → Nat.testBit 255 i = true := by decide +kernel
/-- what stands of the best behind the pumps below i of S -/
def BI (P : Pr) (X : Me) (fl : Prop) (e S i : Nat) (b0 b : Option Nat) : Prop := (∀ c, b = some c → b0 = some c ∨ (fl ∧ ∃ l x, l < i ∧ S.testBit l = true ∧ ty8 X S l = some x ∧ c = cr P x (pml P l) e)) ∧ (∀ c, b0 = some c → ∃ c', b = some c' ∧ c ≤ c') ∧ (fl → ∀ l x, l < i → S.testBit l = true → ty8 X S l = some x → ∃ c', b = some c' ∧ cr P x (pml P l) e ≤ c') ∧ ∀ c, b = some c → c < 1000
theorem bfi_e {K : Me} {m a w may e S : Nat} {b0 : Option Nat} {fl : Prop} {a4 a8 : Int32} {P : Pr} (h : PY K m P) (ha : a < 1000) (hw : w < 1000) (he : e < 1000) (hmay : may < 256) (hma : ∀ q, may.testBit q = true → q < m) (hfl : a8 = 0 ↔ ¬ fl) (hb0 : ∀ c, b0 = some c → c < 1000) (S0 : 0 < S) (hS : S < 256) (hsb : sb S may) (hT : TabY K P a w may S) : ∃ N b, lp (fpX6_bestFrom_l56 (J (a : Nat)) (J (w : Nat)) (J (may : Nat)) a4 (J (e : Nat)) (J (S : Nat)) a8) FU (enc b0, (0 : Int32), K) = some (enc b, N) ∧ (∀ r j, r ≠ 8 → N.1 r j = K.1 r j) ∧ N.2 = K.2 ∧ TabY N P a w may (S + 1) ∧ BI P N fl e S 8 b0 b ∧ ∀ S' l, S' ≠ S → l < 8 → N.1 8 (8 * S' + l) = K.1 8 (8 * S' + l) := by
  have h1 := h.1
  have hSm : ∀ q, S.testBit q = true → q < m := fun q hq => hma q (hsb q (bit_lt hS hq) hq)
  obtain ⟨⟨rb, N⟩, er, b, f0, f1, f2, f3, f4, f5⟩ := lp_ok (step := fpX6_bestFrom_l56 (J (a : Nat)) (J (w : Nat)) (J (may : Nat)) a4 (J (e : Nat)) (J (S : Nat)) a8) (Q := fun r => ∃ b, r.1 = enc b ∧ (∀ r' j, r' ≠ 8 → r.2.1 r' j = K.1 r' j) ∧ r.2.2 = K.2 ∧ (∀ S' l, S' ≠ S → l < 8 → r.2.1 8 (8 * S' + l) = K.1 8 (8 * S' + l)) ∧ (∀ l, l < 8 → S.testBit l = true → Top P a w 255 S l (ty8 r.2 S l) ∧ RowY r.2 S l) ∧ BI P r.2 fl e S 8 b0 b) (fun i st => st.2.1 = J (i : Nat) ∧ ∃ b, st.1 = enc b ∧ (∀ r' j, r' ≠ 8 → st.2.2.1 r' j = K.1 r' j) ∧ st.2.2.2 = K.2 ∧ (∀ S' l, S' ≠ S → l < 8 → st.2.2.1 8 (8 * S' + l) = K.1 8 (8 * S' + l)) ∧ (∀ l, l < i → S.testBit l = true → Top P a w 255 S l (ty8 st.2.2 S l) ∧ RowY st.2.2 S l) ∧ BI P st.2.2 fl e S i b0 b) 8 (by omega) (s := (enc b0, (0 : Int32), K)) ⟨rfl, b0, rfl, fun _ _ _ => rfl, rfl, fun _ _ _ _ => rfl, fun l hl => absurd hl (Nat.not_lt_zero _), fun c hc => Or.inl hc, fun c hc => ⟨c, hc, Nat.le_refl _⟩, fun _ l x hl => absurd hl (Nat.not_lt_zero _), hb0⟩ (by
    intro i st hi hst
    obtain ⟨ba, ia, X⟩ := st
    obtain ⟨s1, b, s2, x1, x1', x2, x3, y1, y2, y3, y4⟩ := hst
    have s1 : ia = J (i : Nat) := s1
    have s2 : ba = enc b := s2
    have x1 : ∀ r' j, r' ≠ 8 → X.1 r' j = K.1 r' j := x1
    have x1' : X.2 = K.2 := x1'
    have x2 : ∀ S' l, S' ≠ S → l < 8 → X.1 8 (8 * S' + l) = K.1 8 (8 * S' + l) := x2
    have x3 : ∀ l, l < i → S.testBit l = true → Top P a w 255 S l (ty8 X S l) ∧ RowY X S l := x3
    have y1 : ∀ c, b = some c → b0 = some c ∨ (fl ∧ ∃ l x, l < i ∧ S.testBit l = true ∧ ty8 X S l = some x ∧ c = cr P x (pml P l) e) := y1
    have y3 : fl → ∀ l x, l < i → S.testBit l = true → ty8 X S l = some x → ∃ c', b = some c' ∧ cr P x (pml P l) e ≤ c' := y3
    subst s1
    subst s2
    have hX : PY X m P := h.same (fun r j hr => x1 r j hr)
    show ok (fpX6_bestFrom_l56s (J (a : Nat)) (J (w : Nat)) (J (may : Nat)) a4 (J (e : Nat)) (J (S : Nat)) a8 (enc b) (J (i : Nat)) X) _
    unfold fpX6_bestFrom_l56s
    rcases Nat.lt_or_eq_of_le hi with him | him
    · refine okF (fun z => by have := (leN (a := 8) (by omega) (by omega)).1 z; omega) (okT ((sub_d hS hmay).2 hsb) ?_)
      rw [has_d S hS i him, del_d S hS i him]
      by_cases hb : S.testBit i = true
      · rw [if_pos hb]
        refine okF (by decide) ?_
        have hm := hSm i hb
        -- what comes
        have com : ∃ o, fpX6_comesWith (J (dl S i : Nat)) (J (i : Nat)) (J (w : Nat)) (J (a : Nat)) X = some (enc o) ∧ (∀ x, o = some x → x < 1000000) ∧ Top P a w 255 S i (o.bind (rn P i)) := by
          by_cases h0 : dl S i = 0
          · refine ⟨some (cr P w a (pml P i)), ?_, fun x e => by cases e; unfold cr; omega, ?_⟩
            · unfold fpX6_comesWith
              rw [h0, if_pos (show J ((0 : Nat) : Int) = (0 : Int32) from rfl), itM_e hX hm, Option.bind_some, left_e hX (by omega) (by omega) (Nat.lt_trans (h.2.2.2.2.2.2.2.1 i hm).1 (by decide))]
              rfl
            · have := Top.one (P := P) (a := a) (w := w) (f := 255) hS him hb h0
              rw [if_pos (b255 i him)] at this
              exact this
          · have dS := dl_lt' S hS i him hb
            have d8 := dl_lt S hS i him
            have hdm : ∀ q, (dl S i).testBit q = true → S.testBit q = true := fun q hq => by
              rw [dl_bit S hS i him q (bit_lt d8 hq)] at hq
              simp only [Bool.and_eq_true] at hq
              exact hq.1
            have hdT : ∀ l, (dl S i).testBit l = true → Top P a w 255 (dl S i) l (ty8 X (dl S i) l) ∧ RowY X (dl S i) l := fun l hl => by
              have es := x2 (dl S i) l (by omega) (bit_lt d8 hl)
              obtain ⟨z1, z2⟩ := hT (dl S i) l (Nat.pos_of_ne_zero h0) dS (fun q q8 hq => hsb q q8 (hdm q hq)) hl
              exact ⟨by rw [ty_same es]; exact z1, z2.same es⟩
            obtain ⟨o, c1, c2, c3⟩ := cw_e (a := a) (w := w) hX d8 h0 (fun q hq => hSm q (hdm q hq)) hm (fun l hl => (hdT l hl).2)
            exact ⟨o, c1, fun x e => Nat.lt_trans (c3 x e) (by decide), Top.step hS him hb h0 (fun l hl => (hdT l hl).1) c2⟩
        obtain ⟨o, c1, c2, c3⟩ := com
        have e8 : (8 : Int32) * J (S : Nat) + J (i : Nat) = J ((8 * S + i : Nat) : Int) := by
          rw [show (8 : Int32) = J 8 from rfl, J_mul, J_add]
          rfl
        refine okE c1 (okE (ranY_e hX hm c2) ?_)
        rw [e8]
        refine okE (inbJ (show 8 * S + i < 2048 by omega) (by decide)) (okL ?_)
        generalize hv : o.bind (rn P i) = v at c3
        have v9 : ∀ x, v = some x → x < 1000 := fun x hx => Nat.lt_of_le_of_lt (c3.le hx) h.2.2.2.2.1
        obtain ⟨t1, t2⟩ := wr_ty (X := X) (S := S) (i := i) v9
        generalize hA : wrM X 8 (8 * S + i) (enc v) = A at t1 t2
        have A1 : ∀ r j, r ≠ 8 → A.1 r j = X.1 r j := fun r j hr => by rw [← hA, wrM_nr hr]
        have A2 : A.2 = K.2 := by rw [← hA]; exact x1'
        have A3 : ∀ S' l, S' ≠ S → l < 8 → A.1 8 (8 * S' + l) = K.1 8 (8 * S' + l) := fun S' l h3 h4 => by
          rw [← hA, wrM_nj (by omega)]; exact x2 S' l h3 h4
        have A4 : ∀ l, l < i → ty8 A S l = ty8 X S l := fun l hl => ty_same (by rw [← hA, wrM_nj (by omega)])
        have A5 : ∀ l, l < i + 1 → S.testBit l = true → Top P a w 255 S l (ty8 A S l) ∧ RowY A S l := fun l hl hbl => by
          rcases Nat.lt_or_eq_of_le (Nat.le_of_lt_succ hl) with z | z
          · obtain ⟨z1, z2⟩ := x3 l z hbl
            exact ⟨by rw [A4 l z]; exact z1, z2.same (by rw [← hA, wrM_nj (by omega)])⟩
          · subst z
            exact ⟨by rw [t1]; exact c3, t2⟩
        have hAP : PY A m P := hX.same (fun r j hr => A1 r j hr)
        -- the new best
        have fin : ∀ b', (∀ c, b' = some c → b = some c ∨ (fl ∧ ∃ x, v = some x ∧ c = cr P x (pml P i) e)) → (∀ c, b = some c → ∃ c', b' = some c' ∧ c ≤ c') → (fl → ∀ x, v = some x → ∃ c', b' = some c' ∧ cr P x (pml P i) e ≤ c') → BI P A fl e S (i + 1) b0 b' := by
          intro b' u1 u2 u3
          refine ⟨fun c hc => ?_, fun c hc => ?_, fun hf l x hl hbl hx => ?_, fun c hc => ?_⟩
          · rcases u1 c hc with z | ⟨z1, x, z2, z3⟩
            · rcases y1 c z with q | ⟨q1, l, x, q2, q3, q4, q5⟩
              · exact Or.inl q
              · exact Or.inr ⟨q1, l, x, by omega, q3, by rw [A4 l q2]; exact q4, q5⟩
            · exact Or.inr ⟨z1, i, x, by omega, hb, by rw [t1]; exact z2, z3⟩
          · obtain ⟨c', d1, d2⟩ := y2 c hc
            obtain ⟨c'', d3, d4⟩ := u2 c' d1
            exact ⟨c'', d3, Nat.le_trans d2 d4⟩
          · rcases Nat.lt_or_eq_of_le (Nat.le_of_lt_succ hl) with z | z
            · rw [A4 l z] at hx
              obtain ⟨c', d1, d2⟩ := y3 hf l x z hbl hx
              obtain ⟨c'', d3, d4⟩ := u2 c' d1
              exact ⟨c'', d3, Nat.le_trans d2 d4⟩
            · subst z
              rw [t1] at hx
              exact u3 hf x hx
          · rcases u1 c hc with z | ⟨z1, x, z2, z3⟩
            · exact y4 c z
            · have := v9 x z2
              have hc' : cr P x (pml P i) e ≤ x := by unfold cr; omega
              omega
        have neg1 : (-1 : Int32) ≤ enc b := by
          cases b with
          | none => exact Int32.le_refl _
          | some c =>
            have := y4 c rfl
            exact (leJ (a := -1) (b := (c : Int)) (by omega) (by omega) (by omega) (by omega)).2 (by omega)
        have keep : BI P A fl e S (i + 1) b0 b → ok (fpX6_bestFrom_b152_56 (J (a : Nat)) (J (w : Nat)) (J (may : Nat)) a4 (J (e : Nat)) (enc b) (J (S : Nat)) a8 (J (i : Nat)) A) (Sum.elim (fun st => i < 8 ∧ st.2.1 = J ((i + 1 : Nat) : Int) ∧ ∃ b, st.1 = enc b ∧ (∀ r' j, r' ≠ 8 → st.2.2.1 r' j = K.1 r' j) ∧ st.2.2.2 = K.2 ∧ (∀ S' l, S' ≠ S → l < 8 → st.2.2.1 8 (8 * S' + l) = K.1 8 (8 * S' + l)) ∧ (∀ l, l < i + 1 → S.testBit l = true → Top P a w 255 S l (ty8 st.2.2 S l) ∧ RowY st.2.2 S l) ∧ BI P st.2.2 fl e S (i + 1) b0 b) (fun r => ∃ b, r.1 = enc b ∧ (∀ r' j, r' ≠ 8 → r.2.1 r' j = K.1 r' j) ∧ r.2.2 = K.2 ∧ (∀ S' l, S' ≠ S → l < 8 → r.2.1 8 (8 * S' + l) = K.1 8 (8 * S' + l)) ∧ (∀ l, l < 8 → S.testBit l = true → Top P a w 255 S l (ty8 r.2 S l) ∧ RowY r.2 S l) ∧ BI P r.2 fl e S 8 b0 b)) := by
          intro hbi
          unfold fpX6_bestFrom_b152_56 fpX6_bestFrom_b153_56
          exact okT neg1 (okL (okS ⟨him, J_succ i, b, rfl, fun r j hr => (A1 r j hr).trans (x1 r j hr), A2, A3, A5, hbi⟩))
        by_cases hf : fl
        · refine okF (fun z => (hfl.1 z) hf) ?_
          cases hvx : v with
          | none =>
            refine okT neg1 (keep (fin b (fun c hc => Or.inl hc) (fun c hc => ⟨c, hc, Nat.le_refl _⟩) (fun _ x hx => by rw [hvx] at hx; cases hx)))
          | some x =>
            have x9 := v9 x hvx
            by_cases c4 : enc (some x) ≤ enc b
            · obtain ⟨c, d1, d2⟩ := (enc_le (o := b) (y := x) (fun z e => by have := y4 z e; omega) (by omega)).1 c4
              refine okT c4 (keep (fin b (fun c hc => Or.inl hc) (fun c hc => ⟨c, hc, Nat.le_refl _⟩) (fun _ x' hx' => ?_)))
              rw [hvx] at hx'
              cases hx'
              exact ⟨c, d1, Nat.le_trans (show cr P x _ _ ≤ x by unfold cr; omega) d2⟩
            · refine okF c4 (okE (itM_e hAP hm) ?_)
              have el : fpX6_left (enc (some x)) (J (pml P i : Nat)) (J (e : Nat)) A = some (J (cr P x (pml P i) e : Nat)) := left_e hAP (by omega) (Nat.lt_trans (h.2.2.2.2.2.2.2.1 i hm).1 (by decide)) (by omega)
              refine okE el ?_
              have hcx : cr P x (pml P i) e ≤ x := by unfold cr; omega
              unfold fpX6_bestFrom_b153_56
              by_cases c5 : J (cr P x (pml P i) e : Nat) ≤ enc b
              · obtain ⟨c, d1, d2⟩ := (enc_le (o := b) (fun z e => by have := y4 z e; omega) (by omega)).1 c5
                refine okT c5 (okL (okS ⟨him, J_succ i, b, rfl, fun r j hr => (A1 r j hr).trans (x1 r j hr), A2, A3, A5, fin b (fun c hc => Or.inl hc) (fun c hc => ⟨c, hc, Nat.le_refl _⟩) (fun _ x' hx' => ?_)⟩))
                rw [hvx] at hx'
                cases hx'
                exact ⟨c, d1, d2⟩
              · refine okF c5 (okL (okS ⟨him, J_succ i, some (cr P x (pml P i) e), rfl, fun r j hr => (A1 r j hr).trans (x1 r j hr), A2, A3, A5, fin _ (fun c hc => Or.inr ⟨hf, x, hvx, by cases hc; rfl⟩) (fun c hc => ?_) (fun _ x' hx' => ?_)⟩))
                · refine ⟨_, rfl, Nat.le_of_lt (Nat.lt_of_not_le (fun z => c5 ((enc_le (o := b) (fun z e => by have := y4 z e; omega) (by omega)).2 ⟨c, hc, z⟩)))⟩
                · rw [hvx] at hx'
                  cases hx'
                  exact ⟨_, rfl, Nat.le_refl _⟩
        · refine okT (hfl.2 hf) (keep (fin b (fun c hc => Or.inl hc) (fun c hc => ⟨c, hc, Nat.le_refl _⟩) (fun z => absurd z hf)))
      · rw [if_neg hb]
        refine okT rfl (okL (okS ⟨him, J_succ i, b, rfl, x1, x1', x2, fun l hl hbl => ?_, fun c hc => ?_, y2, fun hf l x hl hbl hx => ?_, y4⟩))
        · rcases Nat.lt_or_eq_of_le (Nat.le_of_lt_succ hl) with z | z
          · exact x3 l z hbl
          · subst z
            exact absurd hbl hb
        · rcases y1 c hc with q | ⟨q1, l, x, q2, q3, q4, q5⟩
          · exact Or.inl q
          · exact Or.inr ⟨q1, l, x, by omega, q3, q4, q5⟩
        · rcases Nat.lt_or_eq_of_le (Nat.le_of_lt_succ hl) with z | z
          · exact y3 hf l x z hbl hx
          · subst z
            exact absurd hbl hb
    · subst him
      exact okT (by decide) (okS ⟨b, rfl, x1, x1', x2, x3, y1, y2, y3, y4⟩))
  have f0 : rb = enc b := f0
  subst f0
  refine ⟨N, b, er, f1, f2, fun S' l s0 s1 s2 s3 => ?_, f5, f3⟩
  rcases Nat.lt_or_eq_of_le (Nat.le_of_lt_succ s1) with z | z
  · have es := f3 S' l (by omega) (bit_lt (by omega) s3)
    obtain ⟨z1, z2⟩ := hT S' l s0 z s2 s3
    have es : N.1 8 (8 * S' + l) = K.1 8 (8 * S' + l) := es
    exact ⟨by rw [ty_same es]; exact z1, z2.same es⟩
  · subst z
    exact f4 l (bit_lt hS s3) s3
