/-! The model's best: the outer loop -/
def BO (P : Pr) (X : Me) (C : Nat → Prop) (a w e may N : Nat) (b : Option Nat) : Prop := (∀ c, b = some c → (C 0 ∧ c = cr P w a e) ∨ ∃ S l x, 0 < S ∧ S < N ∧ sb S may ∧ C (pc S) ∧ S.testBit l = true ∧ ty8 X S l = some x ∧ c = cr P x (pml P l) e) ∧ (C 0 → ∃ c, b = some c ∧ cr P w a e ≤ c) ∧ (∀ S l x, 0 < S → S < N → sb S may → C (pc S) → S.testBit l = true → ty8 X S l = some x → ∃ c, b = some c ∧ cr P x (pml P l) e ≤ c) ∧ ∀ c, b = some c → c < 1000
theorem best_e {M : Me} {m a w may e : Nat} {cnt : Int32} {C : Nat → Prop} {P : Pr} (h : PY M m P) (ha : a < 1000) (hw : w < 1000) (he : e < 1000) (hmay : may < 256) (hma : ∀ q, may.testBit q = true → q < m) (hc0 : (1 : Int32) ≤ cnt ↔ ¬ C 0) (hcn : ∀ S, S < 256 → ((cnt < 0 ∨ J (pc S : Nat) = cnt) ↔ C (pc S))) : ∃ N o, fpX6_bestFrom (J (a : Nat)) (J (w : Nat)) (J (may : Nat)) cnt (J (e : Nat)) M = some (enc o, N) ∧ (∀ r j, r ≠ 8 → N.1 r j = M.1 r j) ∧ N.2 = M.2 ∧ Bst P e a w may C o ∧ ∀ x, o = some x → x < 1000 := by
  have main : ∀ b0 : Option Nat, BO P M C a w e may 1 b0 → ∃ N o, fpX6_bestFrom_b18 (J (a : Nat)) (J (w : Nat)) (J (may : Nat)) cnt (J (e : Nat)) (enc b0) M = some (enc o, N) ∧ (∀ r j, r ≠ 8 → N.1 r j = M.1 r j) ∧ N.2 = M.2 ∧ Bst P e a w may C o ∧ ∀ x, o = some x → x < 1000 := by
    intro b0 hb0
    obtain ⟨⟨rb, N⟩, er, b, f0, f1, f2, f3, f4⟩ := lp_ok (step := fpX6_bestFrom_l23 (J (a : Nat)) (J (w : Nat)) (J (may : Nat)) cnt (J (e : Nat))) (Q := fun r => ∃ b, r.1 = enc b ∧ (∀ r' j, r' ≠ 8 → r.2.1 r' j = M.1 r' j) ∧ r.2.2 = M.2 ∧ TabY r.2 P a w may 256 ∧ BO P r.2 C a w e may 256 b) (fun i st => i ≤ 255 ∧ st.2.1 = J ((1 + i : Nat) : Int) ∧ ∃ b, st.1 = enc b ∧ (∀ r' j, r' ≠ 8 → st.2.2.1 r' j = M.1 r' j) ∧ st.2.2.2 = M.2 ∧ TabY st.2.2 P a w may (1 + i) ∧ BO P st.2.2 C a w e may (1 + i) b) 255 (by omega) (s := (enc b0, (1 : Int32), M)) ⟨by omega, rfl, b0, rfl, fun _ _ _ => rfl, rfl, fun S l a1 a2 => by omega, hb0⟩ (by
      intro i st hi hst
      obtain ⟨ba, ia, X⟩ := st
      obtain ⟨i5, s1, b, s2, x1, x1', x2, y1, y2, y3, y4⟩ := hst
      have s1 : ia = J ((1 + i : Nat) : Int) := s1
      have s2 : ba = enc b := s2
      have x1 : ∀ r' j, r' ≠ 8 → X.1 r' j = M.1 r' j := x1
      have x1' : X.2 = M.2 := x1'
      have x2 : TabY X P a w may (1 + i) := x2
      have y1 : ∀ c, b = some c → (C 0 ∧ c = cr P w a e) ∨ ∃ S l x, 0 < S ∧ S < 1 + i ∧ sb S may ∧ C (pc S) ∧ S.testBit l = true ∧ ty8 X S l = some x ∧ c = cr P x (pml P l) e := y1
      have y3 : ∀ S l x, 0 < S → S < 1 + i → sb S may → C (pc S) → S.testBit l = true → ty8 X S l = some x → ∃ c, b = some c ∧ cr P x (pml P l) e ≤ c := y3
      subst s1
      subst s2
      have hX : PY X m P := h.same (fun r j hr => x1 r j hr)
      show ok (fpX6_bestFrom_l23s (J (a : Nat)) (J (w : Nat)) (J (may : Nat)) cnt (J (e : Nat)) (enc b) (J ((1 + i : Nat) : Int)) X) _
      unfold fpX6_bestFrom_l23s
      rcases Nat.lt_or_eq_of_le hi with him | him
      · refine okF (fun z => by have := (leN (a := 256) (by omega) (by omega)).1 z; omega) ?_
        have fin : ∀ a8 : Int32, (a8 = 0 ↔ ¬ C (pc (1 + i))) → ok (fpX6_bestFrom_b51_23 (J (a : Nat)) (J (w : Nat)) (J (may : Nat)) cnt (J (e : Nat)) (enc b) (J ((1 + i : Nat) : Int)) a8 X) (Sum.elim (fun st => i < 255 ∧ i + 1 ≤ 255 ∧ st.2.1 = J ((1 + (i + 1) : Nat) : Int) ∧ ∃ b, st.1 = enc b ∧ (∀ r' j, r' ≠ 8 → st.2.2.1 r' j = M.1 r' j) ∧ st.2.2.2 = M.2 ∧ TabY st.2.2 P a w may (1 + (i + 1)) ∧ BO P st.2.2 C a w e may (1 + (i + 1)) b) (fun r => ∃ b, r.1 = enc b ∧ (∀ r' j, r' ≠ 8 → r.2.1 r' j = M.1 r' j) ∧ r.2.2 = M.2 ∧ TabY r.2 P a w may 256 ∧ BO P r.2 C a w e may 256 b)) := by
          intro a8 h8
          unfold fpX6_bestFrom_b51_23
          by_cases hsb : sb (1 + i) may
          · obtain ⟨N, b', e1, g1, g2, g3, ⟨g4, g5, g6, g7⟩, g8⟩ := bfi_e (a4 := cnt) hX ha hw he hmay hma h8 (fun c hc => y4 c hc) (by omega) (by omega) hsb x2
            refine okE e1 (okL (okS ⟨him, by omega, J_succ _, b', rfl, fun r j hr => (g1 r j hr).trans (x1 r j hr), g2.trans x1', g3, fun c hc => ?_, fun z => ?_, fun S l x a1 a2 a3 a4 a5 a6 => ?_, g7⟩))
            · rcases g4 c hc with z | ⟨z1, l, x, z2, z3, z4, z5⟩
              · rcases y1 c z with q | ⟨S, l, x, q1, q2, q3, q4, q5, q6, q7⟩
                · exact Or.inl q
                · refine Or.inr ⟨S, l, x, q1, by omega, q3, q4, q5, ?_, q7⟩
                  show ty8 N S l = some x
                  rw [ty_same (g8 S l (by omega) (bit_lt (by omega) q5))]; exact q6
              · exact Or.inr ⟨1 + i, l, x, by omega, by omega, hsb, z1, z3, z4, z5⟩
            · obtain ⟨c, d1, d2⟩ := y2 z
              obtain ⟨c', d3, d4⟩ := g5 c d1
              exact ⟨c', d3, Nat.le_trans d2 d4⟩
            · rcases Nat.lt_or_eq_of_le (Nat.le_of_lt_succ (show S < (1 + i) + 1 by omega)) with z | z
              · have a6 : ty8 N S l = some x := a6
                rw [ty_same (g8 S l (by omega) (bit_lt (by omega) a5))] at a6
                obtain ⟨c, d1, d2⟩ := y3 S l x a1 z a3 a4 a5 a6
                obtain ⟨c', d3, d4⟩ := g5 c d1
                exact ⟨c', d3, Nat.le_trans d2 d4⟩
              · subst z
                exact g6 a4 l x (bit_lt (by omega) a5) a5 a6
          · have e1 : lp (fpX6_bestFrom_l56 (J (a : Nat)) (J (w : Nat)) (J (may : Nat)) cnt (J (e : Nat)) (J ((1 + i : Nat) : Int)) a8) FU (enc b, (0 : Int32), X) = some (enc b, X) := by
              refine lp_tr (fun _ => (enc b, (0 : Int32), X)) 0 (by decide) (fun j hj => absurd hj (Nat.not_lt_zero _)) ?_
              show fpX6_bestFrom_l56s _ _ _ _ _ _ _ (enc b) (0 : Int32) X = _
              unfold fpX6_bestFrom_l56s
              rw [if_neg (by decide), if_neg (fun z => hsb ((sub_d (by omega) hmay).1 z))]
            refine okE e1 (okL (okS ⟨him, by omega, J_succ _, b, rfl, x1, x1', fun S l a1 a2 a3 a4 => ?_, fun c hc => ?_, y2, fun S l x a1 a2 a3 a4 a5 a6 => ?_, y4⟩))
            · rcases Nat.lt_or_eq_of_le (Nat.le_of_lt_succ (show S < (1 + i) + 1 by omega)) with z | z
              · exact x2 S l a1 z a3 a4
              · subst z
                exact absurd a3 hsb
            · rcases y1 c hc with q | ⟨S, l, x, q1, q2, q3⟩
              · exact Or.inl q
              · exact Or.inr ⟨S, l, x, q1, by omega, q3⟩
            · rcases Nat.lt_or_eq_of_le (Nat.le_of_lt_succ (show S < (1 + i) + 1 by omega)) with z | z
              · exact y3 S l x a1 z a3 a4 a5 a6
              · subst z
                exact absurd a3 hsb
        have hcs := hcn (1 + i) (by omega)
        by_cases cl : cnt < 0
        · refine okT cl ?_
          unfold fpX6_bestFrom_b46_23
          exact fin 1 ⟨fun z => absurd z (by decide), fun z => absurd (hcs.1 (Or.inl cl)) z⟩
        · refine okF cl (okE (ones_d (1 + i) (by omega)) ?_)
          by_cases ce : J (pc (1 + i) : Nat) = cnt
          · refine okT ce ?_
            unfold fpX6_bestFrom_b46_23
            exact fin 1 ⟨fun z => absurd z (by decide), fun z => absurd (hcs.1 (Or.inr ce)) z⟩
          · refine okF ce ?_
            exact fin 0 ⟨fun _ z => (hcs.2 z).elim cl ce, fun _ => rfl⟩
      · subst him
        exact okT (by decide) (okS ⟨b, rfl, x1, x1', x2, y1, y2, y3, y4⟩))
    have f0 : rb = enc b := f0
    subst f0
    obtain ⟨y1, y2, y3, y4⟩ := f4
    refine ⟨N, b, ?_, f1, f2, ?_, y4⟩
    · unfold fpX6_bestFrom_b18
      rw [er]
      rfl
    · exact Bst.of (f := 255) (T := fun S l => ty8 N S l) hmay (fun q hq => b255 q (bit_lt hmay hq)) (fun S l t0 t1 t2 t3 => (f3 S l t0 t1 t2 t3).1) y1 y2 y3
  unfold fpX6_bestFrom
  by_cases c1 : (1 : Int32) ≤ cnt
  · rw [if_pos c1]
    exact main none ⟨fun c hc => (by cases hc), fun z => absurd z (hc0.1 c1), fun S l x a1 a2 => by omega, fun c hc => (by cases hc)⟩
  · rw [if_neg c1, left_e h (by omega) (by omega) (by omega), Option.bind_some]
    have hC : C 0 := Classical.byContradiction (fun z => c1 (hc0.2 z))
    have hcr : cr P w a e ≤ w := by unfold cr; omega
    exact main (some (cr P w a e)) ⟨fun c hc => Or.inl ⟨hC, by cases hc; rfl⟩, fun _ => ⟨_, rfl, Nat.le_refl _⟩, fun S l x a1 a2 => by omega, fun c hc => by cases hc; omega⟩
