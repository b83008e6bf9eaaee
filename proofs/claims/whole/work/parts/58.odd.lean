/-! odds, mean -/
/-- parts, place and water behind so many pumps of a plan, some of them failing -/
def wst (P : Pr) (fl : Nat → Int32) (s w S : Nat) (pl : Nat → Nat) : Nat → Int64 × Nat × Nat
  | 0 => (1, s, w)
  | i + 1 => match rn P (pl i) (cr P (wst P fl s w S pl i).2.2 (wst P fl s w S pl i).2.1 (pml P (pl i))) with
    | none => ((wst P fl s w S pl i).1 * (if S.testBit i then 0 else 12), pml P (pl i), cr P (wst P fl s w S pl i).2.2 (wst P fl s w S pl i).2.1 (pml P (pl i)))
    | some q => if S.testBit i then ((wst P fl s w S pl i).1 * (fl (pl i)).toInt64, pml P (pl i), cr P (wst P fl s w S pl i).2.2 (wst P fl s w S pl i).2.1 (pml P (pl i)) - pnd P (pl i)) else ((wst P fl s w S pl i).1 * ((12 : Int32) - fl (pl i)).toInt64, pml P (pl i), q)
theorem wst_n {P : Pr} {fl : Nat → Int32} {s w S i : Nat} {pl : Nat → Nat} (h : rn P (pl i) (cr P (wst P fl s w S pl i).2.2 (wst P fl s w S pl i).2.1 (pml P (pl i))) = none) : wst P fl s w S pl (i + 1) = ((wst P fl s w S pl i).1 * (if S.testBit i then 0 else 12), pml P (pl i), cr P (wst P fl s w S pl i).2.2 (wst P fl s w S pl i).2.1 (pml P (pl i))) := by
  rw [wst]
  rw [h]
theorem wst_q {P : Pr} {fl : Nat → Int32} {s w S i q : Nat} {pl : Nat → Nat} (h : rn P (pl i) (cr P (wst P fl s w S pl i).2.2 (wst P fl s w S pl i).2.1 (pml P (pl i))) = some q) : wst P fl s w S pl (i + 1) = if S.testBit i then ((wst P fl s w S pl i).1 * (fl (pl i)).toInt64, pml P (pl i), cr P (wst P fl s w S pl i).2.2 (wst P fl s w S pl i).2.1 (pml P (pl i)) - pnd P (pl i)) else ((wst P fl s w S pl i).1 * ((12 : Int32) - fl (pl i)).toInt64, pml P (pl i), q) := by
  rw [wst]
  rw [h]
theorem wst_lt {P : Pr} {fl : Nat → Int32} {s w S : Nat} {pl : Nat → Nat} (hw : w < 1000) (hr : prom P < 1000) : ∀ i, (wst P fl s w S pl i).2.2 < 1000
  | 0 => hw
  | i + 1 => by
    have ih := wst_lt (fl := fl) (s := s) (S := S) (pl := pl) hw hr i
    have hc : cr P (wst P fl s w S pl i).2.2 (wst P fl s w S pl i).2.1 (pml P (pl i)) ≤ (wst P fl s w S pl i).2.2 := by unfold cr; omega
    cases h : rn P (pl i) (cr P (wst P fl s w S pl i).2.2 (wst P fl s w S pl i).2.1 (pml P (pl i))) with
    | none =>
      rw [wst_n h]
      show cr P (wst P fl s w S pl i).2.2 (wst P fl s w S pl i).2.1 (pml P (pl i)) < 1000
      omega
    | some q =>
      have := rn_le h
      rw [wst_q h]
      by_cases c : S.testBit i = true
      · rw [if_pos c]
        show cr P (wst P fl s w S pl i).2.2 (wst P fl s w S pl i).2.1 (pml P (pl i)) - pnd P (pl i) < 1000
        omega
      · rw [if_neg c]
        show q < 1000
        omega
theorem wst_1 {P : Pr} {fl : Nat → Int32} {s w S i : Nat} {pl : Nat → Nat} : (wst P fl s w S pl (i + 1)).2.1 = pml P (pl i) := by
  cases h : rn P (pl i) (cr P (wst P fl s w S pl i).2.2 (wst P fl s w S pl i).2.1 (pml P (pl i))) with
  | none => rw [wst_n h]
  | some q =>
    rw [wst_q h]
    by_cases c : S.testBit i = true
    · rw [if_pos c]
    · rw [if_neg c]
def wbr (P : Pr) (fl : Nat → Int32) (s w S : Nat) (pl : Nat → Nat) (n : Nat) : Nat := cr P (wst P fl s w S pl n).2.2 (wst P fl s w S pl n).2.1 0
theorem wbr_lt {P : Pr} {fl : Nat → Int32} {s w S n : Nat} {pl : Nat → Nat} (hw : w < 1000) (hr : prom P < 1000) : wbr P fl s w S pl n < 1000 := by
  have := wst_lt (fl := fl) (s := s) (S := S) (pl := pl) hw hr n
  unfold wbr cr
  omega
theorem wei_e {X : Me} {m s n w S : Nat} {pl : Nat → Nat} {fl : Nat → Int32} {v : Int32} {P : Pr} (h : PX X m s P) (hn : n ≤ 8) (h1 : X.1 46 1 = J (n : Nat)) (hp : ∀ i, i < n → pl i < m ∧ X.1 47 i = J (pl i : Nat)) (hf : ∀ p, p < m → X.1 52 p = fl p) (hw : w < 1000) (hS : S < 256) : fpX0_weighed (J (S : Nat)) (J (w : Nat)) v X = some (if v = (-1 : Int32) then (wst P fl s w S pl n).1 * (J (wbr P fl s w S pl n : Nat)).toInt64 else if J (wbr P fl s w S pl n : Nat) < v then 0 else (wst P fl s w S pl n).1) := by
  have m8 := h.1
  have rm := h.2.2.2.2.1
  have hb := wst_lt (fl := fl) (s := s) (S := S) (pl := pl) hw rm
  obtain ⟨r, e, x, rfl, q2, q3⟩ := lp_ok (step := fpX0_weighed_l13 (J (S : Nat)) v X) (Q := fun r => ∃ x : Nat, r = ((wst P fl s w S pl n).1, J (x : Nat), J ((wst P fl s w S pl n).2.2 : Nat)) ∧ okp m x ∧ plc P s x = (wst P fl s w S pl n).2.1) (fun i st => ∃ x : Nat, st = ((wst P fl s w S pl i).1, J (x : Nat), J ((wst P fl s w S pl i).2.2 : Nat), J (i : Nat)) ∧ okp m x ∧ plc P s x = (wst P fl s w S pl i).2.1) n (by omega) (s := ((1 : Int64), (8 : Int32), J (w : Nat), (0 : Int32))) ⟨8, rfl, Or.inr (Or.inl rfl), rfl⟩ (by
    intro i st hi hst
    obtain ⟨x, rfl, x1, x2⟩ := hst
    show ok (fpX0_weighed_l13s (J (S : Nat)) v (wst P fl s w S pl i).1 (J (x : Nat)) (J ((wst P fl s w S pl i).2.2 : Nat)) (J (i : Nat)) X) _
    unfold fpX0_weighed_l13s
    rw [h1]
    rcases Nat.lt_or_eq_of_le hi with hin | hin
    · have i8 : i < 8 := by omega
      obtain ⟨p1, p2⟩ := hp i hin
      have hbi := hb i
      refine okF (fun z => by have := (leN (by omega) (by omega)).1 z; omega) (okE (inbJ i8 (by decide)) (okL ?_))
      rw [p2]
      have ec := car_e (x := x) (y := pl i) (w := (wst P fl s w S pl i).2.2) h x1 (Or.inl p1) (by omega)
      rw [plc_p (x := pl i) (by omega), x2] at ec
      have hcr : cr P (wst P fl s w S pl i).2.2 (wst P fl s w S pl i).2.1 (pml P (pl i)) ≤ (wst P fl s w S pl i).2.2 := by unfold cr; omega
      have er : fpX0_ran (J (pl i : Nat)) (J (cr P (wst P fl s w S pl i).2.2 (wst P fl s w S pl i).2.1 (pml P (pl i)) : Nat)) X = some (enc (rn P (pl i) (cr P (wst P fl s w S pl i).2.2 (wst P fl s w S pl i).2.1 (pml P (pl i))))) := ran_e (o := some (cr P (wst P fl s w S pl i).2.2 (wst P fl s w S pl i).2.1 (pml P (pl i)))) h p1 (fun z hz => by cases hz; omega)
      refine okE ec (okE er ?_)
      have pl1 : plc P s (pl i) = (wst P fl s w S pl (i + 1)).2.1 := by rw [wst_1, plc_p (by omega)]
      cases hr : rn P (pl i) (cr P (wst P fl s w S pl i).2.2 (wst P fl s w S pl i).2.1 (pml P (pl i))) with
      | none =>
        refine okT rfl ?_
        unfold fpX0_weighed_b74_13 fpX0_weighed_b99_13
        rw [isIn_d S hS i i8]
        have ew := wst_n hr
        by_cases c : S.testBit i = true
        · rw [if_pos c] at ew ⊢
          refine okF (by decide) (okL (okT rfl (okL (okS ⟨hin, pl i, ?_, Or.inl p1, pl1⟩))))
          rw [ew, J_succ]
          rfl
        · rw [if_neg c] at ew ⊢
          refine okT rfl (okL (okT rfl (okL (okS ⟨hin, pl i, ?_, Or.inl p1, pl1⟩))))
          rw [ew, J_succ]
          rfl
      | some q =>
        have := rn_le hr
        refine okF (enc_ne (by omega)) (okE (inbJ (show pl i < 8 by omega) (by decide)) ?_)
        unfold fpX0_weighed_b74_13 fpX0_weighed_b99_13
        rw [isIn_d S hS i i8, hf _ p1]
        have ew := wst_q hr
        by_cases c : S.testBit i = true
        · rw [if_pos c] at ew ⊢
          obtain ⟨n1, n2, y1, y2⟩ := h.2.2.2.2.2.2.1 (pl i) p1
          obtain ⟨-, z2, -⟩ := rn_some hr
          refine okF (by decide) (okL (okF (enc_ne (by omega)) (okF (by decide) (okE (inbJ (show pl i < 8 by omega) (by decide)) (okL (okL ?_))))))
          rw [n2, subN z2]
          refine okS ⟨hin, pl i, ?_, Or.inl p1, pl1⟩
          rw [ew, J_succ]
        · rw [if_neg c] at ew ⊢
          refine okT rfl (okL (okF (enc_ne (by omega)) (okT rfl (okL (okS ⟨hin, pl i, ?_, Or.inl p1, pl1⟩)))))
          rw [ew, J_succ]
          rfl
    · subst hin
      exact okT ((leN (by omega) (by omega)).2 (Nat.le_refl _)) (okS ⟨x, rfl, x1, x2⟩))
  have ec := car_e (x := x) (y := 9) (w := (wst P fl s w S pl n).2.2) h q2 (Or.inr (Or.inr rfl)) (by have := hb n; omega)
  rw [q3] at ec
  have ec : fpX0_carried (J ((wst P fl s w S pl n).2.2 : Nat)) (J (x : Nat)) (9 : Int32) X = some (J (wbr P fl s w S pl n : Nat)) := ec
  unfold fpX0_weighed
  have e : lp (fpX0_weighed_l13 (J (S : Nat)) v X) FU ((1 : Int64), (8 : Int32), J (w : Nat), (0 : Int32)) = some ((wst P fl s w S pl n).1, J (x : Nat), J ((wst P fl s w S pl n).2.2 : Nat)) := e
  rw [e, Option.bind_some]
  dsimp only
  rw [ec, Option.bind_some]
  by_cases c1 : v = (-1 : Int32)
  · rw [if_pos c1, if_pos c1]
  · rw [if_neg c1, if_neg c1]
    by_cases c2 : J (wbr P fl s w S pl n : Nat) < v
    · rw [if_pos c2, if_pos c2]
    · rw [if_neg c2, if_neg c2]
theorem PY.l {N : Me} {m : Nat} {v : Int64} {P : Pr} (h : PY N m P) : PY (N.1, v) m P := h
theorem bif_e {N : Me} {m s n w S : Nat} {pl : Nat → Nat} {fl : Nat → Int32} {P : Pr} (h : PY N m P) (h7 : N.1 1 7 = J (s : Nat)) (s9 : s < 1000) (hn : n ≤ 8) (h1 : N.1 0 12 = J (n : Nat)) (hp : ∀ i, i < n → pl i < m ∧ N.1 10 i = J (pl i : Nat)) (hf : ∀ p, p < m → N.1 1 (12 + 6 * p + 3) = fl p) (hw : w < 1000) (hS : S < 256) : fpX6_bringsIf (J (w : Nat)) (J (S : Nat)) N = some (J (wbr P fl s w S pl n : Nat), (N.1, (wst P fl s w S pl n).1)) := by
  have m8 := h.1
  have rm := h.2.2.2.2.1
  have hb := wst_lt (fl := fl) (s := s) (S := S) (pl := pl) hw rm
  have ml : ∀ p, p < m → pml P p < 100 := fun p hp => (h.2.2.2.2.2.2.2.1 p hp).1
  have hb1 : ∀ i, i ≤ n → (wst P fl s w S pl i).2.1 < 1000 := fun i hi => by
    cases i with
    | zero => exact s9
    | succ j =>
      rw [wst_1]
      have := ml _ (hp j (by omega)).1
      omega
  obtain ⟨r, e, rfl⟩ := lp_ok (step := fpX6_bringsIf_l19 (J (S : Nat))) (Q := fun r => r = (J ((wst P fl s w S pl n).2.1 : Nat), J ((wst P fl s w S pl n).2.2 : Nat), ((N.1, (wst P fl s w S pl n).1) : Me))) (fun i st => st = (J ((wst P fl s w S pl i).2.1 : Nat), J ((wst P fl s w S pl i).2.2 : Nat), J (i : Nat), ((N.1, (wst P fl s w S pl i).1) : Me))) n (by omega) (s := (J (s : Nat), J (w : Nat), (0 : Int32), ((N.1, (1 : Int64)) : Me))) rfl (by
    intro i st hi hst
    subst hst
    generalize hZ : ((N.1, (wst P fl s w S pl i).1) : Me) = Z
    have Z1 : Z.1 = N.1 := by rw [← hZ]
    have Z2 : Z.2 = (wst P fl s w S pl i).1 := by rw [← hZ]
    have hZP : PY Z m P := by rw [← hZ]; exact h.l
    show ok (fpX6_bringsIf_l19s (J (S : Nat)) (J ((wst P fl s w S pl i).2.1 : Nat)) (J ((wst P fl s w S pl i).2.2 : Nat)) (J (i : Nat)) Z) _
    unfold fpX6_bringsIf_l19s
    rw [show Z.1 0 12 = J (n : Nat) by rw [Z1]; exact h1]
    rcases Nat.lt_or_eq_of_le hi with hin | hin
    · have i8 : i < 8 := by omega
      obtain ⟨p1, p2⟩ := hp i hin
      have hbi := hb i
      have hbi1 := hb1 i hi
      refine okF (fun z => by have := (leN (by omega) (by omega)).1 z; omega) (okE (inbJ i8 (by decide)) (okL ?_))
      rw [show Z.1 10 i = J (pl i : Nat) by rw [Z1]; exact p2]
      have el := left_e (w := (wst P fl s w S pl i).2.2) (a := (wst P fl s w S pl i).2.1) (b := pml P (pl i)) hZP (by omega) (by omega) (by have := ml _ p1; omega)
      have hcr : cr P (wst P fl s w S pl i).2.2 (wst P fl s w S pl i).2.1 (pml P (pl i)) ≤ (wst P fl s w S pl i).2.2 := by unfold cr; omega
      have er : fpX6_ran (J (cr P (wst P fl s w S pl i).2.2 (wst P fl s w S pl i).2.1 (pml P (pl i)) : Nat)) (J (pl i : Nat)) Z = some (enc (rn P (pl i) (cr P (wst P fl s w S pl i).2.2 (wst P fl s w S pl i).2.1 (pml P (pl i))))) := ranY_e (o := some (cr P (wst P fl s w S pl i).2.2 (wst P fl s w S pl i).2.1 (pml P (pl i)))) hZP p1 (fun z hz => by cases hz; omega)
      have ef : fpX6_its (J (pl i : Nat)) (3 : Int32) Z = some (fl (pl i)) := (itsE (w := 3) (show pl i < 8 by omega) (by decide)).trans (by rw [Z1, hf _ p1])
      refine okE (itM_e hZP p1) (okE el (okE (itM_e hZP p1) (okE er (okE ef ?_))))
      rw [has_d S hS i i8]
      have mL : ∀ v : Int64, wrL Z v = (N.1, v) := fun v => by unfold wrL; rw [Z1]
      cases hr : rn P (pl i) (cr P (wst P fl s w S pl i).2.2 (wst P fl s w S pl i).2.1 (pml P (pl i))) with
      | none =>
        have ew := wst_n hr
        refine okF (show ¬ (0 : Int32) ≤ (-1 : Int32) by decide) ?_
        unfold fpX6_bringsIf_b106_19
        rw [Z2]
        by_cases c : S.testBit i = true
        · rw [if_pos c] at ew ⊢
          refine okF (by decide) (okL (okL ?_))
          rw [mL]
          refine okS ⟨hin, ?_⟩
          rw [ew, J_succ]
        · rw [if_neg c] at ew ⊢
          refine okT rfl (okL (okL ?_))
          rw [mL]
          refine okS ⟨hin, ?_⟩
          rw [ew, J_succ]
      | some q =>
        have := rn_le hr
        have ew := wst_q hr
        refine okT (nn0 (by omega)) ?_
        rw [Z2]
        by_cases c : S.testBit i = true
        · rw [if_pos c] at ew ⊢
          obtain ⟨n1, n2, y1, y2⟩ := hZP.2.2.2.2.2.2.1 (pl i) p1
          obtain ⟨-, z2, -⟩ := rn_some hr
          refine okF (by decide) (okL (okE (inbJ (show pl i < 8 by omega) (by decide)) (okL (okL ?_))))
          rw [mL, show ((N.1, (wst P fl s w S pl i).1 * (fl (pl i)).toInt64) : Me).1 6 (pl i) = J (pnd P (pl i) : Nat) by rw [← Z1]; exact n2, subN z2]
          refine okS ⟨hin, ?_⟩
          rw [ew, J_succ]
        · rw [if_neg c] at ew ⊢
          refine okT rfl (okL (okL ?_))
          rw [mL]
          refine okS ⟨hin, ?_⟩
          rw [ew, J_succ]
          rfl
    · subst hin
      subst hZ
      exact okT ((leN (by omega) (by omega)).2 (Nat.le_refl _)) (okS rfl))
  unfold fpX6_bringsIf letv
  dsimp only
  have e : lp (fpX6_bringsIf_l19 (J (S : Nat))) FU (J (s : Nat), J (w : Nat), (0 : Int32), wrL N 1) = some (J ((wst P fl s w S pl n).2.1 : Nat), J ((wst P fl s w S pl n).2.2 : Nat), ((N.1, (wst P fl s w S pl n).1) : Me)) := e
  rw [h7, e, Option.bind_some]
  have el := left_e (M := ((N.1, (wst P fl s w S pl n).1) : Me)) (w := (wst P fl s w S pl n).2.2) (a := (wst P fl s w S pl n).2.1) (b := 0) h.l (by have := hb n; omega) (by have := hb1 n (Nat.le_refl _); omega) (by decide)
  have el : fpX6_left (J ((wst P fl s w S pl n).2.2 : Nat)) (J ((wst P fl s w S pl n).2.1 : Nat)) (0 : Int32) ((N.1, (wst P fl s w S pl n).1) : Me) = some (J (wbr P fl s w S pl n : Nat)) := el
  dsimp only
  rw [el]
  rfl
theorem s26 : sim26 Rr := by
  intro n M1 M2 a b hn R
  show SM n _ _
  unfold fpX5_odds fpX6_odds
  have k2 := R.2.k2
  by_cases h : 0 ≤ a.toInt ∧ a.toInt ≤ (M2.1 1 2).toInt
  · refine .t1 ((nc0 R).2 h) (.f2 (fun z => iw0.1 z h) ?_)
    obtain ⟨w, rfl, hw'⟩ := ofI h.1
    have w9 : w < 1000 := by omega
    by_cases hb : 0 ≤ b.toInt ∧ b.toInt ≤ 999
    · refine .t1 (out0.2 hb) (.f2 (fun z => in0.1 z hb) ?_)
      obtain ⟨v, rfl, hv'⟩ := ofI hb.1
      have v9 : v < 1000 := by omega
      obtain ⟨A, X, N, k, t, pl, P, m, s, e1, e2, e3, RN, hX, hN, x1, y1, k8, t9, p1, s9, n7, fl, hbr⟩ := ordR R (by omega) w9
      have p8 := pow_le8 k8
      have RN' : ∀ l : Int64, Rr (n + 1) X ((N.1, l) : Me) := fun l => (RN.H (N2 := ((N.1, l) : Me)) (fun _ _ _ => rfl) RN.1.2.2.2.2.2.2 ⟨fun _ _ _ => rfl, fun _ _ _ => rfl⟩).mono (Nat.le_succ n)
      obtain ⟨r1, r2, l1, l2, q1, l, q2⟩ := lpp (s1 := fpX0_partsBringing_l5 (J (w : Nat)) (J (v : Nat)) X) (s2 := fpX6_odds_l40 (J (w : Nat)) (J (v : Nat))) (Q := fun r1 r2 => r1 = r2.1 ∧ ∃ l : Int64, r2.2 = ((N.1, l) : Me)) (fun i x y => ∃ (sm l : Int64), x = (sm, J (i : Nat)) ∧ y = (sm, J (i : Nat), ((N.1, l) : Me))) (2 ^ k) (by omega) (x := ((0 : Int64), (0 : Int32))) (y := ((0 : Int64), (0 : Int32), N)) ⟨0, N.2, rfl, rfl⟩ (by
        intro i x y hi hxy
        obtain ⟨sm, l, rfl, rfl⟩ := hxy
        show (∃ x' y', fpX0_partsBringing_l5s (J (w : Nat)) (J (v : Nat)) sm (J (i : Nat)) X = some (.inl x') ∧ fpX6_odds_l40s (J (w : Nat)) (J (v : Nat)) sm (J (i : Nat)) ((N.1, l) : Me) = some (.inl y') ∧ _) ∨ (∃ r1 r2, fpX0_partsBringing_l5s (J (w : Nat)) (J (v : Nat)) sm (J (i : Nat)) X = some (.inr r1) ∧ fpX6_odds_l40s (J (w : Nat)) (J (v : Nat)) sm (J (i : Nat)) ((N.1, l) : Me) = some (.inr r2) ∧ _)
        unfold fpX0_partsBringing_l5s fpX6_odds_l40s
        rw [x1, show ((N.1, l) : Me).1 0 12 = J (k : Nat) from y1, shl_d k (by omega)]
        rcases Nat.lt_or_eq_of_le hi with him | him
        · have cn : ¬ J (2 ^ k : Nat) ≤ J (i : Nat) := fun z => by have := (leN (by omega) (by omega)).1 z; omega
          rw [if_neg cn, if_neg cn]
          have ew := wei_e (S := i) (v := J (v : Nat)) (fl := fun p => N.1 1 (12 + 6 * p + 3)) (pl := pl) hX k8 x1 (fun j hj => ⟨(p1 j hj).1, (p1 j hj).2.1⟩) fl w9 (by omega)
          have eb := bif_e (N := ((N.1, l) : Me)) (S := i) (fl := fun p => N.1 1 (12 + 6 * p + 3)) (pl := pl) hN.l n7 s9 k8 y1 (fun j hj => ⟨(p1 j hj).1, (p1 j hj).2.2⟩) (fun _ _ => rfl) w9 (by omega)
          rw [ew, Option.bind_some, eb, Option.bind_some, if_neg (enc_ne (show v < 1000000 by omega))]
          unfold letv
          dsimp only
          rw [J_succ]
          by_cases c : J (wbr P (fun p => N.1 1 (12 + 6 * p + 3)) s w i pl k : Nat) < J (v : Nat)
          · rw [if_pos c, if_pos c]
            exact Or.inl ⟨_, _, rfl, rfl, him, _, _, rfl, rfl⟩
          · rw [if_neg c, if_neg c]
            exact Or.inl ⟨_, _, rfl, rfl, him, _, _, rfl, rfl⟩
        · have cn : J (2 ^ k : Nat) ≤ J (i : Nat) := (leN (by omega) (by omega)).2 (by omega)
          rw [if_pos cn, if_pos cn]
          exact Or.inr ⟨_, _, rfl, rfl, rfl, l, rfl⟩)
      have e5 : fpX0_partsBringing (J (w : Nat)) (J (v : Nat)) X = some r1 := by
        unfold fpX0_partsBringing
        rw [l1]
        rfl
      refine .b1 e1 (.b1 e2 (.b1 e5 (.b2 e3 (.b2 l2 (.e q1 ?_)))))
      rw [q2]
      exact RN' l
    · exact .f1 (fun z => hb (out0.1 z)) (.t2 (in0.2 hb) (.fiL R 0 (by decide) rfl rfl))
  · exact .f1 (fun z => h ((nc0 R).1 z)) (.t2 (iw0.2 h) (.fiL R 0 (by decide) rfl rfl))
theorem s27 : sim27 Rr := by
  intro n M1 M2 a hn R
  show SM n _ _
  unfold fpX5_mean fpX6_mean
  have k2 := R.2.k2
  by_cases h : 0 ≤ a.toInt ∧ a.toInt ≤ (M2.1 1 2).toInt
  · refine .t1 ((nc0 R).2 h) (.f2 (fun z => iw0.1 z h) ?_)
    obtain ⟨w, rfl, hw'⟩ := ofI h.1
    have w9 : w < 1000 := by omega
    obtain ⟨A, X, N, k, t, pl, P, m, s, e1, e2, e3, RN, hX, hN, x1, y1, k8, t9, p1, s9, n7, fl, hbr⟩ := ordR R (by omega) w9
    have p8 := pow_le8 k8
    have RN' : ∀ l : Int64, Rr (n + 1) X ((N.1, l) : Me) := fun l => (RN.H (N2 := ((N.1, l) : Me)) (fun _ _ _ => rfl) RN.1.2.2.2.2.2.2 ⟨fun _ _ _ => rfl, fun _ _ _ => rfl⟩).mono (Nat.le_succ n)
    obtain ⟨r1, r2, l1, l2, q1, l, q2⟩ := lpp (s1 := fpX0_partsBringing_l5 (J (w : Nat)) (-1 : Int32) X) (s2 := fpX6_mean_l27 (J (w : Nat))) (Q := fun r1 r2 => r1 = r2.1 ∧ ∃ l : Int64, r2.2 = ((N.1, l) : Me)) (fun i x y => ∃ (sm l : Int64), x = (sm, J (i : Nat)) ∧ y = (sm, J (i : Nat), ((N.1, l) : Me))) (2 ^ k) (by omega) (x := ((0 : Int64), (0 : Int32))) (y := ((0 : Int64), (0 : Int32), N)) ⟨0, N.2, rfl, rfl⟩ (by
      intro i x y hi hxy
      obtain ⟨sm, l, rfl, rfl⟩ := hxy
      show (∃ x' y', fpX0_partsBringing_l5s (J (w : Nat)) (-1 : Int32) sm (J (i : Nat)) X = some (.inl x') ∧ fpX6_mean_l27s (J (w : Nat)) sm (J (i : Nat)) ((N.1, l) : Me) = some (.inl y') ∧ _) ∨ (∃ r1 r2, fpX0_partsBringing_l5s (J (w : Nat)) (-1 : Int32) sm (J (i : Nat)) X = some (.inr r1) ∧ fpX6_mean_l27s (J (w : Nat)) sm (J (i : Nat)) ((N.1, l) : Me) = some (.inr r2) ∧ _)
      unfold fpX0_partsBringing_l5s fpX6_mean_l27s
      rw [x1, show ((N.1, l) : Me).1 0 12 = J (k : Nat) from y1, shl_d k (by omega)]
      rcases Nat.lt_or_eq_of_le hi with him | him
      · have cn : ¬ J (2 ^ k : Nat) ≤ J (i : Nat) := fun z => by have := (leN (by omega) (by omega)).1 z; omega
        rw [if_neg cn, if_neg cn]
        have ew := wei_e (S := i) (v := (-1 : Int32)) (fl := fun p => N.1 1 (12 + 6 * p + 3)) (pl := pl) hX k8 x1 (fun j hj => ⟨(p1 j hj).1, (p1 j hj).2.1⟩) fl w9 (by omega)
        have eb := bif_e (N := ((N.1, l) : Me)) (S := i) (fl := fun p => N.1 1 (12 + 6 * p + 3)) (pl := pl) hN.l n7 s9 k8 y1 (fun j hj => ⟨(p1 j hj).1, (p1 j hj).2.2⟩) (fun _ _ => rfl) w9 (by omega)
        rw [ew, Option.bind_some, eb, Option.bind_some, if_pos rfl]
        unfold letv
        dsimp only
        rw [J_succ]
        exact Or.inl ⟨_, _, rfl, rfl, him, _, _, rfl, rfl⟩
      · have cn : J (2 ^ k : Nat) ≤ J (i : Nat) := (leN (by omega) (by omega)).2 (by omega)
        rw [if_pos cn, if_pos cn]
        exact Or.inr ⟨_, _, rfl, rfl, rfl, l, rfl⟩)
    have e5 : fpX0_sumBrought (J (w : Nat)) X = some r1 := by
      unfold fpX0_sumBrought fpX0_partsBringing
      rw [l1]
      rfl
    refine .b1 e1 (.b1 e2 (.b1 e5 (.b2 e3 (.b2 l2 (.e q1 ?_)))))
    rw [q2]
    exact RN' l
  · exact .f1 (fun z => h ((nc0 R).1 z)) (.t2 (iw0.2 h) (.fiL R 0 (by decide) rfl rfl))
