/-! image, undo; sheet, write, copy, load -/
def vd (d j : Nat) : Prop := (d = 0 ∧ 2 ≤ j ∧ j < 14) ∨ (d = 2 ∧ j < 10) ∨ (3 ≤ d ∧ d < 11 ∧ j < 6)
theorem vd_rk : ∀ k, k < 70 → ((rk k).1 = 0 ∧ 2 ≤ (rk k).2 ∧ (rk k).2 < 14) ∨ ((rk k).1 = 2 ∧ (rk k).2 < 10) ∨ (3 ≤ (rk k).1 ∧ (rk k).1 < 11 ∧ (rk k).2 < 6) := by decide +kernel
noncomputable def tk (a b : Nat) (M : Me) : Me := (fun r j => @ite _ (a ≤ r ∧ vd (r - a) j) (Classical.propDecidable _) (M.1 (r - a + b) j) (M.1 r j), M.2)
theorem tk_in {a b d j : Nat} {M : Me} (h : vd d j) : (tk a b M).1 (a + d) j = M.1 (b + d) j := by
  unfold tk
  have e : a + d - a = d := by omega
  show @ite _ _ (Classical.propDecidable _) _ _ = _
  rw [if_pos ⟨by omega, by rw [e]; exact h⟩, e, Nat.add_comm]
theorem tk_out {a b r j : Nat} {M : Me} (h : ¬ (a ≤ r ∧ vd (r - a) j)) : (tk a b M).1 r j = M.1 r j := by
  unfold tk
  show @ite _ _ (Classical.propDecidable _) _ _ = _
  rw [if_neg h]
theorem tk_fr {a b r j : Nat} {M : Me} (h : r < a ∨ a + 11 ≤ r) : (tk a b M).1 r j = M.1 r j := by
  refine tk_out (fun z => ?_)
  obtain ⟨z1, z2⟩ := z
  unfold vd at z2
  omega
theorem tk_rk {a b k : Nat} {M : Me} (hk : k < 70) : (tk a b M).1 (a + (rk k).1) (rk k).2 = M.1 (b + (rk k).1) (rk k).2 := tk_in (vd_rk k hk)
def pt (a0 a1 : Nat) (M : Me) : Me := (fun r j => if r = a0 ∧ j < 6 then M.1 a1 j else M.1 r j, M.2)
theorem pt_e {a0 a1 : Nat} {M : Me} (h : a1 ≠ a0) (hb : M.1 a1 5 = 0 ∨ M.1 a1 5 = 1) : fpX1_take a0 a1 M = some (pt a0 a1 M) := by
  unfold fpX1_take letv bz
  simp only [wrM_nr h]
  rw [if_pos hb]
  congr 1
  refine me_ext (fun r j => ?_) rfl
  simp only [wrM_at]
  show _ = if r = a0 ∧ j < 6 then M.1 a1 j else M.1 r j
  by_cases hr : r = a0
  · subst hr
    by_cases hj : j < 6
    · rw [if_pos (c := r = r ∧ j < 6) ⟨rfl, hj⟩]
      match j, hj with
      | 0, _ => simp
      | 1, _ => simp
      | 2, _ => simp
      | 3, _ => simp
      | 4, _ => simp
      | 5, _ => simp
      | j + 6, h => omega
    · rw [if_neg (c := r = r ∧ j < 6) (fun z => hj z.2)]
      rw [if_neg (fun z => hj (by omega)), if_neg (fun z => hj (by omega)), if_neg (fun z => hj (by omega)), if_neg (fun z => hj (by omega)), if_neg (fun z => hj (by omega)), if_neg (fun z => hj (by omega))]
  · simp [hr]
def tkP (a b i : Nat) (M : Me) : Me := (fun r j => if a + 3 ≤ r ∧ r < a + 3 + i ∧ j < 6 then M.1 (r - a + b) j else M.1 r j, M.2)
theorem tkP_s {a b i : Nat} {M : Me} (hi : i < 8) (hab : a + 11 ≤ b ∨ b + 11 ≤ a) : pt (a + 3 + i) (b + 3 + i) (tkP a b i M) = tkP a b (i + 1) M := by
  refine me_ext (fun r j => ?_) rfl
  show (if r = a + 3 + i ∧ j < 6 then (tkP a b i M).1 (b + 3 + i) j else (tkP a b i M).1 r j) = if a + 3 ≤ r ∧ r < a + 3 + (i + 1) ∧ j < 6 then M.1 (r - a + b) j else M.1 r j
  have e : (tkP a b i M).1 (b + 3 + i) j = M.1 (b + 3 + i) j := if_neg (by omega)
  have e2 : (tkP a b i M).1 r j = if a + 3 ≤ r ∧ r < a + 3 + i ∧ j < 6 then M.1 (r - a + b) j else M.1 r j := rfl
  rw [e, e2]
  by_cases h1 : r = a + 3 + i ∧ j < 6
  · rw [if_pos h1, if_pos (by omega)]
    have : r - a + b = b + 3 + i := by omega
    rw [this]
  · rw [if_neg h1]
    by_cases h2 : a + 3 ≤ r ∧ r < a + 3 + i ∧ j < 6
    · rw [if_pos h2, if_pos (by omega)]
    · rw [if_neg h2, if_neg (by omega)]
theorem tk_e {a b : Nat} {M : Me} (hab : a + 11 ≤ b ∨ b + 11 ≤ a) (hb : ∀ p, p < 8 → M.1 (b + 3 + p) 5 = 0 ∨ M.1 (b + 3 + p) 5 = 1) : fpX2_take a b M = some (tk a b M) := by
  unfold fpX2_take
  have e0 : tkP a b 0 M = M := by
    refine me_ext (fun r j => ?_) rfl
    exact if_neg (by omega)
  have e : lp (fpX2_take_l2 a b) FU (J ((0 : Nat) : Int), tkP a b 0 M) = some (tkP a b 8 M) := by
    refine lp_tr (fun i : Nat => (J (i : Nat), tkP a b i M)) 8 (by decide) (fun i hi => ?_) ?_
    · show fpX2_take_l2s a b (J (i : Nat)) (tkP a b i M) = _
      unfold fpX2_take_l2s letv
      have c1 : ¬ (8 : Int32) ≤ J (i : Nat) := fun z => by have := (leN (a := 8) (by omega) (by omega)).1 z; omega
      have hbi : (tkP a b i M).1 (b + 3 + i) 5 = M.1 (b + 3 + i) 5 := if_neg (by omega)
      rw [if_neg c1, inbJ hi (by decide), Option.bind_some, pt_e (by omega) (by rw [hbi]; exact hb i hi), Option.bind_some, tkP_s hi hab, J_succ]
    · show fpX2_take_l2s a b (J ((8 : Nat) : Int)) (tkP a b 8 M) = _
      unfold fpX2_take_l2s
      rw [if_pos (show (8 : Int32) ≤ J ((8 : Nat) : Int) by decide)]
  rw [e0] at e
  have e' : lp (fpX2_take_l2 a b) FU ((0 : Int32), M) = some (tkP a b 8 M) := e
  rw [e', Option.bind_some]
  unfold cpyc letv
  rw [if_neg (by decide)]
  dsimp only
  refine congrArg some (me_ext (fun r j => ?_) rfl)
  have rd : ∀ d k, d = 0 ∨ d = 2 → (tkP a b 8 M).1 (b + d) k = M.1 (b + d) k := fun d k hd => if_neg (by omega)
  have rb : ∀ k, (tkP a b 8 M).1 b k = M.1 b k := fun k => rd 0 k (Or.inl rfl)
  have ne : b ≠ a := by omega
  have ne2 : b ≠ a + 2 := by omega
  simp only [wrM_nr ne, wrA_at, if_neg ne2, rb, wrM_at]
  by_cases h0 : r = a
  · subst h0
    have ra : (tkP r b 8 M).1 r j = M.1 r j := if_neg (by omega)
    have n2 : ¬ r = r + 2 := by omega
    by_cases hj : 2 ≤ j ∧ j < 14
    · have et : (tk r b M).1 (r + 0) j = M.1 (b + 0) j := tk_in (Or.inl ⟨rfl, hj⟩)
      have et : (tk r b M).1 r j = M.1 b j := et
      rw [et]
      match j, hj with
      | 0, h => omega
      | 1, h => omega
      | 2, _ => simp
      | 3, _ => simp
      | 4, _ => simp
      | 5, _ => simp
      | 6, _ => simp
      | 7, _ => simp
      | 8, _ => simp
      | 9, _ => simp
      | 10, _ => simp
      | 11, _ => simp
      | 12, _ => simp
      | 13, _ => simp
      | j + 14, h => omega
    · rw [tk_out (fun z => by have := z.2; unfold vd at this; omega), if_neg n2, ra]
      rw [if_neg (by omega), if_neg (by omega), if_neg (by omega), if_neg (by omega), if_neg (by omega), if_neg (by omega), if_neg (by omega), if_neg (by omega), if_neg (by omega), if_neg (by omega), if_neg (by omega), if_neg (by omega)]
  · have hz : ∀ c : Nat, ¬ (r = a ∧ j = c) := fun c z => h0 z.1
    rw [if_neg (hz _), if_neg (hz _), if_neg (hz _), if_neg (hz _), if_neg (hz _), if_neg (hz _), if_neg (hz _), if_neg (hz _), if_neg (hz _), if_neg (hz _), if_neg (hz _), if_neg (hz _)]
    by_cases h2 : r = a + 2
    · subst h2
      rw [if_pos rfl]
      unfold va_cpy
      have c0 : (0 : Int32).toNatClampNeg = 0 := rfl
      have c10 : (10 : Int32).toNatClampNeg = 10 := rfl
      simp only [c0, c10]
      by_cases hj : j < 10
      · rw [if_pos (by omega), tk_in (Or.inr (Or.inl ⟨rfl, hj⟩)), show 0 + (j - 0) = j by omega]
        exact rd 2 j (Or.inr rfl)
      · rw [if_neg (by omega), tk_out (fun z => by have := z.2; unfold vd at this; omega)]
        exact if_neg (by omega)
    · rw [if_neg h2]
      show (if a + 3 ≤ r ∧ r < a + 3 + 8 ∧ j < 6 then M.1 (r - a + b) j else M.1 r j) = _
      by_cases h3 : a + 3 ≤ r ∧ r < a + 3 + 8 ∧ j < 6
      · rw [if_pos h3]
        have := tk_in (a := a) (b := b) (d := r - a) (j := j) (M := M) (Or.inr (Or.inr ⟨by omega, by omega, h3.2.2⟩))
        rw [show a + (r - a) = r by omega, Nat.add_comm b] at this
        exact this.symm
      · rw [if_neg h3, tk_out (fun z => by have := z.2; unfold vd at this; omega)]
def cpY (q r i : Nat) (M : Me) : Me := (fun a j => if a = q ∧ j < i then M.1 r j else M.1 a j, M.2)
theorem cpY_0 {q r : Nat} {M : Me} : cpY q r 0 M = M := me_ext (fun a j => if_neg (by omega)) rfl
theorem cpY_s {q r i : Nat} {M : Me} (h : r ≠ q) : wrM (cpY q r i M) q i ((cpY q r i M).1 r i) = cpY q r (i + 1) M := by
  refine me_ext (fun a j => ?_) rfl
  rw [wrM_at]
  have e : (cpY q r i M).1 r i = M.1 r i := if_neg (fun z => h z.1)
  have e2 : (cpY q r i M).1 a j = if a = q ∧ j < i then M.1 r j else M.1 a j := rfl
  have e3 : (cpY q r (i + 1) M).1 a j = if a = q ∧ j < i + 1 then M.1 r j else M.1 a j := rfl
  rw [e, e2, e3]
  by_cases h1 : a = q ∧ j = i
  · rw [if_pos h1, if_pos (by omega), h1.2]
  · rw [if_neg h1]
    by_cases h2 : a = q ∧ j < i
    · rw [if_pos h2, if_pos (by omega)]
    · rw [if_neg h2, if_neg (by omega)]
theorem cpY_lp {step : Int32 × Me → Option ((Int32 × Me) ⊕ Me)} {q r : Nat} {M : Me} (h : r ≠ q) (hs : ∀ (i : Nat) (N : Me), i < 70 → step (J (i : Nat), N) = some (.inl (J ((i + 1 : Nat) : Int), wrM N q i (N.1 r i)))) (he : ∀ N : Me, step (J ((70 : Nat) : Int), N) = some (.inr N)) : lp step FU ((0 : Int32), M) = some (cpY q r 70 M) := by
  have e : lp step FU (J ((0 : Nat) : Int), cpY q r 0 M) = some (cpY q r 70 M) := by
    refine lp_tr (fun i : Nat => (J (i : Nat), cpY q r i M)) 70 (by decide) (fun i hi => ?_) (he _)
    show step (J (i : Nat), cpY q r i M) = _
    rw [hs i _ hi, cpY_s h]
  rw [cpY_0] at e
  exact e
theorem c70 {i : Nat} (hi : i < 70) : ¬ (70 : Int32) ≤ J (i : Nat) := fun z => by have := (leN (a := 70) (by omega) (by omega)).1 z; omega
theorem image_l {M : Me} : lp fpX6_image_l2 FU ((0 : Int32), M) = some (cpY 2 1 70 M) := cpY_lp (by decide) (fun i N hi => by
  show fpX6_image_l2s (J (i : Nat)) N = _
  unfold fpX6_image_l2s letv
  rw [if_neg (c70 hi), inbJ hi (by decide), Option.bind_some, J_succ]) (fun N => rfl)
theorem undo_l {M : Me} : lp fpX6_undo_l16 FU ((0 : Int32), M) = some (cpY 1 2 70 M) := cpY_lp (by decide) (fun i N hi => by
  show fpX6_undo_l16s (J (i : Nat)) N = _
  unfold fpX6_undo_l16s letv
  rw [if_neg (c70 hi), inbJ hi (by decide), Option.bind_some, J_succ]) (fun N => rfl)
theorem puts_e {M : Me} : fpX6_puts M = some (cpY 3 1 70 M) := by
  unfold fpX6_puts
  rw [cpY_lp (q := 3) (r := 1) (by decide) (fun i N hi => by
    show fpX6_puts_l2s (J (i : Nat)) N = _
    unfold fpX6_puts_l2s letv
    rw [if_neg (c70 hi), inbJ hi (by decide), Option.bind_some, J_succ]) (fun N => rfl)]
  rfl
theorem putsBack_e {M : Me} : fpX6_putsBack M = some (cpY 1 3 70 M) := by
  unfold fpX6_putsBack
  rw [cpY_lp (q := 1) (r := 3) (by decide) (fun i N hi => by
    show fpX6_putsBack_l2s (J (i : Nat)) N = _
    unfold fpX6_putsBack_l2s letv
    rw [if_neg (c70 hi), inbJ hi (by decide), Option.bind_some, J_succ]) (fun N => rfl)]
  rfl
theorem cpY_q {q r j : Nat} {M : Me} (hj : j < 70) : (cpY q r 70 M).1 q j = M.1 r j := if_pos ⟨rfl, hj⟩
theorem cpY_n {q r a j : Nat} {M : Me} (h : a ≠ q) : (cpY q r 70 M).1 a j = M.1 a j := if_neg (fun z => h z.1)
theorem RO.lt {n : Nat} {s t : Nat → Int32} (h : RO n s) (e : ∀ k, k < 70 → t k = s k) : RO n t := by
  intro k hk
  rw [e k hk, e 0 (by decide), e 2 (by decide)]
  exact h k hk
theorem s41 : sim41 Rr := by
  intro n M1 M2 _ R
  show SM n _ _
  unfold fpX5_image fpX6_image
  refine .b1 (tk_e (Or.inr (by decide)) (fun p hp => ?_)) (.b2 image_l ?_)
  · rw [R.1.1.p hp (w := 5) (by decide)]
    exact b01 (R.2.p hp (w := 5) (by decide))
  obtain ⟨⟨h1, ⟨h2, h2'⟩, h3, ⟨h4, h4', h4''⟩, h5, h6, h7⟩, h8⟩ := R.mono (Nat.le_succ n)
  refine .e rfl ?_
  refine ⟨⟨h1.same (fun d j hd => ?_) (fun j => ?_), ⟨?_, ?_⟩, ?_, ⟨?_, ?_, ?_⟩, ?_, ?_, ?_⟩, ?_⟩
  · rw [wrM_nr (by omega), tk_fr (by omega)]
  · rw [wrM_nr (by decide), cpY_n (by decide)]
  · rw [wrM_eq, wrM_eq]
  · rw [wrM_eq]; exact Or.inr rfl
  · intro _
    constructor
    · intro k hk
      rw [wrM_nr (by omega), wrM_nr (by decide), tk_rk hk, cpY_q hk]
      exact h1 k hk
    · refine h8.lt (fun k hk => ?_)
      rw [wrM_nr (by decide), cpY_q hk]
  · rw [wrM_nr (by decide), wrM_nj (by decide), tk_fr (by omega), cpY_n (by decide)]; exact h4
  · rw [wrM_nj (by decide), cpY_n (by decide)]; exact h4'
  · intro i hi
    rw [wrM_nr (by decide), wrM_nr (by decide), tk_fr (by omega), cpY_n (by decide)]; exact h4'' i hi
  · intro s hs
    obtain ⟨a1, a2, a3, a4⟩ := h5 s hs
    refine ⟨?_, ?_, ?_, fun i hi => ?_⟩
    · rw [wrM_nr (by omega), wrM_nr (by decide), tk_fr (by omega), cpY_n (by decide)]; exact a1
    · rw [wrM_nr (by omega), wrM_nr (by decide), tk_fr (by omega), cpY_n (by decide)]; exact a2
    · rw [wrM_nr (by decide), cpY_n (by decide)]; exact a3
    · rw [wrM_nr (by omega), wrM_nr (by decide), tk_fr (by omega), cpY_n (by decide)]; exact a4 i hi
  · intro i hi
    rw [wrM_nr (by decide), wrM_nr (by decide), tk_fr (by omega), cpY_n (by decide)]; exact h6 i hi
  · intro S hS l hl z
    rw [wrM_nr (by decide), tk_fr (by omega)]; exact h7 S hS l hl z
  · refine h8.lt (fun k hk => ?_)
    rw [wrM_nr (by decide), cpY_n (by decide)]
theorem s42 : sim42 Rr := by
  intro n M1 M2 _ R
  show SM n _ _
  unfold fpX5_undo fpX6_undo
  obtain ⟨⟨h1, ⟨h2, h2'⟩, h3, ⟨h4, h4', h4''⟩, h5, h6, h7⟩, h8⟩ := R.mono (Nat.le_succ n)
  rw [h2]
  by_cases hz : M2.1 0 4 = 0
  · exact .t1 hz (.t2 hz (.fi R 3 (by decide) rfl rfl))
  · refine .f1 hz (.f2 hz ?_)
    have h1' : M2.1 0 4 = 1 := h2'.resolve_left hz
    obtain ⟨k1, k2⟩ := h3 h1'
    refine .b1 (tk_e (Or.inl (by decide)) (fun p hp => ?_)) (.b2 undo_l ?_)
    · rw [k1.p hp (w := 5) (by decide)]
      exact b01 (k2.p hp (w := 5) (by decide))
    have hE : RE (tk 1 12 M1) 1 (cpY 1 2 70 M2) 1 := by
      intro k hk
      rw [tk_rk hk, cpY_q hk]
      exact k1 k hk
    refine .e (hE 0 (by decide)) ?_
    refine ⟨⟨hE, ⟨?_, ?_⟩, ?_, ⟨?_, ?_, ?_⟩, ?_, ?_, ?_⟩, ?_⟩
    · rw [tk_fr (by omega), cpY_n (by decide)]; exact h2
    · rw [cpY_n (by decide)]; exact h2'
    · intro _
      refine ⟨k1.same (fun d j hd => tk_fr (by omega)) (fun j => cpY_n (by decide)), k2.same (fun k => cpY_n (by decide))⟩
    · rw [tk_fr (by omega), cpY_n (by decide)]; exact h4
    · rw [cpY_n (by decide)]; exact h4'
    · intro i hi
      rw [tk_fr (by omega), cpY_n (by decide)]; exact h4'' i hi
    · intro s hs
      obtain ⟨a1, a2, a3, a4⟩ := h5 s hs
      refine ⟨?_, ?_, ?_, fun i hi => ?_⟩
      · rw [tk_fr (by omega), cpY_n (by decide)]; exact a1
      · rw [tk_fr (by omega), cpY_n (by decide)]; exact a2
      · rw [cpY_n (by decide)]; exact a3
      · rw [tk_fr (by omega), cpY_n (by decide)]; exact a4 i hi
    · intro i hi
      rw [tk_fr (by omega), cpY_n (by decide)]; exact h6 i hi
    · intro S hS l hl z
      rw [tk_fr (by omega)]; exact h7 S hS l hl z
    · exact k2.lt (fun k hk => cpY_q hk)
