/-! What the calls share, on both sides -/
theorem t64 (x : Int32) : x.toInt64.toInt = x.toInt := by simp
theorem lp_tr {σ ρ : Type} {step : σ → Option (σ ⊕ ρ)} {r : ρ} (st : Nat → σ) (N : Nat) (hN : N < 100000) (h : ∀ i, i < N → step (st i) = some (.inl (st (i + 1)))) (h2 : step (st N) = some (.inr r)) : lp step FU (st 0) = some r := by
  obtain ⟨a, e, rfl⟩ := lp_ok (step := step) (Q := fun x => x = r) (fun i s => s = st i) N hN rfl (fun i s hi hs => by
    subst hs
    rcases Nat.lt_or_eq_of_le hi with h3 | h3
    · exact ⟨_, h i h3, h3, rfl⟩
    · subst h3
      exact ⟨_, h2, rfl⟩)
  exact e
theorem lpp_aux {σ1 ρ1 σ2 ρ2 : Type} {s1 : σ1 → Option (σ1 ⊕ ρ1)} {s2 : σ2 → Option (σ2 ⊕ ρ2)} {Q : ρ1 → ρ2 → Prop} (P : Nat → σ1 → σ2 → Prop) (N : Nat) (h : ∀ i x y, i ≤ N → P i x y → (∃ x' y', s1 x = some (.inl x') ∧ s2 y = some (.inl y') ∧ i < N ∧ P (i + 1) x' y') ∨ (∃ r1 r2, s1 x = some (.inr r1) ∧ s2 y = some (.inr r2) ∧ Q r1 r2)) : ∀ (f i : Nat) (x : σ1) (y : σ2), i ≤ N → N < i + f → P i x y → ∃ r1 r2, lp s1 f x = some r1 ∧ lp s2 f y = some r2 ∧ Q r1 r2
  | 0, i, x, y, h1, h2, _ => by omega
  | f + 1, i, x, y, h1, h2, hp => by
    unfold lp
    rcases h i x y h1 hp with ⟨x', y', e1, e2, h3, h4⟩ | ⟨r1, r2, e1, e2, h3⟩
    · rw [e1, e2]
      exact lpp_aux P N h f (i + 1) x' y' (by omega) (by omega) h4
    · rw [e1, e2]
      exact ⟨r1, r2, rfl, rfl, h3⟩
theorem lpp {σ1 ρ1 σ2 ρ2 : Type} {s1 : σ1 → Option (σ1 ⊕ ρ1)} {s2 : σ2 → Option (σ2 ⊕ ρ2)} {Q : ρ1 → ρ2 → Prop} (P : Nat → σ1 → σ2 → Prop) (N : Nat) (hN : N < 100000) {x : σ1} {y : σ2} (h0 : P 0 x y) (h : ∀ i x y, i ≤ N → P i x y → (∃ x' y', s1 x = some (.inl x') ∧ s2 y = some (.inl y') ∧ i < N ∧ P (i + 1) x' y') ∨ (∃ r1 r2, s1 x = some (.inr r1) ∧ s2 y = some (.inr r2) ∧ Q r1 r2)) : ∃ r1 r2, lp s1 FU x = some r1 ∧ lp s2 FU y = some r2 ∧ Q r1 r2 :=
  lpp_aux P N h FU 0 x y (Nat.zero_le _) (by unfold FU; omega) h0
theorem ofI {x : Int32} (h0 : 0 ≤ x.toInt) : ∃ k : Nat, x = J k ∧ (k : Int) = x.toInt := ⟨x.toInt.toNat, by rw [Int.toNat_of_nonneg h0, J_t], Int.toNat_of_nonneg h0⟩
theorem tJn {k : Nat} (h : k < 2147483648) : (J (k : Nat)).toInt = k := tJ (by omega) (by omega)
theorem J_succ (k : Nat) : J (k : Nat) + 1 = J ((k + 1 : Nat) : Int) := by
  rw [J_1, J_add]
  rfl
theorem nc0 {n : Nat} {a : Int32} {M1 M2 : Me} (R : Rr n M1 M2) : fpX5_notCarried a M1 = 0 ↔ 0 ≤ a.toInt ∧ a.toInt ≤ (M2.1 1 2).toInt := by
  unfold fpX5_notCarried
  have e6 : M1.1 1 6 = M2.1 1 2 := R.1.1 2 (by decide)
  rw [out0, e6]
  exact Iff.rfl
theorem iw0 {a : Int32} {M2 : Me} : fpX6_isWater a M2 = 0 ↔ ¬ (0 ≤ a.toInt ∧ a.toInt ≤ (M2.1 1 2).toInt) := by
  unfold fpX6_isWater
  rw [in0, t64]
  exact Iff.rfl
theorem im0 {a : Int32} : fpX6_isMile a = 0 ↔ ¬ (0 ≤ a.toInt ∧ a.toInt ≤ 99) := by
  unfold fpX6_isMile
  rw [in0]
  exact Iff.rfl
theorem h0P {n : Nat} {a : Int32} {M1 M2 : Me} (R : Rr n M1 M2) : fpX2_has 1 a M1 = 0 ↔ ¬ (0 ≤ a.toInt ∧ a.toInt < (M2.1 1 0).toInt) := by
  have e : M1.1 1 2 = M2.1 1 0 := R.1.1 0 (by decide)
  rw [has0, e]
theorem Rl.wrP {n p w : Nat} {M1 M2 : Me} {v : Int32} (h : Rl n M1 M2) (hp : p < 8) (hw : w < 6) : Rl n (wrM M1 (1 + 3 + p) w v) (wrM M2 1 (12 + 6 * p + w) v) := by
  have := h.wr (k := 12 + 6 * p + w) (v := v) (by omega)
  rw [rk_p hp hw] at this
  have e : 1 + (3 + p) = 1 + 3 + p := by omega
  rw [← e]
  exact this
theorem Rl.wrS {n k : Nat} {M1 M2 : Me} {v : Int32} (h : Rl n M1 M2) (hk : k < 10) : Rl n (wrM M1 3 k v) (wrM M2 1 (60 + k) v) := by
  have := h.wr (k := 60 + k) (v := v) (by omega)
  rw [rk_s] at this
  exact this
theorem RE.wrP {r q p w : Nat} {M1 M2 : Me} {v : Int32} (h : RE M1 r M2 q) (hp : p < 8) (hw : w < 6) : RE (wrM M1 (r + 3 + p) w v) r (wrM M2 q (12 + 6 * p + w) v) q := by
  have := h.wr (k := 12 + 6 * p + w) (v := v) (by omega)
  rw [rk_p hp hw] at this
  have e : r + (3 + p) = r + 3 + p := by omega
  rw [← e]
  exact this
theorem at_d : ∀ p, p < 8 → ∀ w, w < 6 → fpX6_at (J (p : Nat)) (J (w : Nat)) = J ((12 + 6 * p + w : Nat) : Int) := by decide +kernel
theorem inA {p w : Nat} (hp : p < 8) (hw : w < 6) : inb (fpX6_at (J (p : Nat)) (J (w : Nat))) 70 = some (12 + 6 * p + w) := by rw [at_d p hp w hw, inbJ (by omega) (by decide)]
theorem itsE {p w : Nat} {M : Me} (hp : p < 8) (hw : w < 6) : fpX6_its (J (p : Nat)) (J (w : Nat)) M = some (M.1 1 (12 + 6 * p + w)) := by
  unfold fpX6_its
  rw [inA hp hw]
  rfl
theorem max0 (x : Int32) : fpJ9_max_7cf53 0 x = fpX6_least0 x := by
  unfold fpJ9_max_7cf53 fpX6_least0
  simp only [Int32.lt_iff_toInt_lt, Int32.le_iff_toInt_le, show (0 : Int32).toInt = 0 from rfl]
  by_cases h : 0 < x.toInt
  · rw [if_pos h, if_pos (by omega)]
  · rw [if_neg h]
    by_cases h2 : 0 ≤ x.toInt
    · rw [if_pos h2]
      refine Int32.toInt_inj.1 ?_
      rw [show (0 : Int32).toInt = 0 from rfl]
      omega
    · rw [if_neg h2]
/-- what a pump yields: kind, gives, used; drought, hour -/
def Yq (k g u d h : Int32) : Int32 := if k = 2 then 1 else if k = 3 then fpX6_least0 (fpX6_least0 (g - d) - u) else if k = 4 then fpX6_least0 (g - d) / 2 else if k = 5 then (if (9 : Int32) ≤ h then fpX6_least0 (g - d) else fpX6_least0 (g - d) + 3) else if k = 6 then (if h < (12 : Int32) then fpX6_least0 (fpX6_least0 (g - d) - u) else 0) else fpX6_least0 (g - d)
def Nq (k y : Int32) : Int32 := if k = 1 then (y + 1) / 2 else if k = 2 then 0 else if k = 4 then (y + 1) / 2 else if k = 6 then (y + 2) / 3 + 1 else (y + 2) / 3
theorem yX {r : Nat} {d h : Int32} {M : Me} : fpX1_yieldsAt r d h M = Yq (M.1 r 0) (M.1 r 2) (M.1 r 4) d h := by
  unfold fpX1_yieldsAt Yq
  simp only [max0]
theorem nX {r : Nat} {y : Int32} {M : Me} : fpX1_needsFor r y M = Nq (M.1 r 0) y := by
  unfold fpX1_needsFor Nq
  rfl
def Yp (s : Nat → Int32) (d : Int32) (p : Nat) : Int32 := Yq (s (12 + 6 * p)) (s (12 + 6 * p + 2)) (s (12 + 6 * p + 4)) d (s 5)
def Np (s : Nat → Int32) (d : Int32) (p : Nat) : Int32 := Nq (s (12 + 6 * p)) (Yp s d p)
theorem yY {p : Nat} {M : Me} (hp : p < 8) : fpX6_yieldOf (J (p : Nat)) M = some (Yp (M.1 1) (M.1 1 4) p) := by
  unfold fpX6_yieldOf
  have e0 : fpX6_its (J (p : Nat)) (0 : Int32) M = some (M.1 1 (12 + 6 * p)) := itsE (w := 0) hp (by decide)
  have e2 : fpX6_its (J (p : Nat)) (2 : Int32) M = some (M.1 1 (12 + 6 * p + 2)) := itsE (w := 2) hp (by decide)
  have e4 : fpX6_its (J (p : Nat)) (4 : Int32) M = some (M.1 1 (12 + 6 * p + 4)) := itsE (w := 4) hp (by decide)
  rw [e0, e2, e4]
  unfold Yp Yq
  simp only [Option.bind_some, letv]
  by_cases h2 : M.1 1 (12 + 6 * p) = 2
  · simp [h2]
  by_cases h3 : M.1 1 (12 + 6 * p) = 3
  · simp [h3]
  by_cases h4 : M.1 1 (12 + 6 * p) = 4
  · simp [h4]
  by_cases h5 : M.1 1 (12 + 6 * p) = 5
  · simp only [h5]
    by_cases z : (9 : Int32) ≤ M.1 1 5
    · simp [z]
    · simp [z]
  by_cases h6 : M.1 1 (12 + 6 * p) = 6
  · simp only [h6]
    by_cases z : (12 : Int32) ≤ M.1 1 5
    · have z2 : ¬ M.1 1 5 < (12 : Int32) := by rw [Int32.lt_iff_toInt_lt]; rw [Int32.le_iff_toInt_le] at z; omega
      simp [z, z2]
    · have z2 : M.1 1 5 < (12 : Int32) := by rw [Int32.lt_iff_toInt_lt]; rw [Int32.le_iff_toInt_le] at z; omega
      simp [z, z2]
  · simp [h2, h3, h4, h5, h6]
theorem nY {p : Nat} {M : Me} (hp : p < 8) : fpX6_needOf (J (p : Nat)) M = some (Np (M.1 1) (M.1 1 4) p) := by
  unfold fpX6_needOf
  have e0 : fpX6_its (J (p : Nat)) (0 : Int32) M = some (M.1 1 (12 + 6 * p)) := itsE (w := 0) hp (by decide)
  rw [yY hp, e0]
  unfold Np Nq fpX6_needOf_b56
  simp only [Option.bind_some, letv]
  by_cases h1 : M.1 1 (12 + 6 * p) = 1
  · simp [h1]
  by_cases h2 : M.1 1 (12 + 6 * p) = 2
  · simp [h2]
  by_cases h3 : M.1 1 (12 + 6 * p) = 3
  · simp [h3]
  by_cases h4 : M.1 1 (12 + 6 * p) = 4
  · simp [h4]
  by_cases h5 : M.1 1 (12 + 6 * p) = 5
  · simp [h5]
  by_cases h6 : M.1 1 (12 + 6 * p) = 6
  · simp [h6]
  · simp [h1, h2, h3, h4, h5, h6]
theorem yXY {r p : Nat} {d : Int32} {M1 M2 : Me} (hE : RE M1 r M2 1) (hp : p < 8) : fpX1_yieldsAt (r + 3 + p) d (M1.1 r 9) M1 = Yp (M2.1 1) d p := by
  have e5 : M1.1 r 9 = M2.1 1 5 := hE 5 (by decide)
  rw [yX, hE.p hp (w := 0) (by decide), hE.p hp (w := 2) (by decide), hE.p hp (w := 4) (by decide), e5]
  rfl
theorem yOf {r p : Nat} {M1 M2 : Me} (hE : RE M1 r M2 1) (hp : p < 8) : fpX2_yieldOf r (J (p : Nat)) M1 = some (Yp (M2.1 1) (M2.1 1 4) p) := by
  unfold fpX2_yieldOf
  rw [inbJ hp (by decide)]
  have e8 : M1.1 r 8 = M2.1 1 4 := hE 4 (by decide)
  show some _ = _
  rw [yXY hE hp, e8]
theorem nOf {r p : Nat} {M1 M2 : Me} (hE : RE M1 r M2 1) (hp : p < 8) : fpX2_needOf r (J (p : Nat)) M1 = some (Np (M2.1 1) (M2.1 1 4) p) := by
  unfold fpX2_needOf
  rw [inbJ hp (by decide), yOf hE hp]
  show some _ = _
  rw [nX, hE.p hp (w := 0) (by decide)]
  rfl
theorem canX {r p : Nat} {M1 M2 : Me} (hE : RE M1 r M2 1) (hp : p < 8) : fpX2_canRun r (J (p : Nat)) M1 = fpX6_isReady (J (p : Nat)) M2 := by
  unfold fpX2_canRun fpX6_isReady
  have e5 : fpX6_its (J (p : Nat)) (5 : Int32) M2 = some (M2.1 1 (12 + 6 * p + 5)) := itsE (w := 5) hp (by decide)
  have e4 : M1.1 r 4 = M2.1 1 8 := hE 8 (by decide)
  rw [inbJ hp (by decide), e5, yOf hE hp, nOf hE hp, yY hp, nY hp, e4]
  simp only [Option.bind_some]
  rw [hE.p hp (w := 5) (by decide)]
theorem can1 {p : Nat} {M2 : Me} (hp : p < 8) : fpX6_isReady (J (p : Nat)) M2 = some (if M2.1 1 (12 + 6 * p + 5) = 0 ∧ 0 < (Yp (M2.1 1) (M2.1 1 4) p).toInt ∧ (Np (M2.1 1) (M2.1 1 4) p).toInt ≤ (M2.1 1 8).toInt then 1 else 0) := by
  unfold fpX6_isReady
  have e5 : fpX6_its (J (p : Nat)) (5 : Int32) M2 = some (M2.1 1 (12 + 6 * p + 5)) := itsE (w := 5) hp (by decide)
  rw [e5, yY hp, nY hp]
  simp only [Option.bind_some, Int32.lt_iff_toInt_lt, Int32.le_iff_toInt_le, show (0 : Int32).toInt = 0 from rfl]
  by_cases h1 : M2.1 1 (12 + 6 * p + 5) = 0
  · rw [if_pos h1]
    by_cases h2 : (Yp (M2.1 1) (M2.1 1 4) p).toInt ≤ 0
    · rw [if_pos h2, if_neg (by omega)]
    · rw [if_neg h2]
      by_cases h3 : (M2.1 1 8).toInt < (Np (M2.1 1) (M2.1 1 4) p).toInt
      · rw [if_pos h3, if_neg (by omega)]
      · rw [if_neg h3, if_pos ⟨h1, by omega, by omega⟩]
  · rw [if_neg h1, if_neg (fun z => h1 z.1)]
theorem ushr8 (x : Int32) : 0 ≤ (jushr x 8).toInt ∧ (jushr x 8).toInt < 16777216 := by
  have h : ∃ k : Nat, jushr x 8 = J k ∧ k < 16777216 := by
    refine ⟨x.toUInt32.toNat / 256, ?_, ?_⟩
    · refine Int32.toBitVec_inj.1 ?_
      have hx : x.toUInt32.toNat < 4294967296 := x.toUInt32.toNat_lt
      rw [J_nz (by omega)]
      refine BitVec.eq_of_toNat_eq ?_
      have e : (jushr x 8).toBitVec = x.toUInt32.toBitVec >>> 8 := rfl
      rw [e, BitVec.toNat_ushiftRight, Nat.shiftRight_eq_div_pow, BitVec.toNat_ofNat, Nat.mod_eq_of_lt (by omega)]
      rfl
    · have hx : x.toUInt32.toNat < 4294967296 := x.toUInt32.toNat_lt
      omega
  obtain ⟨k, e, hk⟩ := h
  rw [e, tJn (by omega)]
  omega
theorem jremJ {a b : Int} (a1 : 0 ≤ a) (a2 : a < 2147483648) (b1 : 0 < b) (b2 : b < 2147483648) : jrem (J a) (J b) = J (a % b) := by
  unfold jrem
  rw [divJ a1 a2 b1 b2, J_mul, J_sub]
  congr 1
  have := Int.mul_ediv_add_emod a b
  rw [Int.mul_comm] at this
  omega
theorem jrem12 (x : Int32) : ∃ k : Nat, jrem (jushr x 8) 12 = J k ∧ k < 12 := by
  have h := ushr8 x
  refine ⟨((jushr x 8).toInt % 12).toNat, ?_, ?_⟩
  · have e := jremJ (a := (jushr x 8).toInt) (b := 12) h.1 (by omega) (by omega) (by omega)
    rw [J_t] at e
    rw [Int.toNat_of_nonneg (Int.emod_nonneg _ (by decide))]
    exact e
  · have h1 := Int.emod_nonneg (jushr x 8).toInt (b := 12) (by decide)
    have h2 := Int.emod_lt_of_pos (jushr x 8).toInt (b := 12) (by decide)
    omega
theorem jremP (x y : Int32) (h0 : 0 < y.toInt) : ∃ k : Nat, jrem (jushr x 8) y = J k ∧ (k : Int) < y.toInt := by
  have h := ushr8 x
  refine ⟨((jushr x 8).toInt % y.toInt).toNat, ?_, ?_⟩
  · have e := jremJ (a := (jushr x 8).toInt) (b := y.toInt) h.1 (by omega) h0 (thi y)
    rw [J_t, J_t] at e
    rw [Int.toNat_of_nonneg (Int.emod_nonneg _ (by omega))]
    exact e
  · have h1 := Int.emod_nonneg (jushr x 8).toInt (b := y.toInt) (by omega)
    have h2 := Int.emod_lt_of_pos (jushr x 8).toInt (b := y.toInt) h0
    omega
