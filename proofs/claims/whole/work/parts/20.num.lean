/-! Numbers, sets of bits, and rows for functions that may fail -/
theorem upd_eq {f : Nat → Int32} {j : Nat} {v : Int32} : upd f j v j = v := by simp [upd]
theorem upd_ne {f : Nat → Int32} {j k : Nat} {v : Int32} (h : k ≠ j) : upd f j v k = f k := by simp [upd, h]
theorem wrM_eq {M : Me} {r j : Nat} {v : Int32} : (wrM M r j v).1 r j = v := by simp [wrM, upd]
theorem wrM_nr {M : Me} {r j r' k : Nat} {v : Int32} (h : r' ≠ r) : (wrM M r j v).1 r' k = M.1 r' k := by simp [wrM, h]
theorem wrM_nj {M : Me} {r j r' k : Nat} {v : Int32} (h : k ≠ j) : (wrM M r j v).1 r' k = M.1 r' k := by
  by_cases hr : r' = r
  · subst hr; simp [wrM, upd, h]
  · exact wrM_nr hr
theorem wrM_at {M : Me} {r j r' k : Nat} {v : Int32} : (wrM M r j v).1 r' k = if r' = r ∧ k = j then v else M.1 r' k := by
  by_cases hr : r' = r
  · subst hr
    by_cases hk : k = j
    · subst hk; simp [wrM_eq]
    · rw [wrM_nj hk]; simp [hk]
  · rw [wrM_nr hr]; simp [hr]
theorem wrM_2 {M : Me} {r j : Nat} {v : Int32} : (wrM M r j v).2 = M.2 := rfl
theorem me_ext {M N : Me} (h : ∀ r j, M.1 r j = N.1 r j) (h2 : M.2 = N.2) : M = N := by
  obtain ⟨a, b⟩ := M
  obtain ⟨c, d⟩ := N
  have e : a = c := funext fun r => funext fun j => h r j
  cases e
  cases h2
  rfl
theorem wrM_comm {M : Me} {r j r' j' : Nat} {v v' : Int32} (h : ¬ (r = r' ∧ j = j')) : wrM (wrM M r j v) r' j' v' = wrM (wrM M r' j' v') r j v := by
  refine me_ext (fun a b => ?_) rfl
  simp only [wrM_at]
  by_cases h1 : a = r' ∧ b = j'
  · by_cases h2 : a = r ∧ b = j
    · exact absurd ⟨h2.1.symm.trans h1.1, h2.2.symm.trans h1.2⟩ h
    · rw [if_pos h1, if_neg h2, if_pos h1]
  · rw [if_neg h1, if_neg h1]
theorem wrM_wr {M : Me} {r j : Nat} {v v' : Int32} : wrM (wrM M r j v) r j v' = wrM M r j v' := by
  refine me_ext (fun a b => ?_) rfl
  simp only [wrM_at]
  by_cases h1 : a = r ∧ b = j
  · rw [if_pos h1, if_pos h1]
  · rw [if_neg h1, if_neg h1, if_neg h1]
theorem wrA_at {M : Me} {r r' k : Nat} {f : Nat → Int32} : (wrA M r f).1 r' k = if r' = r then f k else M.1 r' k := by
  unfold wrA
  by_cases h : r' = r
  · simp [h]
  · simp [h]
-- functions that may fail
theorem okS {α : Type} {a : α} {G : α → Prop} (h : G a) : ok (some a) G := ⟨a, rfl, h⟩
theorem okB {α β : Type} {x : Option α} {f : α → Option β} {G : β → Prop} (h : ok x (fun a => ok (f a) G)) : ok (x.bind f) G := by
  obtain ⟨a, rfl, h2⟩ := h
  exact h2
theorem okE {α β : Type} {x : Option α} {a : α} {f : α → Option β} {G : β → Prop} (e : x = some a) (h : ok (f a) G) : ok (x.bind f) G := by
  subst e
  exact h
theorem okT {β : Type} {c : Prop} [Decidable c] {A B : Option β} {G : β → Prop} (hc : c) (h : ok A G) : ok (if c then A else B) G := by
  rw [if_pos hc]
  exact h
theorem okF {β : Type} {c : Prop} [Decidable c] {A B : Option β} {G : β → Prop} (hc : ¬ c) (h : ok B G) : ok (if c then A else B) G := by
  rw [if_neg hc]
  exact h
theorem okI {β : Type} {c : Prop} [Decidable c] {A B : Option β} {G : β → Prop} (h1 : c → ok A G) (h2 : ¬ c → ok B G) : ok (if c then A else B) G := by
  by_cases hc : c
  · exact okT hc (h1 hc)
  · exact okF hc (h2 hc)
theorem okL {α β : Type} {e : α} {f : α → Option β} {G : β → Prop} (h : ok (f e) G) : ok (letv e f) G := h
theorem okZ {β : Type} {v : Int32} {x : Option β} {G : β → Prop} (hv : v = 0 ∨ v = 1) (h : ok x G) : ok (bz v x) G := by
  unfold bz
  exact okT hv h
theorem okD {β : Type} {v : Int32} {x : Option β} {G : β → Prop} (hv : ¬ v = 0) (h : ok x G) : ok (dvz v x) G := by
  unfold dvz
  exact okF hv h
theorem okW {α : Type} {x : Option α} {G G' : α → Prop} (h : ok x G) (hg : ∀ a, G a → G' a) : ok x G' := by
  obtain ⟨a, e, h2⟩ := h
  exact ⟨a, e, hg a h2⟩
theorem lp_aux {σ ρ : Type} {step : σ → Option (σ ⊕ ρ)} {Q : ρ → Prop} (P : Nat → σ → Prop) (N : Nat) (h : ∀ i s, i ≤ N → P i s → ok (step s) (Sum.elim (fun s' => i < N ∧ P (i + 1) s') Q)) : ∀ (f i : Nat) (s : σ), i ≤ N → N < i + f → P i s → ok (lp step f s) Q
  | 0, i, s, h1, h2, _ => by omega
  | f + 1, i, s, h1, h2, hp => by
    obtain ⟨o, e, ho⟩ := h i s h1 hp
    unfold lp
    rw [e]
    rcases o with s' | r
    · obtain ⟨ho1, ho2⟩ := ho
      exact lp_aux P N h f (i + 1) s' (by omega) (by omega) ho2
    · exact ⟨r, rfl, ho⟩
theorem lp_ok {σ ρ : Type} {step : σ → Option (σ ⊕ ρ)} {Q : ρ → Prop} (P : Nat → σ → Prop) (N : Nat) (hN : N < 100000) {s : σ} (h0 : P 0 s) (h : ∀ i s, i ≤ N → P i s → ok (step s) (Sum.elim (fun s' => i < N ∧ P (i + 1) s') Q)) : ok (lp step FU s) Q :=
  lp_aux P N h FU 0 s (Nat.zero_le _) (by unfold FU; omega) h0
-- ints
def J (x : Int) : Int32 := Int32.ofInt x
theorem J_t (x : Int32) : J x.toInt = x := Int32.ofInt_toInt x
theorem tJ {x : Int} (h1 : -2147483648 ≤ x) (h2 : x < 2147483648) : (J x).toInt = x := Int32.toInt_ofInt_of_le h1 h2
theorem tlo (x : Int32) : -2147483648 ≤ x.toInt := x.le_toInt
theorem thi (x : Int32) : x.toInt < 2147483648 := x.toInt_lt
theorem J_add (a b : Int) : J a + J b = J (a + b) := (Int32.ofInt_add a b).symm
theorem J_sub (a b : Int) : J a - J b = J (a - b) := (Int32.ofInt_sub a b).symm
theorem J_mul (a b : Int) : J a * J b = J (a * b) := (Int32.ofInt_mul a b).symm
theorem J_neg (a : Int) : -J a = J (-a) := (Int32.ofInt_neg a).symm
theorem J_nat (n : Nat) : Int32.ofNat n = J n := Int32.ofInt_eq_ofNat.symm
theorem J_lit (n : Nat) : (OfNat.ofNat n : Int32) = J n := J_nat n
theorem J_0 : (0 : Int32) = J 0 := rfl
theorem J_1 : (1 : Int32) = J 1 := rfl
theorem J_m1 : (-1 : Int32) = J (-1) := rfl
theorem ltJ {a b : Int} (a1 : -2147483648 ≤ a) (a2 : a < 2147483648) (b1 : -2147483648 ≤ b) (b2 : b < 2147483648) : J a < J b ↔ a < b := by rw [Int32.lt_iff_toInt_lt, tJ a1 a2, tJ b1 b2]
theorem leJ {a b : Int} (a1 : -2147483648 ≤ a) (a2 : a < 2147483648) (b1 : -2147483648 ≤ b) (b2 : b < 2147483648) : J a ≤ J b ↔ a ≤ b := by rw [Int32.le_iff_toInt_le, tJ a1 a2, tJ b1 b2]
theorem eqJ {a b : Int} (a1 : -2147483648 ≤ a) (a2 : a < 2147483648) (b1 : -2147483648 ≤ b) (b2 : b < 2147483648) : J a = J b ↔ a = b := by rw [← Int32.toInt_inj, tJ a1 a2, tJ b1 b2]
theorem divJ {a b : Int} (a1 : 0 ≤ a) (a2 : a < 2147483648) (b1 : 0 < b) (b2 : b < 2147483648) : J a / J b = J (a / b) := by
  refine Int32.toInt_inj.1 ?_
  have hb : J b ≠ -1 := by
    intro h
    rw [J_m1, eqJ (by omega) b2 (by omega) (by omega)] at h
    omega
  rw [Int32.toInt_div_of_ne_right _ _ hb, tJ (by omega) a2, tJ (by omega) b2, Int.tdiv_eq_ediv_of_nonneg a1]
  have h1 : 0 ≤ a / b := Int.ediv_nonneg a1 (by omega)
  have h2 : a / b ≤ a := Int.ediv_le_self b a1
  rw [tJ (by omega) (by omega)]
theorem clampJ {a : Int} (a1 : 0 ≤ a) (a2 : a < 2147483648) : (J a).toNatClampNeg = a.toNat := by
  rw [← Int32.toNat_toInt, tJ (by omega) a2]
theorem inbJ {k n : Nat} (h : k < n) (hn : n ≤ 4096) : inb (J k) n = some k := by
  unfold inb
  rw [clampJ (by omega) (by omega), Int.toNat_natCast, if_neg]
  intro h2
  rcases h2 with h2 | h2
  · rw [J_0, ltJ (by omega) (by omega) (by omega) (by omega)] at h2
    omega
  · omega
theorem inbI {i : Int32} {n : Nat} (h0 : 0 ≤ i.toInt) (h : i.toInt < n) (hn : n ≤ 4096) : inb i n = some i.toInt.toNat := by
  have e : i = J (i.toInt.toNat : Nat) := by
    rw [Int.toNat_of_nonneg h0, J_t]
  have hk : i.toInt.toNat < n := by omega
  rw [e, inbJ hk hn, ← e]
theorem okN {β : Type} {i : Int32} {n : Nat} {f : Nat → Option β} {G : β → Prop} (k : Nat) (e : i = J k) (h : k < n) (hn : n ≤ 4096) (hf : ok (f k) G) : ok ((inb i n).bind f) G := by
  rw [e, inbJ h hn]
  exact hf
-- bits
theorem J_nz {n : Nat} (h : n < 2147483648) : (J n).toBitVec = BitVec.ofNat 32 n := by
  unfold J
  rw [Int32.ofInt_eq_ofNat]
  rfl
set_option maxRecDepth 100000 in
theorem isIn_d : ∀ S, S < 256 → ∀ p, p < 8 → fpX0_isIn (J (p : Nat)) (J (S : Nat)) = if S.testBit p then 1 else 0 := by decide +kernel
theorem has_d : ∀ S, S < 256 → ∀ p, p < 8 → fpX6_has (J (S : Nat)) (J (p : Nat)) = if S.testBit p then 1 else 0 := by decide +kernel
def dl (S p : Nat) : Nat := if S.testBit p then S - 2 ^ p else S
def nS (S p : Nat) : Nat := S ||| 2 ^ p
theorem del_d : ∀ S, S < 256 → ∀ p, p < 8 → J (S : Nat) &&& (((1 : Int32) <<< (J (p : Nat) &&& 31)) ^^^ (-1 : Int32)) = J (dl S p : Nat) := by decide +kernel
theorem ins_d : ∀ S, S < 256 → ∀ p, p < 8 → J (S : Nat) ||| ((1 : Int32) <<< (J (p : Nat) &&& 31)) = J (nS S p : Nat) := by decide +kernel
theorem shl_d : ∀ p, p < 9 → (1 : Int32) <<< (J (p : Nat) &&& 31) = J (2 ^ p : Nat) := by decide +kernel
theorem dl_lt : ∀ S, S < 256 → ∀ p, p < 8 → dl S p < 256 := by decide +kernel
theorem dl_lt' : ∀ S, S < 256 → ∀ p, p < 8 → S.testBit p = true → dl S p < S := by decide +kernel
theorem nS_lt : ∀ S, S < 256 → ∀ p, p < 8 → nS S p < 256 := by decide +kernel
theorem dl_bit : ∀ S, S < 256 → ∀ p, p < 8 → ∀ q, q < 8 → (dl S p).testBit q = (S.testBit q && decide (q ≠ p)) := by decide +kernel
theorem nS_bit : ∀ S, S < 256 → ∀ p, p < 8 → ∀ q, q < 8 → (nS S p).testBit q = (S.testBit q || decide (q = p)) := by decide +kernel
theorem bit_lt {S q : Nat} (h : S < 256) (hq : S.testBit q = true) : q < 8 := by
  refine Nat.lt_of_not_le (fun h8 => ?_)
  have : S.testBit q = false := Nat.testBit_lt_two_pow (Nat.lt_of_lt_of_le h (show 256 ≤ 2 ^ q from Nat.pow_le_pow_right (n := 2) (i := 8) (by decide) h8))
  rw [this] at hq
  cases hq
theorem set_ext {S T : Nat} (hS : S < 256) (hT : T < 256) (h : ∀ q, q < 8 → S.testBit q = T.testBit q) : S = T := by
  refine Nat.eq_of_testBit_eq (fun q => ?_)
  by_cases hq : q < 8
  · exact h q hq
  · cases h1 : S.testBit q
    · cases h2 : T.testBit q
      · rfl
      · exact absurd (bit_lt hT h2) hq
    · exact absurd (bit_lt hS h1) hq
def sb (S A : Nat) : Prop := ∀ q, q < 8 → S.testBit q = true → A.testBit q = true
theorem sub_d {S A : Nat} (hS : S < 256) (hA : A < 256) : (J (S : Nat) &&& (J (A : Nat) ^^^ (-1 : Int32)) = 0) ↔ sb S A := by
  rw [← Int32.toBitVec_inj]
  have e : (J (S : Nat) &&& (J (A : Nat) ^^^ (-1 : Int32))).toBitVec = BitVec.ofNat 32 S &&& (BitVec.ofNat 32 A ^^^ BitVec.allOnes 32) := by
    rw [Int32.toBitVec_and, Int32.toBitVec_xor, J_nz (by omega), J_nz (by omega)]
    rfl
  rw [e]
  constructor
  · intro h q hq h1
    have h2 := congrArg (fun x : BitVec 32 => x.getLsbD q) h
    simp only [BitVec.getLsbD_and, BitVec.getLsbD_xor, BitVec.getLsbD_ofNat, BitVec.getLsbD_allOnes, h1] at h2
    have h3 : q < 32 := by omega
    simp [h3] at h2
    simpa using h2
  · intro h
    refine BitVec.eq_of_getLsbD_eq (fun q hq => ?_)
    simp only [BitVec.getLsbD_and, BitVec.getLsbD_xor, BitVec.getLsbD_ofNat, BitVec.getLsbD_allOnes]
    cases h1 : S.testBit q
    · simp
    · have h2 := h q (bit_lt hS h1) h1
      simp [h2, hq]
def pc (S : Nat) : Nat := ((List.range 8).filter (fun q => S.testBit q)).length
theorem bc_d : ∀ S, S < 256 → fpJ6_bitCount_0f7a4 (J (S : Nat)) = J (pc S : Nat) := by decide +kernel
theorem ones_d : ∀ S, S < 256 → fpX6_ones (J (S : Nat)) = some (J (pc S : Nat)) := by decide +kernel
theorem pc_nS : ∀ S, S < 256 → ∀ p, p < 8 → S.testBit p = false → pc (nS S p) = pc S + 1 := by decide +kernel
theorem pc_dl : ∀ S, S < 256 → ∀ p, p < 8 → S.testBit p = true → pc (dl S p) + 1 = pc S := by decide +kernel
