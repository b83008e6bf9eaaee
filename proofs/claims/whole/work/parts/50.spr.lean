/-! spring -/
theorem lik.sy {P Q : Pr} {p : Nat} (h : lik P Q p) : lik Q P p := ⟨h.1.symm, h.2.1.symm, h.2.2.1.symm, h.2.2.2.symm⟩
theorem Top.cg {P Q : Pr} {a w f f' S l : Nat} {o : Option Nat} (hr : prom P = prom Q) (hl : pls P = pls Q) (h : ∀ p, S.testBit p = true → lik P Q p ∧ f.testBit p = true ∧ f'.testBit p = true) (hS : S.testBit l = true) (ht : Top P a w f S l o) : Top Q a w f' S l o := by
  have e0 : pml P l = pml Q l := (h l hS).1.1
  constructor
  · intro q hq
    obtain ⟨v, g, e⟩ := ht.1 q hq
    refine ⟨v, ⟨g.1, g.2.1, fun p hp => (h p ((g.2.1 p).1 (List.mem_of_head? hp))).2.2⟩, ?_⟩
    rw [← fr_cg hr hl (v ++ [l]) a w (fun p hp => (h p ((g.2.1 p).1 hp)).1), e, e0]
  · intro v q g e
    refine ht.2 v q ⟨g.1, g.2.1, fun p hp => (h p ((g.2.1 p).1 (List.mem_of_head? hp))).2.1⟩ ?_
    rw [fr_cg hr hl (v ++ [l]) a w (fun p hp => (h p ((g.2.1 p).1 hp)).1), e, e0]
theorem bit_ltm {S q m : Nat} (h : S < 2 ^ m) (hq : S.testBit q = true) : q < m := by
  refine Nat.lt_of_not_le (fun z => ?_)
  have : S.testBit q = false := Nat.testBit_lt_two_pow (Nat.lt_of_lt_of_le h (Nat.pow_le_pow_right (n := 2) (by decide) z))
  rw [this] at hq
  cases hq
theorem spr_k {K : Me} {m s w q0 : Nat} {P Q : Pr} {T0 : Nat → Nat → Option Nat} (hQ : PX K (m + 1) s Q) (mK : MT K) (hw : w < 1000) (q9 : q0 < 1000) (hr : prom P = prom Q) (hl : pls P = pls Q) (hlk : ∀ p, p < m → lik P Q p) (hT : TabX K P s w (pab P) (2 ^ m)) (hT0 : ∀ S l, 0 < S → S < 2 ^ m → sb S (pab P) → S.testBit l = true → Top P s w (pab P) S l (T0 S l)) (F1 : q0 = cr P w s 0 ∨ ∃ S l x, 0 < S ∧ S < 2 ^ m ∧ sb S (pab P) ∧ S.testBit l = true ∧ T0 S l = some x ∧ q0 = cr P x (pml P l) 0) (F2 : cr P w s 0 ≤ q0) (F3 : ∀ S l x, 0 < S → S < 2 ^ m → sb S (pab P) → S.testBit l = true → T0 S l = some x → cr P x (pml P l) 0 ≤ q0) : ∃ N q, fpX0_mostFrom (J (2 ^ m : Nat)) (J (w : Nat)) (J (q0 : Nat)) K = some (J (q : Nat), N) ∧ (∀ r j, r ≠ 53 → N.1 r j = K.1 r j) ∧ MT N ∧ TabX N P s w (pab P) (2 ^ m) ∧ q < 1000 ∧ Bst Q 0 s w (pab Q) (fun _ => True) (some q) := by
  have m8 := hQ.1
  have pp : 2 ^ (m + 1) = 2 * 2 ^ m := by rw [Nat.pow_succ, Nat.mul_comm]
  have p1 : 1 ≤ 2 ^ m := Nat.one_le_two_pow
  have p8 := pow_le8 m8
  have bq : ∀ S, S < 2 ^ m → ∀ p, S.testBit p = true → lik P Q p := fun S hS p hp => hlk p (bit_ltm hS hp)
  have toQ : ∀ S, S < 2 ^ m → sb S (pab P) → sb S (pab Q) := fun S hS h q q8 hq => by rw [← (bq S hS q hq).2.2.2]; exact h q q8 hq
  have toP : ∀ S, S < 2 ^ m → sb S (pab Q) → sb S (pab P) := fun S hS h q q8 hq => by rw [(bq S hS q hq).2.2.2]; exact h q q8 hq
  have s8 : ∀ S, S < 2 ^ m → S < 256 := fun S hS => by omega
  have cv : ∀ S l o, S < 2 ^ m → sb S (pab P) → S.testBit l = true → Top P s w (pab P) S l o → Top Q s w (pab Q) S l o := fun S l o hS hb hbl ht => ht.cg hr hl (fun p hp => ⟨bq S hS p hp, hb p (bit_lt (s8 S hS) hp) hp, toQ S hS hb p (bit_lt (s8 S hS) hp) hp⟩) hbl
  have cb : ∀ S l o, S < 2 ^ m → sb S (pab P) → S.testBit l = true → Top Q s w (pab Q) S l o → Top P s w (pab P) S l o := fun S l o hS hb hbl ht => ht.cg hr.symm hl.symm (fun p hp => ⟨(bq S hS p hp).sy, toQ S hS hb p (bit_lt (s8 S hS) hp) hp, hb p (bit_lt (s8 S hS) hp) hp⟩) hbl
  have hTQ : TabX K Q s w (pab Q) (2 ^ m) := fun S l s0 s1 s2 s3 => by
    have hb := toP S s1 s2
    obtain ⟨z1, z2⟩ := hT S l s0 s1 hb s3
    exact ⟨cv S l _ s1 hb s3 z1, z2⟩
  obtain ⟨N, q, e, f1, f2, f3, g9, g1, g2, g3⟩ := from_e (s0 := 2 ^ m) (b0 := q0) hQ mK hw q9 (by omega) (by omega) hTQ
  have hTN : TabX N P s w (pab P) (2 ^ m) := fun S l s0 s1 s2 s3 => by
    obtain ⟨z1, z2⟩ := f3 S l s0 (by omega) (toQ S s1 s2) s3
    exact ⟨cb S l _ s1 s2 s3 z1, z2⟩
  have eT : ∀ S l, 0 < S → S < 2 ^ m → sb S (pab P) → S.testBit l = true → tb N S l = T0 S l := fun S l s0 s1 s2 s3 => (hTN S l s0 s1 s2 s3).1.uniq (hT0 S l s0 s1 s2 s3)
  have ec : ∀ x a b, cr P x a b = cr Q x a b := fun x a b => by unfold cr; rw [hl]
  have em : ∀ l, l < m → pml P l = pml Q l := fun l h => (hlk l h).1
  refine ⟨N, q, e, f1, f2, hTN, g9, ?_⟩
  refine Bst.of (f := pab Q) (T := fun S l => tb N S l) hQ.2.2.1.1 (fun q hq => hq) (fun S l t0 t1 t2 t3 => (f3 S l t0 (sb_lt t1 hQ.2.2.1.2 t2) t2 t3).1) (fun r hr' => ?_) (fun _ => ⟨q, rfl, by rw [← ec]; omega⟩) (fun S l x t0 t1 t2 _ t3 t4 => ⟨q, rfl, ?_⟩)
  · cases hr'
    rcases g1 with z | ⟨S, l, x, a1, a2, a3, a4, a5, a6⟩
    · rcases F1 with y | ⟨S, l, x, a1, a2, a3, a4, a5, a6⟩
      · exact Or.inl ⟨trivial, by rw [← ec]; omega⟩
      · refine Or.inr ⟨S, l, x, a1, s8 S a2, toQ S a2 a3, trivial, a4, (eT S l a1 a2 a3 a4).trans a5, ?_⟩
        rw [← ec, ← em l (bit_ltm a2 a4)]
        omega
    · exact Or.inr ⟨S, l, x, by omega, by omega, a3, trivial, a4, a5, a6⟩
  · by_cases c : S < 2 ^ m
    · have hb := toP S c t2
      have := F3 S l x t0 c hb t3 ((eT S l t0 c hb t3).symm.trans t4)
      rw [← ec, ← em l (bit_ltm c t3)]
      omega
    · exact g3 S l x (by omega) (sb_lt t1 hQ.2.2.1.2 t2) t2 t3 t4
-- the row with one more pump
def sk (s : Nat → Int32) (m k : Nat) : Nat → Int32 := upd (upd (upd (upd (upd (upd (upd s (12 + 6 * m + 0) 2) (12 + 6 * m + 1) (J (k : Nat))) (12 + 6 * m + 2) 1) (12 + 6 * m + 3) 0) (12 + 6 * m + 4) 0) (12 + 6 * m + 5) 0) 0 (J (m : Nat) + 1)
theorem sk_add {s : Nat → Int32} {m k : Nat} {M : Me} (h : M.1 1 = s) : (addY m 2 (J (k : Nat)) 1 0 M).1 1 = sk s m k := by
  unfold addY sk
  simp only [wr_1, h]
theorem sk_o {s : Nat → Int32} {m k j : Nat} (h0 : j ≠ 0) (h : j < 12 + 6 * m ∨ 12 + 6 * m + 6 ≤ j) : sk s m k j = s j := by
  unfold sk
  rw [upd_ne h0, upd_ne (by omega), upd_ne (by omega), upd_ne (by omega), upd_ne (by omega), upd_ne (by omega), upd_ne (by omega)]
theorem sk_0 {s : Nat → Int32} {m k : Nat} : sk s m k 0 = J ((m + 1 : Nat) : Int) := by
  unfold sk
  rw [upd_eq, J_succ]
theorem sk_k {s : Nat → Int32} {m k : Nat} : sk s m k (12 + 6 * m) = 2 := by
  unfold sk
  rw [upd_ne (by omega), upd_ne (by omega), upd_ne (by omega), upd_ne (by omega), upd_ne (by omega), upd_ne (by omega)]
  exact upd_eq
theorem sk_m {s : Nat → Int32} {m k : Nat} : sk s m k (12 + 6 * m + 1) = J (k : Nat) := by
  unfold sk
  rw [upd_ne (by omega), upd_ne (by omega), upd_ne (by omega), upd_ne (by omega), upd_ne (by omega), upd_eq]
theorem sk_t {s : Nat → Int32} {m k : Nat} : sk s m k (12 + 6 * m + 5) = 0 := by
  unfold sk
  rw [upd_ne (by omega), upd_eq]
theorem sk_w {s : Nat → Int32} {m k k' : Nat} : upd (sk s m k') (12 + 6 * m + 1) (J (k : Nat)) = sk s m k := by
  funext j
  by_cases c : j = 12 + 6 * m + 1
  · subst c
    rw [upd_eq, sk_m]
  · rw [upd_ne c]
    unfold sk
    by_cases c0 : j = 0
    · subst c0
      rw [upd_eq, upd_eq]
    · rw [upd_ne c0, upd_ne c0]
      have key : ∀ (f g : Nat → Int32) (i : Nat) (v : Int32), f j = g j → upd f i v j = upd g i v j := fun f g i v h => by
        by_cases e : j = i
        · subst e
          rw [upd_eq, upd_eq]
        · rw [upd_ne e, upd_ne e, h]
      refine key _ _ _ _ (key _ _ _ _ (key _ _ _ _ (key _ _ _ _ ?_)))
      rw [upd_ne c, upd_ne c]
theorem sk_RO {n m k : Nat} {s : Nat → Int32} (h : RO n s) (hs : s 0 = J (m : Nat)) (hm : m < 8) (hk : k ≤ 99) : RO n (sk s m k) := by
  have hkv : (J (k : Nat)).toInt = k := tJn (by omega)
  have := add_RO (n := n) (p := m) (a := 2) (b := J (k : Nat)) (c := 1) (d := 0) (M2 := ((fun _ => s, 0) : Me)) h hs hm (by decide) (by rw [hkv]; omega) (by decide) (by decide)
  rw [sk_add (s := s) rfl] at this
  exact this
theorem abl_lt {s t : Nat → Int32} {d : Nat} : ∀ i, (∀ k, k = 5 ∨ (12 ≤ k ∧ k < 12 + 6 * i) → t k = s k) → abl t d i = abl s d i
  | 0, _ => rfl
  | i + 1, h => by
    unfold abl yP vn
    rw [abl_lt i (fun k hk => h k (by omega)), h _ (by omega), h _ (by omega), h _ (by omega), h _ (by omega), h 5 (by omega)]
theorem vn_eq {s t : Nat → Int32} {i : Nat} (h : t i = s i) : vn t i = vn s i := by unfold vn; rw [h]
theorem sk_PR {s : Nat → Int32} {m k d : Nat} (hs : vn s 0 = m) (hm : m < 8) : pab (PR (sk s m k) d) = nS (pab (PR s d)) m ∧ prom (PR s d) = prom (PR (sk s m k) d) ∧ pls (PR s d) = pls (PR (sk s m k) d) ∧ (∀ p, p < m → lik (PR s d) (PR (sk s m k) d) p) ∧ (k < 1000 → pml (PR (sk s m k) d) m = k) ∧ pnd (PR (sk s m k) d) m = 0 ∧ pyl (PR (sk s m k) d) m = 1 := by
  have v0 : vn (sk s m k) 0 = m + 1 := vn_of sk_0 (by omega)
  have vk : vn (sk s m k) (12 + 6 * m) = 2 := by unfold vn; rw [sk_k]; decide
  have ym : yP (sk s m k) d m = 1 := by
    unfold yP yn
    rw [vk]
    rfl
  have nm : nP (sk s m k) d m = 0 := by
    unfold nP nn
    rw [vk]
    rfl
  have eb : abl (sk s m k) d (m + 1) = nS (abl s d m) m := by
    have e1 : abl (sk s m k) d m = abl s d m := abl_lt m (fun k' hk => sk_o (by omega) (by omega))
    show (if sk s m k (12 + 6 * m + 5) = 0 ∧ 0 < yP (sk s m k) d m then nS (abl (sk s m k) d m) m else abl (sk s m k) d m) = _
    rw [if_pos ⟨sk_t, by rw [ym]; decide⟩, e1]
  have pb : pab (PR (sk s m k) d) = nS (pab (PR s d)) m := by
    show abl (sk s m k) d (vn (sk s m k) 0) = nS (abl s d (vn s 0)) m
    rw [v0, hs, eb]
  have aB := (abl_b (s := s) (d := d) m (by omega))
  refine ⟨pb, ?_, ?_, fun p hp => ⟨?_, ?_, ?_, ?_⟩, fun hk => ?_, nm, ym⟩
  · exact (vn_eq (sk_o (by decide) (by omega))).symm
  · show ls (vn s 3) = ls (vn (sk s m k) 3)
    rw [vn_eq (s := s) (t := sk s m k) (sk_o (by decide) (by omega))]
  · exact (vn_eq (sk_o (by omega) (by omega))).symm
  · have ey : yP (sk s m k) d p = yP s d p := by
      unfold yP
      rw [vn_eq (s := s) (t := sk s m k) (sk_o (by omega) (by omega)), vn_eq (s := s) (t := sk s m k) (i := 12 + 6 * p + 2) (sk_o (by omega) (by omega)), vn_eq (s := s) (t := sk s m k) (i := 12 + 6 * p + 4) (sk_o (by omega) (by omega)), vn_eq (s := s) (t := sk s m k) (i := 5) (sk_o (by omega) (by omega))]
    show nP s d p = nP (sk s m k) d p
    unfold nP
    rw [ey, vn_eq (s := s) (t := sk s m k) (sk_o (by omega) (by omega))]
  · show yP s d p = yP (sk s m k) d p
    unfold yP
    rw [vn_eq (s := s) (t := sk s m k) (sk_o (by omega) (by omega)), vn_eq (s := s) (t := sk s m k) (i := 12 + 6 * p + 2) (sk_o (by omega) (by omega)), vn_eq (s := s) (t := sk s m k) (i := 12 + 6 * p + 4) (sk_o (by omega) (by omega)), vn_eq (s := s) (t := sk s m k) (i := 5) (sk_o (by omega) (by omega))]
  · have a8 : pab (PR s d) < 256 := by show abl s d (vn s 0) < 256; rw [hs]; exact aB.1
    rw [pb, nS_bit _ a8 m hm p (by omega)]
    simp [show p ≠ m by omega]
  · exact vn_of sk_m (by omega)
