/-! pump, of, change, rule, water, now, can, pour, fill, seed, hold -/
theorem RO.upP {n m p w : Nat} {s : Nat → Int32} {v : Int32} (h : RO n s) (hm : n ≤ m) (hp : p < 8) (hw : w < 6) (h3 : 0 ≤ v.toInt) (h4 : v.toInt ≤ [6, 99, 60, 11, (m : Int), 1].getD w 0) : RO m (upd s (12 + 6 * p + w) v) := by
  refine h.up hm (by omega) (by omega) ?_ ?_
  · rw [lo_p hp hw]; exact h3
  · rw [hi_p hp hw]; exact h4
theorem RO.upS {n m k : Nat} {s : Nat → Int32} {v : Int32} (h : RO n s) (hm : n ≤ m) (h3 : -1 ≤ v.toInt) (h4 : v.toInt ≤ (s 0).toInt - 1) : RO m (upd s (60 + k) v) := by
  refine h.up hm (by omega) (by omega) ?_ ?_
  · rw [lo_s]; exact h3
  · rw [hi_s]; exact h4
theorem s4 : sim4 Rr := by
  intro n M1 M2 a _ R
  show SM n _ _
  unfold fpX5_water fpX6_water
  by_cases h : 0 ≤ a.toInt ∧ a.toInt ≤ (M2.1 1 2).toInt
  · refine .t1 ((nc0 R).2 h) (.f2 (fun z => iw0.1 z h) ?_)
    exact .e (R.1.1 8 (by decide)) ⟨(R.1.mono (Nat.le_succ n)).wr (k := 8) (by decide), by rw [wr_1]; exact R.2.up (Nat.le_succ n) (by decide) (by decide) h.1 h.2⟩
  · exact .f1 (fun z => h ((nc0 R).1 z)) (.t2 (iw0.2 h) (.fi R 0 (by decide) rfl rfl))
theorem s29 : sim29 Rr := by
  intro n M1 M2 a _ R
  show SM n _ _
  unfold fpX5_seed fpX6_seed
  exact .e (R.1.1 1 (by decide)) ⟨(R.1.mono (Nat.le_succ n)).wr (k := 1) (by decide), by rw [wr_1]; exact R.2.up (Nat.le_succ n) (by decide) (by decide) (tlo a) (Int.le_of_lt_add_one (thi a))⟩
def addX (r p : Nat) (a b c d : Int32) (M : Me) : Me := wrM (wrM (wrM (wrM (wrM (wrM (wrM M (r + 3 + p) 0 a) (r + 3 + p) 1 b) (r + 3 + p) 2 c) (r + 3 + p) 3 d) (r + 3 + p) 4 0) (r + 3 + p) 5 0) r 2 (J (p : Nat) + 1)
def addY (p : Nat) (a b c d : Int32) (M : Me) : Me := wrM (wrM (wrM (wrM (wrM (wrM (wrM M 1 (12 + 6 * p + 0) a) 1 (12 + 6 * p + 1) b) 1 (12 + 6 * p + 2) c) 1 (12 + 6 * p + 3) d) 1 (12 + 6 * p + 4) 0) 1 (12 + 6 * p + 5) 0) 1 0 (J (p : Nat) + 1)
theorem add_e {r p : Nat} {a b c d : Int32} {M : Me} (hs : M.1 r 2 = J (p : Nat)) (hp : p < 8) : fpX2_add r a b c d M = some (addX r p a b c d M) := by
  unfold fpX2_add addX
  rw [hs, inbJ hp (by decide)]
  simp only [Option.bind_some, letv]
  have e : ∀ (N : Me) (j : Nat) (v : Int32), (wrM N (r + 3 + p) j v).1 r 2 = N.1 r 2 := fun N j v => wrM_nr (by omega)
  simp only [e, hs]
theorem new_e {p : Nat} {a b c d : Int32} {M : Me} (hs : M.1 1 0 = J (p : Nat)) (hp : p < 8) : fpX6_newPump a b c d M = some (J (p : Nat), addY p a b c d M) := by
  unfold fpX6_newPump addY
  have a0 : inb (fpX6_at (J (p : Nat)) (0 : Int32)) 70 = some (12 + 6 * p + 0) := inA (w := 0) hp (by decide)
  have a1 : inb (fpX6_at (J (p : Nat)) (1 : Int32)) 70 = some (12 + 6 * p + 1) := inA (w := 1) hp (by decide)
  have a2 : inb (fpX6_at (J (p : Nat)) (2 : Int32)) 70 = some (12 + 6 * p + 2) := inA (w := 2) hp (by decide)
  have a3 : inb (fpX6_at (J (p : Nat)) (3 : Int32)) 70 = some (12 + 6 * p + 3) := inA (w := 3) hp (by decide)
  have a4 : inb (fpX6_at (J (p : Nat)) (4 : Int32)) 70 = some (12 + 6 * p + 4) := inA (w := 4) hp (by decide)
  have a5 : inb (fpX6_at (J (p : Nat)) (5 : Int32)) 70 = some (12 + 6 * p + 5) := inA (w := 5) hp (by decide)
  simp only [letv, hs, a0, a1, a2, a3, a4, a5, Option.bind_some]
  have e : ∀ (N : Me) (w : Nat) (v : Int32), (wrM N 1 (12 + 6 * p + w) v).1 1 0 = N.1 1 0 := fun N w v => wrM_nj (by omega)
  simp only [e, hs]
theorem add_RE {r q p : Nat} {a b c d : Int32} {M1 M2 : Me} (h : RE M1 r M2 1) (hp : p < 8) : RE (addX r p a b c d M1) r (addY p a b c d M2) 1 := ((((((h.wrP hp (by decide)).wrP hp (by decide)).wrP hp (by decide)).wrP hp (by decide)).wrP hp (by decide)).wrP hp (by decide)).wr (k := 0) (by decide)
theorem add_RO {n p : Nat} {a b c d : Int32} {M2 : Me} (h : RO n (M2.1 1)) (hs : M2.1 1 0 = J (p : Nat)) (hp : p < 8) (ha : 0 ≤ a.toInt ∧ a.toInt ≤ 6) (hb : 0 ≤ b.toInt ∧ b.toInt ≤ 99) (hc : 0 ≤ c.toInt ∧ c.toInt ≤ 60) (hd : 0 ≤ d.toInt ∧ d.toInt ≤ 11) : RO n ((addY p a b c d M2).1 1) := by
  unfold addY
  simp only [wr_1]
  have le := Nat.le_refl n
  refine RO.up0 (((((((h.upP le hp (w := 0) (by decide) ha.1 ha.2).upP le hp (w := 1) (by decide) hb.1 hb.2).upP le hp (w := 2) (by decide) hc.1 hc.2).upP le hp (w := 3) (by decide) hd.1 hd.2).upP le hp (w := 4) (by decide) (by decide) ?_).upP le hp (w := 5) (by decide) (by decide) (show (0 : Int) ≤ 1 by decide))) le ?_ ?_
  · show (0 : Int) ≤ n; omega
  · have e : ∀ (f : Nat → Int32) (w : Nat) (v : Int32), upd f (12 + 6 * p + w) v 0 = f 0 := fun f w v => upd_ne (by omega)
    simp only [e, hs]
    rw [J_succ, tJn (by omega), tJn (by omega)]
    omega
  · rw [J_succ, tJn (by omega)]
    omega
theorem s0 : sim0 Rr := by
  intro n M1 M2 a b c _ R
  show SM n _ _
  unfold fpX5_pump fpX6_pump
  have k0 := R.2.k0
  have e0 : M1.1 1 2 = M2.1 1 0 := R.1.1 0 (by decide)
  have R' := R.mono (Nat.le_succ n)
  have iA : fpX6_isPart 0 a = fpX6_in a.toInt64 0 6 := rfl
  have iC : fpX6_isPart 2 c = fpX6_in c.toInt64 1 60 := rfl
  rw [iA, iC]
  by_cases h1 : 0 ≤ a.toInt ∧ a.toInt ≤ 6
  · refine .t1 (out0.2 h1) (.f2 (in1 h1) ?_)
    by_cases h2 : 0 ≤ b.toInt ∧ b.toInt ≤ 99
    · refine .t1 (out0.2 h2) (.f2 (fun z => im0.1 z h2) ?_)
      by_cases h3 : 1 ≤ c.toInt ∧ c.toInt ≤ 60
      · refine .t1 (out0.2 h3) (.f2 (in1 h3) ?_)
        obtain ⟨p, hs, hpe⟩ := ofI k0.1
        have hs1 : M1.1 1 2 = J (p : Nat) := e0.trans hs
        unfold fpX2_isFull
        rw [hs1, hs]
        by_cases h4 : p < 8
        · refine .t1 (if_pos ((ltJ (b := 8) (by omega) (by omega) (by omega) (by omega)).2 (show (p : Int) < 8 by omega))) (.f2 (fun z => ?_) ?_)
          · have := (eqJ (b := 8) (by omega) (by omega) (by omega) (by omega)).1 z
            omega
          · refine .b1 (add_e hs1 h4) (.b2 (new_e hs h4) (.e ?_ ⟨?_, ?_⟩))
            · show (addX 1 p a b c 0 M1).1 1 2 - 1 = _
              unfold addX
              rw [wrM_eq, J_succ, J_1, J_sub]
              congr 1
              omega
            · exact ((((((R'.1.wrP h4 (by decide)).wrP h4 (by decide)).wrP h4 (by decide)).wrP h4 (by decide)).wrP h4 (by decide)).wrP h4 (by decide)).wr (k := 0) (by decide)
            · exact add_RO R'.2 hs h4 h1 h2 ⟨by omega, h3.2⟩ (by decide)
        · have p8 : p = 8 := by omega
          subst p8
          exact .f1 (by decide) (.t2 (by decide) (.fi R 1 (by decide) rfl rfl))
      · exact .f1 (fun z => h3 (out0.1 z)) (.t2 (in0.2 h3) (.fi R 0 (by decide) rfl rfl))
    · exact .f1 (fun z => h2 (out0.1 z)) (.t2 (im0.2 h2) (.fi R 0 (by decide) rfl rfl))
  · exact .f1 (fun z => h1 (out0.1 z)) (.t2 (in0.2 h1) (.fi R 0 (by decide) rfl rfl))
theorem b01 {x : Int32} (h : 0 ≤ x.toInt ∧ x.toInt ≤ 1) : x = 0 ∨ x = 1 := by
  rcases (show x.toInt = 0 ∨ x.toInt = 1 by omega) with e | e
  · exact Or.inl (Int32.toInt_inj.1 e)
  · exact Or.inr (Int32.toInt_inj.1 e)
theorem s1 : sim1 Rr := by
  intro n M1 M2 a b _ R
  show SM n _ _
  unfold fpX5_of fpX6_of
  have k0 := R.2.k0
  have R' := R.mono (Nat.le_succ n)
  by_cases h : 0 ≤ a.toInt ∧ a.toInt < (M2.1 1 0).toInt
  · refine .f1 (fun z => (h0P R).1 z h) (.f2 (fun z => (isP0 k0).1 z h) ?_)
    obtain ⟨p, rfl, hpe⟩ := ofI h.1
    have hp : p < 8 := by omega
    refine .b1 (inbJ hp (by decide)) ?_
    by_cases hb : 0 ≤ b.toInt ∧ b.toInt ≤ 7
    · refine .f2 (in1 hb) ?_
      obtain ⟨w, rfl, hwe⟩ := ofI hb.1
      have hw : w < 8 := by omega
      match w, hw with
      | 0, _ => exact .t1 (by decide) (.f2 (by decide) (.b2 (itsE (w := 0) hp (by decide)) (.e (R.1.1.p hp (w := 0) (by decide)) R')))
      | 1, _ => exact .f1 (by decide) (.t1 (by decide) (.f2 (by decide) (.b2 (itsE (w := 1) hp (by decide)) (.e (R.1.1.p hp (w := 1) (by decide)) R'))))
      | 2, _ => exact .f1 (by decide) (.f1 (by decide) (.t1 (by decide) (.f2 (by decide) (.b2 (itsE (w := 2) hp (by decide)) (.e (R.1.1.p hp (w := 2) (by decide)) R')))))
      | 3, _ => exact .f1 (by decide) (.f1 (by decide) (.f1 (by decide) (.t1 (by decide) (.f2 (by decide) (.b2 (itsE (w := 3) hp (by decide)) (.e (R.1.1.p hp (w := 3) (by decide)) R'))))))
      | 4, _ => exact .f1 (by decide) (.f1 (by decide) (.f1 (by decide) (.f1 (by decide) (.t1 (by decide) (.f2 (by decide) (.b2 (itsE (w := 4) hp (by decide)) (.e (R.1.1.p hp (w := 4) (by decide)) R')))))))
      | 5, _ =>
        refine .f1 (by decide) (.f1 (by decide) (.f1 (by decide) (.f1 (by decide) (.f1 (by decide) (.t1 (by decide) (.f2 (by decide) (.b2 (itsE (w := 5) hp (by decide)) ?_)))))))
        have e5 := R.1.1.p hp (w := 5) (by decide)
        rcases b01 (R.2.p hp (w := 5) (by decide)) with z | z
        · exact .t1 (e5.trans z) (.e z.symm R')
        · exact .f1 (by rw [e5, z]; decide) (.e z.symm R')
      | 6, _ => exact .f1 (by decide) (.f1 (by decide) (.f1 (by decide) (.f1 (by decide) (.f1 (by decide) (.f1 (by decide) (.t1 (by decide) (.t2 (by decide) (.t2 (by decide) (.b1 (yOf R.1.1 hp) (.b2 (yY hp) (.e rfl R')))))))))))
      | 7, _ => exact .f1 (by decide) (.f1 (by decide) (.f1 (by decide) (.f1 (by decide) (.f1 (by decide) (.f1 (by decide) (.f1 (by decide) (.t1 (by decide) (.t2 (by decide) (.f2 (by decide) (.b1 (nOf R.1.1 hp) (.b2 (nY hp) (.e rfl R'))))))))))))
      | w + 8, h => omega
    · have nb : ∀ k : Nat, k < 8 → ¬ b = J (k : Nat) := fun k hk z => hb (by rw [z, tJn (by omega)]; omega)
      exact .f1 (nb 0 (by decide)) (.f1 (nb 1 (by decide)) (.f1 (nb 2 (by decide)) (.f1 (nb 3 (by decide)) (.f1 (nb 4 (by decide)) (.f1 (nb 5 (by decide)) (.f1 (nb 6 (by decide)) (.f1 (nb 7 (by decide)) (.t2 (in0.2 hb) (.fi R 0 (by decide) rfl rfl)))))))))
  · exact .t1 ((h0P R).2 h) (.t2 ((isP0 k0).2 h) (.fi R 0 (by decide) rfl rfl))
/-- one trait of a pump is set -/
theorem setP {n p w : Nat} {M1 M2 : Me} {v : Int32} (R : Rr n M1 M2) (hp : p < 8) (hw : w < 6) (h3 : 0 ≤ v.toInt) (h4 : v.toInt ≤ [6, 99, 60, 11, ((n + 1 : Nat) : Int), 1].getD w 0) : Rr (n + 1) (wrM M1 (1 + 3 + p) w v) (wrM M2 1 (12 + 6 * p + w) v) :=
  ⟨(R.1.mono (Nat.le_succ n)).wrP hp hw, by rw [wr_1]; exact R.2.upP (Nat.le_succ n) hp hw h3 h4⟩
theorem s2 : sim2 Rr := by
  intro n M1 M2 a b c _ R
  show SM n _ _
  unfold fpX5_change fpX6_change
  have k0 := R.2.k0
  by_cases h : 0 ≤ a.toInt ∧ a.toInt < (M2.1 1 0).toInt
  · refine .f1 (fun z => (h0P R).1 z h) (.f2 (fun z => (isP0 k0).1 z h) ?_)
    obtain ⟨p, rfl, hpe⟩ := ofI h.1
    have hp : p < 8 := by omega
    by_cases hb : 0 ≤ b.toInt ∧ b.toInt ≤ 3
    · refine .t1 (out0.2 hb) ?_
      obtain ⟨w, rfl, hwe⟩ := ofI hb.1
      have hw : w < 4 := by omega
      have go : ∀ lo hi : Int32, ∀ lo' hi' : Int64, lo.toInt = lo'.toInt → hi.toInt = hi'.toInt → 0 ≤ lo'.toInt → hi'.toInt ≤ [6, 99, 60, 11, ((n + 1 : Nat) : Int), 1].getD w 0 → ∀ Z : Int32, (Z = 0 ↔ fpX6_in c.toInt64 lo' hi' = 0) → fpX5_leastTrait (J (w : Nat)) = lo → fpX5_mostTrait (J (w : Nat)) = hi → ∀ A B : Option (Int32 × Me), A = some (M1.1 (1 + 3 + p) w, wrM M1 (1 + 3 + p) w c) → B = (fpX5_finding 0 M1).bind (fun q => some (q.1, q.2)) → SM n (if fpX5_outside c (fpX5_leastTrait (J (w : Nat))) (fpX5_mostTrait (J (w : Nat))) = 0 then A else B) (if Z = 0 then (fpX6_finds (-1000001 : Int32) M2).bind (fun q => some (q.1, q.2)) else (fpX6_its (J (p : Nat)) (J (w : Nat)) M2).bind fun v4 => (inb (fpX6_at (J (p : Nat)) (J (w : Nat))) 70).bind fun k5 => letv (wrM M2 1 k5 c) fun M6 => some (v4, M6)) := by
        intro lo hi lo' hi' e1 e2 l0 h9 Z hZ f1 f2 A B eA eB
        rw [f1, f2, eA, eB]
        by_cases hc : lo'.toInt ≤ c.toInt ∧ c.toInt ≤ hi'.toInt
        · refine .t1 (out0.2 (by rw [e1, e2]; exact hc)) (.f2 (fun z => in1 hc (hZ.1 z)) (.b2 (itsE hp (by omega)) (.b2 (inA hp (by omega)) (.e ?_ (setP R hp (by omega) (by omega) (by omega))))))
          exact R.1.1.p hp (by omega)
        · exact .f1 (fun z => hc (by have := out0.1 z; rw [e1, e2] at this; exact this)) (.t2 (hZ.2 (in0.2 hc)) (.fi R 0 (by decide) rfl rfl))
      match w, hw, go with
      | 0, _, go => exact go 0 6 0 6 rfl rfl (by decide) (show (6 : Int) ≤ 6 by decide) _ Iff.rfl rfl rfl _ _ (by rw [inbJ hp (by decide)]; rfl) rfl
      | 1, _, go => exact go 0 99 0 99 rfl rfl (by decide) (show (99 : Int) ≤ 99 by decide) _ Iff.rfl rfl rfl _ _ (by rw [inbJ hp (by decide)]; rfl) rfl
      | 2, _, go => exact go 1 60 1 60 rfl rfl (by decide) (show (60 : Int) ≤ 60 by decide) _ Iff.rfl rfl rfl _ _ (by rw [inbJ hp (by decide)]; rfl) rfl
      | 3, _, go =>
        refine go 0 11 0 11 rfl rfl (by decide) (show (11 : Int) ≤ 11 by decide) _ ?_ rfl rfl _ _ (by rw [inbJ hp (by decide)]; rfl) rfl
        show (if fpX6_in c.toInt64 0 11 = 0 then (0 : Int32) else 1) = 0 ↔ _
        by_cases z : fpX6_in c.toInt64 0 11 = 0
        · rw [if_pos z]; exact ⟨fun _ => z, fun _ => rfl⟩
        · rw [if_neg z]; exact ⟨fun h => absurd h (by decide), fun h => absurd h z⟩
      | w + 4, h, _ => omega
    · have nb : ∀ k : Nat, k < 4 → ¬ b = J (k : Nat) := fun k hk z => hb (by rw [z, tJn (by omega)]; omega)
      have e : fpX6_isPart b c = 0 := by
        unfold fpX6_isPart
        rw [if_neg (show ¬ b = 0 from nb 0 (by decide)), if_neg (show ¬ b = 1 from nb 1 (by decide)), if_neg (show ¬ b = 2 from nb 2 (by decide)), if_neg (show ¬ b = 3 from nb 3 (by decide))]
      exact .f1 (fun z => hb (out0.1 z)) (.t2 e (.fi R 0 (by decide) rfl rfl))
  · exact .t1 ((h0P R).2 h) (.t2 ((isP0 k0).2 h) (.fi R 0 (by decide) rfl rfl))
theorem setS {n k : Nat} {M1 M2 : Me} {v : Int32} (R : Rr n M1 M2) (hk : k < 70) (h0 : k ≠ 0) (h2 : k ≠ 2) (h3 : loR k ≤ v.toInt) (h4 : v.toInt ≤ hiR (n + 1) (M2.1 1 0).toInt (M2.1 1 2).toInt k) : Rr (n + 1) (wrM M1 (1 + (rk k).1) (rk k).2 v) (wrM M2 1 k v) :=
  ⟨(R.1.mono (Nat.le_succ n)).wr hk, by rw [wr_1]; exact R.2.up (Nat.le_succ n) h0 h2 h3 h4⟩
theorem s3 : sim3 Rr := by
  intro n M1 M2 a b _ R
  show SM n _ _
  unfold fpX5_rule fpX6_rule
  have e4 : M1.1 1 4 = M2.1 1 8 := R.1.1 8 (by decide)
  have k8 := R.2.k8
  by_cases ha : 0 ≤ a.toInt ∧ a.toInt ≤ 3
  · refine .t1 (out0.2 ha) ?_
    obtain ⟨w, rfl, hwe⟩ := ofI ha.1
    have hw : w < 4 := by omega
    match w, hw with
    | 0, _ =>
      have lr : fpX5_leastRule (J ((0 : Nat) : Int)) M1 = fpJ9_max_7cf53 1 (M1.1 1 4) := rfl
      have hm : (fpJ9_max_7cf53 1 (M1.1 1 4)).toInt = max 1 (M2.1 1 8).toInt := by
        unfold fpJ9_max_7cf53
        rw [e4]
        simp only [Int32.lt_iff_toInt_lt, show (1 : Int32).toInt = 1 from rfl]
        by_cases z : 1 < (M2.1 1 8).toInt
        · rw [if_pos z]; omega
        · rw [if_neg z]
          show (1 : Int) = _
          omega
      have ir : fpX6_isRule (J ((0 : Nat) : Int)) b M2 = 0 ↔ ¬ (1 ≤ b.toInt ∧ b.toInt ≤ 999 ∧ (M2.1 1 8).toInt ≤ b.toInt) := by
        show (if fpX6_in b.toInt64 1 999 = 0 then (0 : Int32) else if b < M2.1 1 8 then 0 else 1) = 0 ↔ _
        by_cases z : fpX6_in b.toInt64 1 999 = 0
        · rw [if_pos z]
          have := in0.1 z
          exact ⟨fun _ h => this ⟨h.1, h.2.1⟩, fun _ => rfl⟩
        · rw [if_neg z]
          have z' : (1 : Int) ≤ b.toInt ∧ b.toInt ≤ 999 := by
            refine Decidable.byContradiction (fun h => z (in0.2 h))
          by_cases z2 : b < M2.1 1 8
          · rw [if_pos z2]
            rw [Int32.lt_iff_toInt_lt] at z2
            exact ⟨fun _ => by omega, fun _ => rfl⟩
          · rw [if_neg z2]
            rw [Int32.lt_iff_toInt_lt] at z2
            exact ⟨fun h => absurd h (by decide), fun h => absurd (show 1 ≤ b.toInt ∧ b.toInt ≤ 999 ∧ (M2.1 1 8).toInt ≤ b.toInt by omega) h⟩
      by_cases hb : 1 ≤ b.toInt ∧ b.toInt ≤ 999 ∧ (M2.1 1 8).toInt ≤ b.toInt
      · refine .t1 (out0.2 (by rw [lr, hm]; show _ ∧ b.toInt ≤ 999; omega)) (.f2 (fun z => ir.1 z hb) (.t1 (by decide) ?_))
        exact .e (R.1.1 2 (by decide)) ⟨(R.1.mono (Nat.le_succ n)).wr (k := 2) (by decide), by
          show RO (n + 1) ((wrM M2 1 2 b).1 1)
          rw [wr_1]
          exact R.2.up2 (Nat.le_succ n) hb.1 hb.2.1 hb.2.2⟩
      · refine .f1 (fun z => hb ?_) (.t2 (ir.2 hb) (.fi R 0 (by decide) rfl rfl))
        have := out0.1 z
        rw [lr, hm] at this
        have h9 : b.toInt ≤ 999 := this.2
        omega
    | 1, _ =>
      by_cases hb : 0 ≤ b.toInt ∧ b.toInt ≤ 99
      · exact .t1 (out0.2 hb) (.f2 (fun z => in1 (b := 0) (c := 99) hb z) (.f1 (by decide) (.t1 (by decide) (.e (R.1.1 3 (by decide)) (setS (k := 3) R (by decide) (by decide) (by decide) hb.1 hb.2)))))
      · exact .f1 (fun z => hb (out0.1 z)) (.t2 ((in0 (b := 0) (c := 99)).2 hb) (.fi R 0 (by decide) rfl rfl))
    | 2, _ =>
      by_cases hb : 0 ≤ b.toInt ∧ b.toInt ≤ 9
      · exact .t1 (out0.2 hb) (.f2 (fun z => in1 (b := 0) (c := 9) hb z) (.f1 (by decide) (.f1 (by decide) (.t1 (by decide) (.e (R.1.1 4 (by decide)) (setS (k := 4) R (by decide) (by decide) (by decide) hb.1 hb.2))))))
      · exact .f1 (fun z => hb (out0.1 z)) (.t2 ((in0 (b := 0) (c := 9)).2 hb) (.fi R 0 (by decide) rfl rfl))
    | 3, _ =>
      have ir : fpX6_isRule (J ((3 : Nat) : Int)) b M2 = 0 ↔ ¬ (0 ≤ b.toInt ∧ b.toInt ≤ 23) := by
        show (if fpX6_in b.toInt64 0 23 = 0 then (0 : Int32) else 1) = 0 ↔ _
        by_cases z : fpX6_in b.toInt64 0 23 = 0
        · rw [if_pos z]; exact ⟨fun _ => in0.1 z, fun _ => rfl⟩
        · rw [if_neg z]; exact ⟨fun h => absurd h (by decide), fun h => absurd ((in0 (b := 0) (c := 23)).2 h) z⟩
      by_cases hb : 0 ≤ b.toInt ∧ b.toInt ≤ 23
      · exact .t1 (out0.2 hb) (.f2 (fun z => ir.1 z hb) (.f1 (by decide) (.f1 (by decide) (.f1 (by decide) (.e (R.1.1 5 (by decide)) (setS (k := 5) R (by decide) (by decide) (by decide) hb.1 hb.2))))))
      · exact .f1 (fun z => hb (out0.1 z)) (.t2 (ir.2 hb) (.fi R 0 (by decide) rfl rfl))
    | w + 4, h => omega
  · have nb : ∀ k : Nat, k < 4 → ¬ a = J (k : Nat) := fun k hk z => ha (by rw [z, tJn (by omega)]; omega)
    have e : fpX6_isRule a b M2 = 0 := by
      unfold fpX6_isRule
      rw [if_neg (show ¬ a = 0 from nb 0 (by decide)), if_neg (show ¬ a = 1 from nb 1 (by decide)), if_neg (show ¬ a = 2 from nb 2 (by decide)), if_neg (show ¬ a = 3 from nb 3 (by decide))]
    exact .f1 (fun z => ha (out0.1 z)) (.t2 e (.fi R 0 (by decide) rfl rfl))
theorem s5 : sim5 Rr := by
  intro n M1 M2 a _ R
  show SM n _ _
  unfold fpX5_now fpX6_now
  have R' := R.mono (Nat.le_succ n)
  by_cases h0 : a = 0
  · exact .t1 h0 (.t2 h0 (.e (R.1.1 7 (by decide)) R'))
  refine .f1 h0 (.f2 h0 ?_)
  by_cases h1 : a = 1
  · exact .t1 h1 (.t2 h1 (.e (R.1.1 8 (by decide)) R'))
  refine .f1 h1 (.f2 h1 ?_)
  by_cases h2 : a = 2
  · exact .t1 h2 (.t2 h2 (.e (R.1.1 9 (by decide)) R'))
  refine .f1 h2 (.f2 h2 ?_)
  by_cases h3 : a = 3
  · exact .t1 h3 (.t2 h3 (.e (R.1.1 5 (by decide)) R'))
  refine .f1 h3 (.f2 h3 ?_)
  by_cases h4 : a = 4
  · exact .t1 h4 (.t2 h4 (.e (R.1.1 6 (by decide)) R'))
  refine .f1 h4 (.f2 h4 ?_)
  by_cases h5 : a = 5
  · exact .t1 h5 (.t2 h5 (.e (R.1.1 10 (by decide)) R'))
  refine .f1 h5 (.f2 h5 ?_)
  by_cases h6 : a = 6
  · exact .t1 h6 (.t2 h6 (.e (R.1.1 11 (by decide)) R'))
  exact .f1 h6 (.f2 h6 (.fi R 0 (by decide) rfl rfl))
theorem s8 : sim8 Rr := by
  intro n M1 M2 a _ R
  show SM n _ _
  unfold fpX5_can fpX6_can
  have k0 := R.2.k0
  have R' := R.mono (Nat.le_succ n)
  by_cases h : 0 ≤ a.toInt ∧ a.toInt < (M2.1 1 0).toInt
  · refine .f1 (fun z => (h0P R).1 z h) (.f2 (fun z => (isP0 k0).1 z h) ?_)
    obtain ⟨p, rfl, hpe⟩ := ofI h.1
    have hp : p < 8 := by omega
    rw [canX R.1.1 hp, can1 hp]
    refine .b1 rfl (.b2 rfl ?_)
    by_cases hc : M2.1 1 (12 + 6 * p + 5) = 0 ∧ 0 < (Yp (M2.1 1) (M2.1 1 4) p).toInt ∧ (Np (M2.1 1) (M2.1 1 4) p).toInt ≤ (M2.1 1 8).toInt
    · rw [if_pos hc]
      exact .f1 (by decide) (.f2 (by decide) (.e rfl R'))
    · rw [if_neg hc]
      exact .t1 (by decide) (.t2 (by decide) (.e rfl R'))
  · exact .t1 ((h0P R).2 h) (.t2 ((isP0 k0).2 h) (.fi R 0 (by decide) rfl rfl))
theorem s9 : sim9 Rr := by
  intro n M1 M2 _ R
  show SM n _ _
  unfold fpX5_pour fpX6_pour
  have e3 : M1.1 1 3 = M2.1 1 7 := R.1.1 7 (by decide)
  have e4 : M1.1 1 4 = M2.1 1 8 := R.1.1 8 (by decide)
  have e5 : M1.1 1 5 = M2.1 1 9 := R.1.1 9 (by decide)
  rw [e3, e4, e5]
  have k2 := R.2.k2
  by_cases h : M2.1 1 7 = 0
  · refine .t1 h (.t2 h (.e rfl ⟨((R.1.mono (Nat.le_succ n)).wr (k := 9) (by decide)).wr (k := 8) (by decide), ?_⟩))
    show RO (n + 1) ((wrM (wrM M2 1 9 _) 1 8 0).1 1)
    rw [wr_1, wr_1]
    refine (R.2.up (k := 9) (Nat.le_succ n) (by decide) (by decide) (tlo _) (Int.le_of_lt_add_one (thi _))).up (Nat.le_refl _) (by decide) (by decide) (by decide) ?_
    show (0 : Int) ≤ (upd (M2.1 1) 9 _ 2).toInt
    rw [upd_ne (by decide)]
    omega
  · exact .f1 h (.f2 h (.fi R 4 (by decide) rfl rfl))
theorem s10 : sim10 Rr := by
  intro n M1 M2 a _ R
  show SM n _ _
  unfold fpX5_fill fpX6_fill
  have e3 : M1.1 1 3 = M2.1 1 7 := R.1.1 7 (by decide)
  have e4 : M1.1 1 4 = M2.1 1 8 := R.1.1 8 (by decide)
  have e5 : M1.1 1 5 = M2.1 1 9 := R.1.1 9 (by decide)
  have e6 : M1.1 1 6 = M2.1 1 2 := R.1.1 2 (by decide)
  rw [e3, e4, e5, e6]
  have k2 := R.2.k2
  have k8 := R.2.k8
  by_cases h : 1 ≤ a.toInt ∧ a.toInt ≤ 999
  · refine .t1 (out0.2 h) (.f2 (in1 h) ?_)
    by_cases h7 : M2.1 1 7 = 0
    · refine .t1 h7 (.t2 h7 ?_)
      by_cases h9 : M2.1 1 9 < a
      · exact .t1 h9 (.t2 h9 (.fi R 4 (by decide) rfl rfl))
      · refine .f1 h9 (.f2 h9 ?_)
        by_cases h8 : M2.1 1 8 + a ≤ M2.1 1 2
        · refine .t1 h8 (.t2 h8 ?_)
          have ev : (M2.1 1 8 + a).toInt = (M2.1 1 8).toInt + a.toInt := by
            have : M2.1 1 8 + a = J ((M2.1 1 8).toInt + a.toInt) := by rw [← J_add, J_t, J_t]
            rw [this, tJ (by omega) (by omega)]
          rw [Int32.le_iff_toInt_le, ev] at h8
          have g1 : (wrM M1 1 5 (M2.1 1 9 - a)).1 1 4 = M2.1 1 8 := by rw [wrM_nj (by decide)]; exact e4
          have g2 : (wrM M2 1 9 (M2.1 1 9 - a)).1 1 8 = M2.1 1 8 := wrM_nj (by decide)
          simp only [letv, g1, g2]
          refine .e (by rw [wrM_eq, wrM_eq]) ⟨((R.1.mono (Nat.le_succ n)).wr (k := 9) (by decide)).wr (k := 8) (by decide), ?_⟩
          rw [wr_1, wr_1]
          refine (R.2.up (k := 9) (Nat.le_succ n) (by decide) (by decide) (tlo _) (Int.le_of_lt_add_one (thi _))).up (Nat.le_refl _) (by decide) (by decide) ?_ ?_
          · show 0 ≤ (M2.1 1 8 + a).toInt
            omega
          · show (M2.1 1 8 + a).toInt ≤ (upd (M2.1 1) 9 _ 2).toInt
            rw [upd_ne (by decide)]
            omega
        · exact .f1 h8 (.f2 h8 (.fi R 4 (by decide) rfl rfl))
    · exact .f1 h7 (.f2 h7 (.fi R 4 (by decide) rfl rfl))
  · exact .f1 (fun z => h (out0.1 z)) (.t2 (in0.2 h) (.fi R 0 (by decide) rfl rfl))
theorem s35 : sim35 Rr := by
  intro n M1 M2 a b _ R
  show SM n _ _
  unfold fpX5_hold fpX6_hold
  have k0 := R.2.k0
  by_cases h : 0 ≤ a.toInt ∧ a.toInt ≤ 9
  · refine .t1 (out0.2 h) (.f2 (in1 h) ?_)
    obtain ⟨k, rfl, hke⟩ := ofI h.1
    have hk : k < 10 := by omega
    have ev : (60 : Int32) + J (k : Nat) = J ((60 + k : Nat) : Int) := by
      rw [show (60 : Int32) = J 60 from rfl, J_add]
      rfl
    have fin : (-1 ≤ b.toInt ∧ b.toInt ≤ (M2.1 1 0).toInt - 1) → SM n (fpX5_hold_b32 (J (k : Nat)) b M1) (fpX6_hold_b32 (J (k : Nat)) b M2) := by
      intro hb
      unfold fpX5_hold_b32 fpX6_hold_b32
      refine .b1 (inbJ hk (by decide)) (.b2 (by rw [ev]; exact inbJ (by omega) (by decide)) (.e rfl ⟨(R.1.mono (Nat.le_succ n)).wrS hk, ?_⟩))
      rw [wr_1]
      exact R.2.upS (Nat.le_succ n) hb.1 hb.2
    by_cases hb : b = -1
    · exact .t1 hb (.t2 hb (fin (by rw [hb]; exact ⟨by decide, by show (-1 : Int) ≤ _; omega⟩)))
    · refine .f1 hb (.f2 hb ?_)
      by_cases hp : 0 ≤ b.toInt ∧ b.toInt < (M2.1 1 0).toInt
      · exact .f1 (fun z => (h0P R).1 z hp) (.f2 (fun z => (isP0 k0).1 z hp) (fin (by omega)))
      · exact .t1 ((h0P R).2 hp) (.t2 ((isP0 k0).2 hp) (.fi R 0 (by decide) rfl rfl))
  · exact .f1 (fun z => h (out0.1 z)) (.t2 (in0.2 h) (.fi R 0 (by decide) rfl rfl))
