/-! go, run, night, rust, wipe, feed, as, tear, count, status -/
theorem leN {a b : Nat} (ha : a < 2147483648) (hb : b < 2147483648) : J (a : Nat) ≤ J (b : Nat) ↔ a ≤ b := by
  rw [leJ (by omega) (by omega) (by omega) (by omega)]; omega
theorem ltN {a b : Nat} (ha : a < 2147483648) (hb : b < 2147483648) : J (a : Nat) < J (b : Nat) ↔ a < b := by
  rw [ltJ (by omega) (by omega) (by omega) (by omega)]; omega
theorem eqN {a b : Nat} (ha : a < 2147483648) (hb : b < 2147483648) : J (a : Nat) = J (b : Nat) ↔ a = b := by
  rw [eqJ (by omega) (by omega) (by omega) (by omega)]; omega
theorem addN (a b : Nat) : J (a : Nat) + J (b : Nat) = J ((a + b : Nat) : Int) := by
  rw [J_add]; rfl
theorem subN {a b : Nat} (h : b ≤ a) : J (a : Nat) - J (b : Nat) = J ((a - b : Nat) : Int) := by
  rw [J_sub]
  congr 1
  omega
theorem divN {a b : Nat} (ha : a < 2147483648) (hb : 0 < b) (hb2 : b < 2147483648) : J (a : Nat) / J (b : Nat) = J ((a / b : Nat) : Int) := by
  rw [divJ (by omega) (by omega) (by omega) (by omega)]
  rfl
def ad (a b : Nat) : Nat := if a ≤ b then b - a else a - b
def ls (sp a b : Nat) : Nat := if sp = 0 then 0 else ad a b / sp
theorem absJ {a b : Nat} (ha : a < 1000000) (hb : b < 1000000) : fpJ9_abs_0f7a4 (J (a : Nat) - J (b : Nat)) = J (ad a b : Nat) := by
  unfold fpJ9_abs_0f7a4 ad
  rw [J_sub, J_0]
  by_cases h : a ≤ b
  · rw [if_pos h]
    by_cases h2 : a = b
    · subst h2
      rw [if_pos ((leJ (by omega) (by omega) (by omega) (by omega)).2 (by omega))]
      congr 1
      omega
    · rw [if_neg (fun z => by have := (leJ (by omega) (by omega) (by omega) (by omega)).1 z; omega), J_neg]
      congr 1
      omega
  · rw [if_neg h, if_pos ((leJ (by omega) (by omega) (by omega) (by omega)).2 (by omega))]
    congr 1
    omega
theorem farJ {a b : Nat} (ha : a < 1000000) (hb : b < 1000000) : fpX6_far (J (a : Nat)) (J (b : Nat)) = J (ad a b : Nat) := by
  unfold fpX6_far ad
  by_cases h : a ≤ b
  · rw [if_pos h]
    by_cases h2 : b ≤ a
    · rw [if_pos ((leN (by omega) (by omega)).2 h2), subN h2]
      congr 1
      omega
    · rw [if_neg (fun z => h2 ((leN (by omega) (by omega)).1 z)), subN h]
  · rw [if_neg h, if_pos ((leN (by omega) (by omega)).2 (by omega)), subN (by omega)]
theorem ad_lt {a b k : Nat} (ha : a < k) (hb : b < k) : ad a b < k := by
  unfold ad
  by_cases h : a ≤ b
  · rw [if_pos h]; omega
  · rw [if_neg h]; omega
theorem ls_lt {sp a b k : Nat} (ha : a < k) (hb : b < k) : ls sp a b < k := by
  unfold ls
  by_cases h : sp = 0
  · rw [if_pos h]; omega
  · rw [if_neg h]
    exact Nat.lt_of_le_of_lt (Nat.div_le_self _ _) (ad_lt ha hb)
theorem spX {sp a b : Nat} (ha : a < 1000000) (hb : b < 1000000) (hs : sp < 1000000) : fpX5_spiltBetween (J (a : Nat)) (J (b : Nat)) (J (sp : Nat)) = some (J (ls sp a b : Nat)) := by
  unfold fpX5_spiltBetween ls dvz
  by_cases h : sp = 0
  · subst h
    rw [if_pos rfl]
    rfl
  · have h2 : ¬ J (sp : Nat) = 0 := fun z => h ((eqN (b := 0) (by omega) (by omega)).1 z)
    rw [if_neg h2, if_neg h2, if_neg h, absJ ha hb, divN (Nat.lt_trans (ad_lt ha hb) (by decide)) (by omega) (by omega)]
theorem least0N {w l : Nat} (hw : w < 1000000) (hl : l < 1000000) : fpX6_least0 (J (w : Nat) - J (l : Nat)) = J ((w - l : Nat) : Int) := by
  unfold fpX6_least0
  rw [J_sub, J_0]
  by_cases h : l ≤ w
  · rw [if_pos ((leJ (by omega) (by omega) (by omega) (by omega)).2 (by omega))]
    congr 1
    omega
  · rw [if_neg (fun z => by have := (leJ (by omega) (by omega) (by omega) (by omega)).1 z; omega)]
    congr 1
    omega
theorem leftY {w a b sp : Nat} {M : Me} (hs : M.1 1 3 = J (sp : Nat)) (hw : w < 1000000) (ha : a < 1000000) (hb : b < 1000000) (hsp : sp < 1000000) : fpX6_left (J (w : Nat)) (J (a : Nat)) (J (b : Nat)) M = some (J ((w - ls sp a b : Nat) : Int)) := by
  unfold fpX6_left dvz
  rw [hs]
  have hl : ls sp a b < 1000000 := ls_lt ha hb
  unfold ls at hl ⊢
  by_cases h : sp = 0
  · subst h
    rw [if_pos rfl]
    rfl
  · have h2 : ¬ J (sp : Nat) = 0 := fun z => h ((eqN (b := 0) (by omega) (by omega)).1 z)
    rw [if_neg h] at hl ⊢
    rw [if_neg h2, if_neg h2, farJ ha hb, divN (Nat.lt_trans (ad_lt ha hb) (by decide)) (by omega) (by omega), least0N hw hl]
theorem minN {a b : Nat} (ha : a < 2147483648) (hb : b < 2147483648) : fpJ9_min_7cf53 (J (a : Nat)) (J (b : Nat)) = J (min a b : Nat) := by
  unfold fpJ9_min_7cf53
  by_cases h : b < a
  · rw [if_pos ((ltN hb ha).2 h)]
    congr 1
    omega
  · rw [if_neg (fun z => h ((ltN hb ha).1 z))]
    congr 1
    omega
theorem maxN {a b : Nat} (ha : a < 2147483648) (hb : b < 2147483648) : fpJ9_max_7cf53 (J (a : Nat)) (J (b : Nat)) = J (max a b : Nat) := by
  unfold fpJ9_max_7cf53
  by_cases h : a < b
  · rw [if_pos ((ltN ha hb).2 h)]
    congr 1
    omega
  · rw [if_neg (fun z => h ((ltN ha hb).1 z))]
    congr 1
    omega
theorem Rr.wS {n k : Nat} {M1 M2 : Me} {v : Int32} (R : Rr n M1 M2) (hk : k < 70) (h0 : k ≠ 0) (h2 : k ≠ 2) (h3 : loR k ≤ v.toInt) (h4 : v.toInt ≤ hiR n (M2.1 1 0).toInt (M2.1 1 2).toInt k) : Rr n (wrM M1 (1 + (rk k).1) (rk k).2 v) (wrM M2 1 k v) :=
  ⟨R.1.wr hk, by rw [wr_1]; exact R.2.up (Nat.le_refl n) h0 h2 h3 h4⟩
theorem Rr.wP {n p w : Nat} {M1 M2 : Me} {v : Int32} (R : Rr n M1 M2) (hp : p < 8) (hw : w < 6) (h3 : 0 ≤ v.toInt) (h4 : v.toInt ≤ [6, 99, 60, 11, (n : Int), 1].getD w 0) : Rr n (wrM M1 (1 + 3 + p) w v) (wrM M2 1 (12 + 6 * p + w) v) :=
  ⟨R.1.wrP hp hw, by rw [wr_1]; exact R.2.upP (Nat.le_refl n) hp hw h3 h4⟩
-- a day begins
def clX (r : Nat) : Nat → Me → Me
  | 0, M => M
  | i + 1, M => wrM (clX r i M) (r + 3 + i) 5 0
def clY : Nat → Me → Me
  | 0, M => M
  | i + 1, M => wrM (clY i M) 1 (12 + 6 * i + 5) 0
theorem clX_at {r k : Nat} {M : Me} : ∀ i, (clX r i M).1 r k = M.1 r k
  | 0 => rfl
  | i + 1 => by
    unfold clX
    rw [wrM_nr (by omega)]
    exact clX_at i
theorem clY_at {k : Nat} {M : Me} (hk : k < 12) : ∀ i, (clY i M).1 1 k = M.1 1 k
  | 0 => rfl
  | i + 1 => by
    unfold clY
    rw [wrM_nj (by omega)]
    exact clY_at hk i
theorem cl_R {n : Nat} {M1 M2 : Me} (R : Rr n M1 M2) : ∀ i, i ≤ 8 → Rr n (clX 1 i M1) (clY i M2)
  | 0, _ => R
  | i + 1, h => (cl_R R i (by omega)).wP (by omega) (by decide) (by decide) (show (0 : Int) ≤ 1 by decide)
theorem beginDay_e {r N dy : Nat} {h : Int32} {M : Me} (hd : M.1 r 10 = J (dy : Nat)) (hN : M.1 r 2 = J (N : Nat)) (h8 : N ≤ 8) : fpX2_beginDay r h M = some (clX r N (wrM (wrM M r 10 (J ((dy + 1 : Nat) : Int))) r 9 h)) := by
  unfold fpX2_beginDay
  simp only [letv, hd, J_succ]
  have e2 : ∀ i, (clX r i (wrM (wrM M r 10 (J ((dy + 1 : Nat) : Int))) r 9 h)).1 r 2 = J (N : Nat) := fun i => by
    rw [clX_at, wrM_nj (by decide), wrM_nj (by decide)]; exact hN
  generalize wrM (wrM M r 10 (J ((dy + 1 : Nat) : Int))) r 9 h = K at e2
  have e : lp (fpX2_beginDay_l17 r) FU (J ((0 : Nat) : Int), clX r 0 K) = some (clX r N K) := by
    refine lp_tr (fun i => (J (i : Nat), clX r i K)) N (by omega) (fun i hi => ?_) ?_
    · show fpX2_beginDay_l17s r (J (i : Nat)) (clX r i K) = _
      unfold fpX2_beginDay_l17s
      rw [e2, if_neg (fun z => by have := (leN (by omega) (by omega)).1 z; omega), inbJ (by omega) (by decide)]
      simp only [Option.bind_some, letv, J_succ]
      rfl
    · show fpX2_beginDay_l17s r (J (N : Nat)) (clX r N K) = _
      unfold fpX2_beginDay_l17s
      rw [e2, if_pos ((leN (by omega) (by omega)).2 (Nat.le_refl _))]
  rw [show ((0 : Int32), K) = (J ((0 : Nat) : Int), clX r 0 K) from rfl, e]
  rfl
theorem dawns_e {N dy : Nat} {M : Me} (hd : M.1 1 6 = J (dy : Nat)) (hN : M.1 1 0 = J (N : Nat)) (h8 : N ≤ 8) : fpX6_dawns M = some (clY N (wrM M 1 6 (J ((dy + 1 : Nat) : Int)))) := by
  unfold fpX6_dawns
  simp only [letv, hd, J_succ]
  have e2 : ∀ i, (clY i (wrM M 1 6 (J ((dy + 1 : Nat) : Int)))).1 1 0 = J (N : Nat) := fun i => by
    rw [clY_at (by decide), wrM_nj (by decide)]; exact hN
  generalize wrM M 1 6 (J ((dy + 1 : Nat) : Int)) = K at e2
  have e : lp fpX6_dawns_l13 FU (J ((0 : Nat) : Int), clY 0 K) = some (clY N K) := by
    refine lp_tr (fun i => (J (i : Nat), clY i K)) N (by omega) (fun i hi => ?_) ?_
    · show fpX6_dawns_l13s (J (i : Nat)) (clY i K) = _
      unfold fpX6_dawns_l13s
      have a5 : inb (fpX6_at (J (i : Nat)) (5 : Int32)) 70 = some (12 + 6 * i + 5) := inA (w := 5) (by omega) (by decide)
      rw [e2, if_neg (fun z => by have := (leN (by omega) (by omega)).1 z; omega), a5]
      simp only [Option.bind_some, letv, J_succ]
      rfl
    · show fpX6_dawns_l13s (J (N : Nat)) (clY N K) = _
      unfold fpX6_dawns_l13s
      rw [e2, if_pos ((leN (by omega) (by omega)).2 (Nat.le_refl _))]
  rw [show ((0 : Int32), K) = (J ((0 : Nat) : Int), clY 0 K) from rfl, e]
  rfl
theorem s11 : sim11 Rr := by
  intro n M1 M2 _ R
  show SM n _ _
  unfold fpX5_night fpX6_night
  have R' := R.mono (Nat.le_succ n)
  obtain ⟨dy, hd, hd'⟩ := ofI R.2.k6.1
  obtain ⟨N, hN, hN'⟩ := ofI R.2.k0.1
  have k6 := R.2.k6
  have k0 := R.2.k0
  have e10 : M1.1 1 10 = J (dy : Nat) := (R.1.1 6 (by decide)).trans hd
  have e2 : M1.1 1 2 = J (N : Nat) := (R.1.1 0 (by decide)).trans hN
  rw [e10, hd]
  by_cases h : dy < 999
  · refine .t1 ((ltN (b := 999) (by omega) (by omega)).2 h) (.f2 (fun z => by have := (eqN (b := 999) (by omega) (by omega)).1 z; omega) ?_)
    refine .b1 (beginDay_e e10 e2 (by omega)) ?_
    show SM n _ ((fpX6_dawns (wrM M2 1 5 0)).bind _)
    refine .b2 (dawns_e (dy := dy) (N := N) (by rw [wrM_nj (by decide)]; exact hd) (by rw [wrM_nj (by decide)]; exact hN) (by omega)) ?_
    rw [wrM_comm (r := 1) (j := 5) (by omega)]
    refine .e ?_ (cl_R ?_ N (by omega))
    · rw [clX_at, clY_at (by decide), wrM_nj (by decide), wrM_eq, wrM_nj (by decide), wrM_eq]
    · refine (R'.wS (k := 6) (by decide) (by decide) (by decide) ?_ ?_).wS (k := 5) (by decide) (by decide) (by decide) (by decide) (show (0 : Int) ≤ 23 by decide)
      · show (0 : Int) ≤ _
        rw [tJn (by omega)]; omega
      · show _ ≤ (999 : Int)
        rw [tJn (by omega)]; omega
  · exact .f1 (fun z => h ((ltN (b := 999) (by omega) (by omega)).1 z)) (.t2 ((eqN (b := 999) (by omega) (by omega)).2 (by omega)) (.fi R 4 (by decide) rfl rfl))
theorem s6 : sim6 Rr := by
  intro n M1 M2 a _ R
  show SM n _ _
  unfold fpX5_go fpX6_go
  by_cases h : 0 ≤ a.toInt ∧ a.toInt ≤ 99
  · refine .t1 (out0.2 h) (.f2 (fun z => im0.1 z h) ?_)
    have R' := R.mono (Nat.le_succ n)
    have k0 := R.2.k0
    have k2 := R.2.k2
    have k3 := R.2.k3
    have k5 := R.2.k5
    have k6 := R.2.k6
    have k7 := R.2.k7
    have k8 := R.2.k8
    obtain ⟨m, rfl, hm'⟩ := ofI h.1
    obtain ⟨N, hN, hN'⟩ := ofI k0.1
    obtain ⟨sp, hsp, hsp'⟩ := ofI k3.1
    obtain ⟨hr, hhr, hhr'⟩ := ofI k5.1
    obtain ⟨dy, hdy, hdy'⟩ := ofI k6.1
    obtain ⟨pl, hpl, hpl'⟩ := ofI k7.1
    obtain ⟨w, hw, hw'⟩ := ofI k8.1
    have e2 : M1.1 1 2 = J (N : Nat) := (R.1.1 0 (by decide)).trans hN
    have e7 : M1.1 1 7 = J (sp : Nat) := (R.1.1 3 (by decide)).trans hsp
    have e9 : M1.1 1 9 = J (hr : Nat) := (R.1.1 5 (by decide)).trans hhr
    have e10 : M1.1 1 10 = J (dy : Nat) := (R.1.1 6 (by decide)).trans hdy
    have e3 : M1.1 1 3 = J (pl : Nat) := (R.1.1 7 (by decide)).trans hpl
    have e4 : M1.1 1 4 = J (w : Nat) := (R.1.1 8 (by decide)).trans hw
    have e11 : M1.1 1 11 = M2.1 1 10 := R.1.1 10 (by decide)
    have ed : (J (ad pl m : Nat)) / (10 : Int32) = J ((ad pl m / 10 : Nat) : Int) := divN (b := 10) (Nat.lt_trans (ad_lt (k := 100) (by omega) (by omega)) (by decide)) (by decide) (by decide)
    have had : ad pl m < 100 := ad_lt (by omega) (by omega)
    have hl : ls sp pl m < 100 := ls_lt (by omega) (by omega)
    simp only [letv]
    rw [e9, e3, e10, hhr, hpl, hdy, absJ (by omega) (by omega), farJ (by omega) (by omega), ed, addN]
    generalize hv : hr + ad pl m / 10 = v
    have hv33 : v < 33 := by omega
    generalize hle : ls sp pl m = l at hl
    have main : (v < 24 ∨ dy < 999) → SM n (fpX5_go_b65 (J (m : Nat)) (J (v : Nat)) M1) (fpX6_go_b62 (J (m : Nat)) (J (v : Nat)) M2) := by
      intro hvd
      unfold fpX5_go_b65 fpX6_go_b62
      have hC : fpX2_carryTo 1 (J (m : Nat)) M1 = some (wrM (wrM (wrM M1 1 4 (J ((w - l : Nat) : Int))) 1 11 (M2.1 1 10 + J ((min w l : Nat) : Int))) 1 3 (J (m : Nat))) := by
        unfold fpX2_carryTo
        rw [e3, e7, spX (by omega) (by omega) (by omega), hle]
        simp only [Option.bind_some, letv]
        rw [e4, minN (by omega) (by omega), subN (by omega), wrM_nj (by decide), e11, show w - min w l = w - l by omega]
      refine .b1 hC ?_
      rw [hw, hpl]
      refine .b2 (leftY hsp (by omega) (by omega) (by omega) (by omega)) ?_
      rw [hle]
      simp only [letv]
      have ev : J (w : Nat) - J ((w - l : Nat) : Int) = J ((min w l : Nat) : Int) := by
        rw [subN (by omega), show w - (w - l) = min w l by omega]
      rw [ev, wrM_comm (r := 1) (j := 10) (r' := 1) (j' := 8) (by decide)]
      have RC : Rr (n + 1) (wrM (wrM (wrM M1 1 4 (J ((w - l : Nat) : Int))) 1 11 (M2.1 1 10 + J ((min w l : Nat) : Int))) 1 3 (J (m : Nat))) (wrM (wrM (wrM M2 1 8 (J ((w - l : Nat) : Int))) 1 10 (M2.1 1 10 + J ((min w l : Nat) : Int))) 1 7 (J (m : Nat))) := by
        refine ((R'.wS (k := 8) (by decide) (by decide) (by decide) ?_ ?_).wS (k := 10) (by decide) (by decide) (by decide) (tlo _) (Int.le_of_lt_add_one (thi _))).wS (k := 7) (by decide) (by decide) (by decide) ?_ ?_
        · show (0 : Int) ≤ _
          rw [tJn (by omega)]; omega
        · show _ ≤ (M2.1 1 2).toInt
          rw [tJn (by omega)]; omega
        · show (0 : Int) ≤ _
          rw [tJn (by omega)]; omega
        · show _ ≤ (99 : Int)
          rw [tJn (by omega)]; omega
      have g4 : (wrM (wrM (wrM M1 1 4 (J ((w - l : Nat) : Int))) 1 11 (M2.1 1 10 + J ((min w l : Nat) : Int))) 1 3 (J (m : Nat))).1 1 4 = J ((w - l : Nat) : Int) := by rw [wrM_nj (by decide), wrM_nj (by decide), wrM_eq]
      have g10 : (wrM (wrM (wrM M1 1 4 (J ((w - l : Nat) : Int))) 1 11 (M2.1 1 10 + J ((min w l : Nat) : Int))) 1 3 (J (m : Nat))).1 1 10 = J (dy : Nat) := by rw [wrM_nj (by decide), wrM_nj (by decide), wrM_nj (by decide)]; exact e10
      have g2 : (wrM (wrM (wrM M1 1 4 (J ((w - l : Nat) : Int))) 1 11 (M2.1 1 10 + J ((min w l : Nat) : Int))) 1 3 (J (m : Nat))).1 1 2 = J (N : Nat) := by rw [wrM_nj (by decide), wrM_nj (by decide), wrM_nj (by decide)]; exact e2
      have d6 : (wrM (wrM (wrM M2 1 8 (J ((w - l : Nat) : Int))) 1 10 (M2.1 1 10 + J ((min w l : Nat) : Int))) 1 7 (J (m : Nat))).1 1 6 = J (dy : Nat) := by rw [wrM_nj (by decide), wrM_nj (by decide), wrM_nj (by decide)]; exact hdy
      have d0 : (wrM (wrM (wrM M2 1 8 (J ((w - l : Nat) : Int))) 1 10 (M2.1 1 10 + J ((min w l : Nat) : Int))) 1 7 (J (m : Nat))).1 1 0 = J (N : Nat) := by rw [wrM_nj (by decide), wrM_nj (by decide), wrM_nj (by decide)]; exact hN
      generalize wrM (wrM (wrM M1 1 4 (J ((w - l : Nat) : Int))) 1 11 (M2.1 1 10 + J ((min w l : Nat) : Int))) 1 3 (J (m : Nat)) = C at RC g4 g10 g2
      generalize wrM (wrM (wrM M2 1 8 (J ((w - l : Nat) : Int))) 1 10 (M2.1 1 10 + J ((min w l : Nat) : Int))) 1 7 (J (m : Nat)) = D at RC d6 d0
      have ej : jrem (J (v : Nat)) (24 : Int32) = J ((v % 24 : Nat) : Int) := jremJ (b := 24) (by omega) (by omega) (by omega) (by omega)
      rw [ej]
      by_cases h24 : v < 24
      · refine .t1 ((ltN (b := 24) (by omega) (by omega)).2 h24) (.t2 ((leN (b := 23) (by omega) (by omega)).2 (by omega)) ?_)
        rw [Nat.mod_eq_of_lt h24]
        refine .e ?_ (RC.wS (k := 5) (by decide) (by decide) (by decide) ?_ ?_)
        · rw [wrM_nj (by decide)]; exact g4
        · show (0 : Int) ≤ _
          rw [tJn (by omega)]; omega
        · show _ ≤ (23 : Int)
          rw [tJn (by omega)]; omega
      · refine .f1 (fun z => h24 ((ltN (b := 24) (by omega) (by omega)).1 z)) (.f2 (fun z => h24 (by have := (leN (b := 23) (by omega) (by omega)).1 z; omega)) ?_)
        have e24 : J (v : Nat) - (24 : Int32) = J ((v - 24 : Nat) : Int) := subN (b := 24) (by omega)
        rw [e24, show v % 24 = v - 24 by omega]
        refine .b1 (beginDay_e g10 g2 (by omega)) (.b2 (dawns_e (dy := dy) (N := N) (by rw [wrM_nj (by decide)]; exact d6) (by rw [wrM_nj (by decide)]; exact d0) (by omega)) ?_)
        rw [wrM_comm (M := D) (r := 1) (j := 5) (by omega)]
        refine .e ?_ (cl_R ?_ N (by omega))
        · rw [clX_at, wrM_nj (by decide), wrM_nj (by decide)]; exact g4
        · refine (RC.wS (k := 6) (by decide) (by decide) (by decide) ?_ ?_).wS (k := 5) (by decide) (by decide) (by decide) ?_ ?_
          · show (0 : Int) ≤ _
            rw [tJn (by omega)]; omega
          · show _ ≤ (999 : Int)
            rw [tJn (by omega)]; omega
          · show (0 : Int) ≤ _
            rw [tJn (by omega)]; omega
          · show _ ≤ (23 : Int)
            rw [tJn (by omega)]; omega
    by_cases h24 : v < 24
    · exact .t1 ((ltN (b := 24) (by omega) (by omega)).2 h24) (.t2 ((leN (b := 23) (by omega) (by omega)).2 (by omega)) (main (Or.inl h24)))
    · refine .f1 (fun z => h24 ((ltN (b := 24) (by omega) (by omega)).1 z)) (.f2 (fun z => h24 (by have := (leN (b := 23) (by omega) (by omega)).1 z; omega)) ?_)
      by_cases hd9 : dy < 999
      · exact .t1 ((ltN (b := 999) (by omega) (by omega)).2 hd9) (.f2 (fun z => by have := (eqN (b := 999) (by omega) (by omega)).1 z; omega) (main (Or.inr hd9)))
      · exact .f1 (fun z => hd9 ((ltN (b := 999) (by omega) (by omega)).1 z)) (.t2 ((eqN (b := 999) (by omega) (by omega)).2 (by omega)) (.fi R 4 (by decide) rfl rfl))
  · exact .f1 (fun z => h (out0.1 z)) (.t2 (im0.2 h) (.fi R 0 (by decide) rfl rfl))
