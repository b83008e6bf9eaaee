/-! run, rust, wipe, feed, as, tear, count, status -/
def yn (k g u d h : Nat) : Nat := if k = 2 then 1 else if k = 3 then g - d - u else if k = 4 then (g - d) / 2 else if k = 5 then (if 9 ≤ h then g - d else g - d + 3) else if k = 6 then (if h < 12 then g - d - u else 0) else g - d
def nn (k y : Nat) : Nat := if k = 1 then (y + 1) / 2 else if k = 2 then 0 else if k = 4 then (y + 1) / 2 else if k = 6 then (y + 2) / 3 + 1 else (y + 2) / 3
theorem YqN {k g u d h : Nat} (hk : k < 1000000) (hg : g < 1000000) (hu : u < 1000000) (hd : d < 1000000) (hh : h < 1000000) : Yq (J (k : Nat)) (J (g : Nat)) (J (u : Nat)) (J (d : Nat)) (J (h : Nat)) = J (yn k g u d h : Nat) := by
  unfold Yq yn
  rw [least0N hg hd, least0N (by omega) hu]
  have ek : ∀ c : Nat, c < 10 → (J (k : Nat) = J (c : Nat) ↔ k = c) := fun c hc => eqN (by omega) (by omega)
  have q1 : J (k : Nat) = (1 : Int32) ↔ k = 1 := ek 1 (by decide)
  have q2 : J (k : Nat) = (2 : Int32) ↔ k = 2 := ek 2 (by decide)
  have q3 : J (k : Nat) = (3 : Int32) ↔ k = 3 := ek 3 (by decide)
  have q4 : J (k : Nat) = (4 : Int32) ↔ k = 4 := ek 4 (by decide)
  have q5 : J (k : Nat) = (5 : Int32) ↔ k = 5 := ek 5 (by decide)
  have q6 : J (k : Nat) = (6 : Int32) ↔ k = 6 := ek 6 (by decide)
  have q9 : (9 : Int32) ≤ J (h : Nat) ↔ 9 ≤ h := leN (a := 9) (by omega) (by omega)
  have q12 : J (h : Nat) < (12 : Int32) ↔ h < 12 := ltN (b := 12) (by omega) (by omega)
  by_cases h2 : k = 2
  · rw [if_pos (q2.2 h2), if_pos h2]; rfl
  rw [if_neg (fun z => h2 (q2.1 z)), if_neg h2]
  by_cases h3 : k = 3
  · rw [if_pos (q3.2 h3), if_pos h3]
  rw [if_neg (fun z => h3 (q3.1 z)), if_neg h3]
  by_cases h4 : k = 4
  · rw [if_pos (q4.2 h4), if_pos h4]
    exact divN (b := 2) (by omega) (by decide) (by decide)
  rw [if_neg (fun z => h4 (q4.1 z)), if_neg h4]
  by_cases h5 : k = 5
  · rw [if_pos (q5.2 h5), if_pos h5]
    by_cases h9 : 9 ≤ h
    · rw [if_pos (q9.2 h9), if_pos h9]
    · rw [if_neg (fun z => h9 (q9.1 z)), if_neg h9]
      exact addN (g - d) 3
  rw [if_neg (fun z => h5 (q5.1 z)), if_neg h5]
  by_cases h6 : k = 6
  · rw [if_pos (q6.2 h6), if_pos h6]
    by_cases h9 : h < 12
    · rw [if_pos (q12.2 h9), if_pos h9]
    · rw [if_neg (fun z => h9 (q12.1 z)), if_neg h9]
      rfl
  rw [if_neg (fun z => h6 (q6.1 z)), if_neg h6]
theorem NqN {k y : Nat} (hk : k < 1000000) (hy : y < 1000000) : Nq (J (k : Nat)) (J (y : Nat)) = J (nn k y : Nat) := by
  unfold Nq nn
  have ek : ∀ c : Nat, c < 10 → (J (k : Nat) = J (c : Nat) ↔ k = c) := fun c hc => eqN (by omega) (by omega)
  have q1 : J (k : Nat) = (1 : Int32) ↔ k = 1 := ek 1 (by decide)
  have q2 : J (k : Nat) = (2 : Int32) ↔ k = 2 := ek 2 (by decide)
  have q3 : J (k : Nat) = (3 : Int32) ↔ k = 3 := ek 3 (by decide)
  have q4 : J (k : Nat) = (4 : Int32) ↔ k = 4 := ek 4 (by decide)
  have q5 : J (k : Nat) = (5 : Int32) ↔ k = 5 := ek 5 (by decide)
  have q6 : J (k : Nat) = (6 : Int32) ↔ k = 6 := ek 6 (by decide)
  have e1 : (J (y : Nat) + 1) / (2 : Int32) = J (((y + 1) / 2 : Nat) : Int) := by
    rw [J_succ]
    exact divN (b := 2) (by omega) (by decide) (by decide)
  have e2 : (J (y : Nat) + 2) / (3 : Int32) = J (((y + 2) / 3 : Nat) : Int) := by
    rw [show J (y : Nat) + (2 : Int32) = J ((y + 2 : Nat) : Int) from addN y 2]
    exact divN (b := 3) (by omega) (by decide) (by decide)
  rw [e1, e2]
  by_cases h1 : k = 1
  · rw [if_pos (q1.2 h1), if_pos h1]
  rw [if_neg (fun z => h1 (q1.1 z)), if_neg h1]
  by_cases h2 : k = 2
  · rw [if_pos (q2.2 h2), if_pos h2]; rfl
  rw [if_neg (fun z => h2 (q2.1 z)), if_neg h2]
  by_cases h4 : k = 4
  · rw [if_pos (q4.2 h4), if_pos h4]
  rw [if_neg (fun z => h4 (q4.1 z)), if_neg h4]
  by_cases h6 : k = 6
  · rw [if_pos (q6.2 h6), if_pos h6]
    exact J_succ _
  rw [if_neg (fun z => h6 (q6.1 z)), if_neg h6]
theorem yn_le {k g u d h : Nat} (hg : g ≤ 60) : yn k g u d h ≤ 63 := by
  unfold yn
  repeat' split
  all_goals omega
theorem nn_le {k y : Nat} (hy : y ≤ 63) : nn k y ≤ 33 := by
  unfold nn
  repeat' split
  all_goals omega
def vn (s : Nat → Int32) (i : Nat) : Nat := (s i).toInt.toNat
theorem vn_J {s : Nat → Int32} {i : Nat} (h : 0 ≤ (s i).toInt) : s i = J (vn s i : Nat) := by
  unfold vn
  rw [Int.toNat_of_nonneg h, J_t]
theorem vn_of {s : Nat → Int32} {i k : Nat} (h : s i = J (k : Nat)) (hk : k < 2147483648) : vn s i = k := by
  unfold vn
  rw [h, tJn hk]
  rfl
def yP (s : Nat → Int32) (d p : Nat) : Nat := yn (vn s (12 + 6 * p)) (vn s (12 + 6 * p + 2)) (vn s (12 + 6 * p + 4)) d (vn s 5)
def nP (s : Nat → Int32) (d p : Nat) : Nat := nn (vn s (12 + 6 * p)) (yP s d p)
theorem RO.vP {n p w : Nat} {s : Nat → Int32} (h : RO n s) (hn : n ≤ 1000) (hp : p < 8) (hw : w < 6) : vn s (12 + 6 * p + w) < 1001 := by
  have := h.p hp hw
  unfold vn
  have h2 : [6, 99, 60, 11, (n : Int), 1].getD w 0 ≤ 1000 := by
    match w, hw with
    | 0, _ => exact (show (6 : Int) ≤ 1000 by decide)
    | 1, _ => exact (show (99 : Int) ≤ 1000 by decide)
    | 2, _ => exact (show (60 : Int) ≤ 1000 by decide)
    | 3, _ => exact (show (11 : Int) ≤ 1000 by decide)
    | 4, _ => exact (show (n : Int) ≤ 1000 by omega)
    | 5, _ => exact (show (1 : Int) ≤ 1000 by decide)
    | w + 6, h => omega
  omega
theorem Yp_e {n d p : Nat} {s : Nat → Int32} (h : RO n s) (hn : n ≤ 1000) (hp : p < 8) (hd : d < 1000000) : Yp s (J (d : Nat)) p = J (yP s d p : Nat) := by
  unfold Yp yP
  have k5 := h.k5
  have e0 : s (12 + 6 * p) = J (vn s (12 + 6 * p) : Nat) := vn_J (h.p hp (w := 0) (by decide)).1
  have b0 : vn s (12 + 6 * p) < 1001 := h.vP hn hp (w := 0) (by decide)
  have b2 := h.vP hn hp (w := 2) (by decide)
  have b4 := h.vP hn hp (w := 4) (by decide)
  have b5 : vn s 5 < 24 := by unfold vn; omega
  rw [e0, vn_J (h.p hp (w := 2) (by decide)).1, vn_J (h.p hp (w := 4) (by decide)).1, vn_J k5.1, YqN (by omega) (by omega) (by omega) hd (by omega)]
theorem yP_le {n d p : Nat} {s : Nat → Int32} (h : RO n s) (hp : p < 8) : yP s d p ≤ 63 := by
  refine yn_le ?_
  have : 0 ≤ (s (12 + 6 * p + 2)).toInt ∧ (s (12 + 6 * p + 2)).toInt ≤ 60 := h.p hp (w := 2) (by decide)
  unfold vn
  omega
theorem Np_e {n d p : Nat} {s : Nat → Int32} (h : RO n s) (hn : n ≤ 1000) (hp : p < 8) (hd : d < 1000000) : Np s (J (d : Nat)) p = J (nP s d p : Nat) := by
  unfold Np nP
  have e0 : s (12 + 6 * p) = J (vn s (12 + 6 * p) : Nat) := vn_J (h.p hp (w := 0) (by decide)).1
  have b0 : vn s (12 + 6 * p) < 1001 := h.vP hn hp (w := 0) (by decide)
  have b1 : yP s d p ≤ 63 := yP_le h hp
  rw [Yp_e h hn hp hd, e0, NqN (by omega) (by omega)]
theorem nP_le {n d p : Nat} {s : Nat → Int32} (h : RO n s) (hp : p < 8) : nP s d p ≤ 33 := nn_le (yP_le h hp)
theorem wrM_id {M : Me} {r j : Nat} {v : Int32} (h : M.1 r j = v) : wrM M r j v = M := by
  refine me_ext (fun a b => ?_) rfl
  rw [wrM_at]
  by_cases z : a = r ∧ b = j
  · rw [if_pos z, z.1, z.2]; exact h.symm
  · rw [if_neg z]
theorem ty {M : Me} {k : Nat} {v : Int32} {p d : Nat} (hk : k = 1 ∨ k = 8) : yP ((wrM M 1 k v).1 1) d p = yP (M.1 1) d p := by
  rw [wr_1]
  unfold yP vn
  rw [upd_ne (by omega), upd_ne (by omega), upd_ne (by omega), upd_ne (by omega)]
theorem J0e (x : Int32) : x + 0 = x := by simp
theorem runOk {n p w rm y nd : Nat} {K1 K2 : Me} (hp : p < 8) (R : Rr (n + 1) K1 K2) (hn : n < 512) (hw : K2.1 1 8 = J (w : Nat)) (hrm : K2.1 1 2 = J (rm : Nat)) (hwr : w ≤ rm) (hrm9 : rm ≤ 999) (hy : fpX6_yieldOf (J (p : Nat)) K2 = some (J (y : Nat))) (hnd : fpX6_needOf (J (p : Nat)) K2 = some (J (nd : Nat))) (hy6 : y ≤ 63) (hn6 : nd ≤ w) (hu : (K2.1 1 (12 + 6 * p + 4)).toInt ≤ n) : ∃ N1 N2, fpX2_tryPump_b49 1 (1 + 3 + p) (J (y : Nat)) (wrM K1 1 4 (J ((w - nd : Nat) : Int))) = some N1 ∧ fpX6_run_b87 (J (p : Nat)) 0 K2 = some (N1.1 1 4, N2) ∧ Rr (n + 1) N1 N2 := by
  have e6 : K1.1 1 6 = J (rm : Nat) := (R.1.1 2 (by decide)).trans hrm
  have e12 : K1.1 1 12 = K2.1 1 11 := R.1.1 11 (by decide)
  have e4 := R.1.1.p hp (w := 4) (by decide)
  have hu0 := (R.2.p hp (w := 4) (by decide)).1
  refine ⟨wrM (wrM (wrM (wrM K1 1 4 (J ((min rm (w - nd + y) : Nat) : Int))) 1 12 (K2.1 1 11 + J ((w - nd + y - rm : Nat) : Int))) (1 + 3 + p) 4 (K2.1 1 (12 + 6 * p + 4) + 1)) (1 + 3 + p) 5 1, wrM (wrM (wrM (wrM K2 1 8 (J ((min rm (w - nd + y) : Nat) : Int))) 1 11 (K2.1 1 11 + J ((w - nd + y - rm : Nat) : Int))) 1 (12 + 6 * p + 4) (K2.1 1 (12 + 6 * p + 4) + 1)) 1 (12 + 6 * p + 5) 1, ?_, ?_, ?_⟩
  · unfold fpX2_tryPump_b49
    simp only [letv, wrM_eq]
    rw [wrM_nj (by decide : (6 : Nat) ≠ 4), e6, addN, max0, least0N (by omega) (by omega)]
    have ev : J ((w - nd : Nat) : Int) + (J (y : Nat) - J ((w - nd + y - rm : Nat) : Int)) = J ((min rm (w - nd + y) : Nat) : Int) := by
      rw [J_sub, J_add]
      congr 1
      omega
    rw [ev, wrM_wr, wrM_nj (by decide : (12 : Nat) ≠ 4), e12, wrM_nr (show 1 + 3 + p ≠ 1 by omega), wrM_nr (show 1 + 3 + p ≠ 1 by omega), e4]
  · unfold fpX6_run_b87
    have a4 : inb (fpX6_at (J (p : Nat)) (4 : Int32)) 70 = some (12 + 6 * p + 4) := inA (w := 4) hp (by decide)
    have a5 : inb (fpX6_at (J (p : Nat)) (5 : Int32)) 70 = some (12 + 6 * p + 5) := inA (w := 5) hp (by decide)
    rw [hnd, hy, hw]
    simp only [Option.bind_some, if_pos, fpX6_run_b113, fpX6_run_b171, fpX6_run_b191, letv, a4, a5]
    rw [subN hn6, addN, hrm, least0N (by omega) (by omega)]
    have ev : J ((w - nd + y : Nat) : Int) - J ((w - nd + y - rm : Nat) : Int) = J ((min rm (w - nd + y) : Nat) : Int) := by
      rw [J_sub]
      congr 1
      omega
    rw [ev, wrM_nj (by decide : (11 : Nat) ≠ 8), wrM_nj (show 12 + 6 * p + 4 ≠ 11 by omega), wrM_nj (show 12 + 6 * p + 4 ≠ 8 by omega)]
    congr 2
    rw [wrM_nj (show 8 ≠ 12 + 6 * p + 5 by omega), wrM_nj (show 8 ≠ 12 + 6 * p + 4 by omega), wrM_nj (by decide), wrM_eq, wrM_nr (show 1 ≠ 1 + 3 + p by omega), wrM_nr (show 1 ≠ 1 + 3 + p by omega), wrM_nj (by decide), wrM_eq]
  · have hu1 : (K2.1 1 (12 + 6 * p + 4) + 1).toInt = (K2.1 1 (12 + 6 * p + 4)).toInt + 1 := by
      have : K2.1 1 (12 + 6 * p + 4) + 1 = J ((K2.1 1 (12 + 6 * p + 4)).toInt + 1) := by rw [← J_add, J_t]; rfl
      rw [this, tJ (by omega) (by omega)]
    refine (((R.wS (k := 8) (by decide) (by decide) (by decide) ?_ ?_).wS (k := 11) (by decide) (by decide) (by decide) (tlo _) (Int.le_of_lt_add_one (thi _))).wP hp (w := 4) (by decide) ?_ ?_).wP hp (w := 5) (by decide) (by decide) (show (1 : Int) ≤ 1 by decide)
    · show (0 : Int) ≤ _
      rw [tJn (by omega)]; omega
    · show _ ≤ (K2.1 1 2).toInt
      rw [tJn (by omega), hrm, tJn (by omega)]; omega
    · rw [hu1]; omega
    · show _ ≤ ((n + 1 : Nat) : Int)
      rw [hu1]; omega
theorem runNo {n p w rm nd : Nat} {K1 K2 : Me} (hp : p < 8) (R : Rr (n + 1) K1 K2) (hw : K2.1 1 8 = J (w : Nat)) (hrm : K2.1 1 2 = J (rm : Nat)) (hwr : w ≤ rm) (hrm9 : rm ≤ 999) (hnd : fpX6_needOf (J (p : Nat)) K2 = some (J (nd : Nat))) (hn6 : nd ≤ w) (ht : K2.1 1 (12 + 6 * p + 5) = 0) : ∃ N2, fpX6_run_b87 (J (p : Nat)) 1 K2 = some (J ((w - nd : Nat) : Int), N2) ∧ Rr (n + 1) (wrM K1 1 4 (J ((w - nd : Nat) : Int))) N2 := by
  refine ⟨wrM K2 1 8 (J ((w - nd : Nat) : Int)), ?_, R.wS (k := 8) (by decide) (by decide) (by decide) ?_ ?_⟩
  · unfold fpX6_run_b87
    have a4 : inb (fpX6_at (J (p : Nat)) (4 : Int32)) 70 = some (12 + 6 * p + 4) := inA (w := 4) hp (by decide)
    have a5 : inb (fpX6_at (J (p : Nat)) (5 : Int32)) 70 = some (12 + 6 * p + 5) := inA (w := 5) hp (by decide)
    rw [hnd, hw]
    simp only [Option.bind_some, fpX6_run_b113, fpX6_run_b171, fpX6_run_b191, letv, a4, a5]
    rw [if_neg (by decide), if_neg (by decide), if_neg (by decide), subN hn6, J0e, hrm, least0N (by omega) (by omega), show w - nd - rm = 0 by omega]
    have ev : J ((w - nd : Nat) : Int) - J ((0 : Nat) : Int) = J ((w - nd : Nat) : Int) := subN (Nat.zero_le _)
    have e0 : ∀ x : Int32, x + J ((0 : Nat) : Int) = x := fun x => J0e x
    rw [ev, e0, J0e, wrM_id (r := 1) (j := 11) rfl, wrM_id (r := 1) (j := 12 + 6 * p + 4) rfl, wrM_id (r := 1) (j := 12 + 6 * p + 5) (by rw [wrM_nj (by omega)]; exact ht), wrM_eq]
  · show (0 : Int) ≤ _
    rw [tJn (by omega)]; omega
  · show _ ≤ (K2.1 1 2).toInt
    rw [tJn (by omega), hrm, tJn (by omega)]; omega
def zz (x : Int32) : Int32 := x * 1103515245 + 12345
theorem drawX {r : Nat} {M : Me} : fpX2_draw r M = some (jushr (zz (M.1 r 13)) 8, wrM M r 13 (zz (M.1 r 13))) := by
  unfold fpX2_draw zz
  simp only [letv, wrM_eq]
theorem drawY {M : Me} : fpX6_draw M = some (jushr (zz (M.1 1 1)) 8, wrM M 1 1 (zz (M.1 1 1))) := by
  unfold fpX6_draw zz
  simp only [letv, wrM_eq]
theorem yE {n d p : Nat} {M : Me} (h : RO n (M.1 1)) (hn : n ≤ 1000) (hp : p < 8) (hd : M.1 1 4 = J (d : Nat)) (hd9 : d < 1000000) : fpX6_yieldOf (J (p : Nat)) M = some (J (yP (M.1 1) d p : Nat)) := by rw [yY hp, hd, Yp_e h hn hp hd9]
theorem nE {n d p : Nat} {M : Me} (h : RO n (M.1 1)) (hn : n ≤ 1000) (hp : p < 8) (hd : M.1 1 4 = J (d : Nat)) (hd9 : d < 1000000) : fpX6_needOf (J (p : Nat)) M = some (J (nP (M.1 1) d p : Nat)) := by rw [nY hp, hd, Np_e h hn hp hd9]
theorem Rr.wZ {n : Nat} {M1 M2 : Me} {v : Int32} (R : Rr n M1 M2) : Rr n (wrM M1 1 13 v) (wrM M2 1 1 v) := R.wS (k := 1) (by decide) (by decide) (by decide) (tlo v) (Int.le_of_lt_add_one (thi v))
theorem tpD {p : Nat} {jz y f : Int32} {W : Me} (hf : W.1 (1 + 3 + p) 3 = f) : (Option.bind (some (jz, W)) fun q11 => if (q11.2.1 (1 + 3 + p) 3) ≤ (jrem q11.1 (12 : Int32)) then fpX2_tryPump_b49 1 (1 + 3 + p) y q11.2 else some q11.2) = if f ≤ jrem jz 12 then fpX2_tryPump_b49 1 (1 + 3 + p) y W else some W := by
  subst hf
  rfl
theorem s7 : sim7 Rr := by
  intro n M1 M2 a hn R
  show SM n _ _
  unfold fpX5_run fpX6_run
  have k0 := R.2.k0
  have k2 := R.2.k2
  have k4 := R.2.k4
  have k8 := R.2.k8
  have R' := R.mono (Nat.le_succ n)
  by_cases h : 0 ≤ a.toInt ∧ a.toInt < (M2.1 1 0).toInt
  · refine .f1 (fun z => (h0P R).1 z h) (.f2 (fun z => (isP0 k0).1 z h) ?_)
    obtain ⟨p, rfl, hpe⟩ := ofI h.1
    have hp : p < 8 := by omega
    refine .b1 (inbJ hp (by decide)) (.b2 (itsE (w := 1) hp (by decide)) ?_)
    have e3 : M1.1 1 3 = M2.1 1 7 := R.1.1 7 (by decide)
    rw [R.1.1.p hp (w := 1) (by decide), e3]
    by_cases hm : M2.1 1 (12 + 6 * p + 1) = M2.1 1 7
    · refine .t1 hm (.t2 hm ?_)
      rw [canX R.1.1 hp, can1 hp]
      refine .b1 rfl (.b2 rfl ?_)
      obtain ⟨d, hd, hd'⟩ := ofI k4.1
      obtain ⟨w, hw, hw'⟩ := ofI k8.1
      obtain ⟨rm, hrm, hrm'⟩ := ofI (show 0 ≤ (M2.1 1 2).toInt by omega)
      rw [hd, Yp_e R.2 (by omega) hp (by omega), Np_e R.2 (by omega) hp (by omega)]
      have hy6 : yP (M2.1 1) d p ≤ 63 := yP_le R.2 hp
      have hn3 : nP (M2.1 1) d p ≤ 33 := nP_le R.2 hp
      have hyE : fpX6_yieldOf (J (p : Nat)) M2 = some (J (yP (M2.1 1) d p : Nat)) := by rw [yY hp, hd, Yp_e R.2 (by omega) hp (by omega)]
      have hnE : fpX6_needOf (J (p : Nat)) M2 = some (J (nP (M2.1 1) d p : Nat)) := by rw [nY hp, hd, Np_e R.2 (by omega) hp (by omega)]
      have hyX : fpX2_yieldOf 1 (J (p : Nat)) M1 = some (J (yP (M2.1 1) d p : Nat)) := by rw [yOf R.1.1 hp, hd, Yp_e R.2 (by omega) hp (by omega)]
      have hnX : fpX2_needOf 1 (J (p : Nat)) M1 = some (J (nP (M2.1 1) d p : Nat)) := by rw [nOf R.1.1 hp, hd, Np_e R.2 (by omega) hp (by omega)]
      by_cases hc : M2.1 1 (12 + 6 * p + 5) = 0 ∧ 0 < (J (yP (M2.1 1) d p : Nat)).toInt ∧ (J (nP (M2.1 1) d p : Nat)).toInt ≤ (M2.1 1 8).toInt
      · rw [if_pos hc]
        refine .f1 (by decide) (.f2 (by decide) ?_)
        obtain ⟨ht, -, hnw⟩ := hc
        rw [tJn (by omega)] at hnw
        have hnw' : nP (M2.1 1) d p ≤ w := by omega
        have e4 : M1.1 1 4 = J (w : Nat) := (R.1.1 8 (by decide)).trans hw
        have hu : (M2.1 1 (12 + 6 * p + 4)).toInt ≤ n := (R.2.p hp (w := 4) (by decide)).2
        have ef := R.1.1.p hp (w := 3) (by decide)
        unfold fpX2_tryPump
        rw [inbJ hp (by decide), hyX, hnX]
        simp only [Option.bind_some, letv]
        rw [e4, subN hnw', wrM_nr (show 1 + 3 + p ≠ 1 by omega), ef]
        refine .b2 (itsE (w := 3) hp (by decide)) ?_
        by_cases hf : M2.1 1 (12 + 6 * p + 3) ≤ 0
        · rw [if_pos hf]
          refine .t2 hf ?_
          obtain ⟨N1, N2, q1, q2, q3⟩ := runOk hp R' hn hw hrm (by omega) (by omega) hyE hnE hy6 hnw' hu
          refine .b1 q1 ?_
          unfold fpX6_run_b60
          refine .t2 rfl ?_
          rw [q2]
          exact .e rfl q3
        · rw [if_neg hf]
          refine .f2 hf ?_
          unfold fpX6_run_b60
          refine .f2 (by decide) ?_
          have ez : M1.1 1 13 = M2.1 1 1 := R.1.1 1 (by decide)
          rw [drawX, drawY, wrM_nj (show (13 : Nat) ≠ 4 by decide), ez, wrM_comm (M := M1) (r := 1) (j := 4) (r' := 1) (j' := 13) (by decide)]
          generalize jushr (zz (M2.1 1 1)) 8 = jz
          generalize zz (M2.1 1 1) = z
          refine .b2 rfl ?_
          have RK : Rr (n + 1) (wrM M1 1 13 z) (wrM M2 1 1 z) := R'.wZ
          have w8 : (wrM M2 1 1 z).1 1 8 = J (w : Nat) := by rw [wrM_nj (by decide)]; exact hw
          have w2 : (wrM M2 1 1 z).1 1 2 = J (rm : Nat) := by rw [wrM_nj (by decide)]; exact hrm
          have w4 : (wrM M2 1 1 z).1 1 4 = J (d : Nat) := by rw [wrM_nj (by decide)]; exact hd
          have wu : ((wrM M2 1 1 z).1 1 (12 + 6 * p + 4)).toInt ≤ n := by rw [wrM_nj (by omega)]; exact hu
          have wt : (wrM M2 1 1 z).1 1 (12 + 6 * p + 5) = 0 := by rw [wrM_nj (by omega)]; exact ht
          have wy : yP ((wrM M2 1 1 z).1 1) d p = yP (M2.1 1) d p := ty (Or.inl rfl)
          have wn : nP ((wrM M2 1 1 z).1 1) d p = nP (M2.1 1) d p := by
            unfold nP
            rw [wy, wr_1]
            unfold vn
            rw [upd_ne (by omega)]
          have hyE2 := yE RK.2 (by omega) hp w4 (by omega)
          have hnE2 := nE RK.2 (by omega) hp w4 (by omega)
          rw [wy] at hyE2
          rw [wn] at hnE2
          have i3 : fpX6_its (J (p : Nat)) (3 : Int32) (wrM M2 1 1 z) = some (M2.1 1 (12 + 6 * p + 3)) := by
            have := itsE (w := 3) (M := wrM M2 1 1 z) hp (by decide)
            rw [wrM_nj (show 12 + 6 * p + 3 ≠ 1 by omega)] at this
            exact this
          have f3 : (wrM (wrM M1 1 13 z) 1 4 (J ((w - nP (M2.1 1) d p : Nat) : Int))).1 (1 + 3 + p) 3 = M2.1 1 (12 + 6 * p + 3) := by
            rw [wrM_nr (show 1 + 3 + p ≠ 1 by omega), wrM_nr (show 1 + 3 + p ≠ 1 by omega), ef]
          refine .b2 i3 ?_
          rw [tpD f3]
          by_cases hj : M2.1 1 (12 + 6 * p + 3) ≤ jrem jz 12
          · rw [if_pos hj]
            refine .t2 hj ?_
            obtain ⟨N1, N2, q1, q2, q3⟩ := runOk hp RK hn w8 w2 (by omega) (by omega) hyE2 hnE2 hy6 hnw' wu
            refine .b1 q1 ?_
            unfold fpX6_run_b86
            rw [q2]
            exact .e rfl q3
          · rw [if_neg hj]
            refine .f2 hj ?_
            obtain ⟨N2, q2, q3⟩ := runNo hp RK w8 w2 (by omega) (by omega) hnE2 hnw' wt
            unfold fpX6_run_b86
            rw [q2]
            refine .b1 rfl (.e ?_ q3)
            exact wrM_eq
      · rw [if_neg hc]
        exact .t1 (by decide) (.t2 (by decide) (.fi R 4 (by decide) rfl rfl))
    · exact .f1 hm (.f2 hm (.fi R 4 (by decide) rfl rfl))
  · exact .t1 ((h0P R).2 h) (.t2 ((isP0 k0).2 h) (.fi R 0 (by decide) rfl rfl))
