theorem wcl_RL_7 : Cond.classLink RL 7 RX5 ∈ gtb := gtb_of 81 (by decide +kernel) (by decide +kernel)
theorem win_RX5 : Cond.instantiable RX5 8 ∈ gtb := gtb_of 82 (by decide +kernel) (by decide +kernel)
theorem nw_RL_7 : nwW RL 7 5 [.null, .null, .null, .int 0, .null, .null, .null, .null] 8 := ⟨RX5, TX5, tyX5, rfl, inX5, tyX5_ok, wcl_RL_7, win_RX5, wi_RX5, fun j hj => by rcases (show j = 0 ∨ j = 1 ∨ j = 2 ∨ j = 3 ∨ j = 4 ∨ j = 5 ∨ j = 6 ∨ j = 7 by omega) with rfl | rfl | rfl | rfl | rfl | rfl | rfl | rfl <;> rfl⟩
theorem wcl_RL_10 : Cond.classLink RL 10 RX6 ∈ gtb := gtb_of 916 (by decide +kernel) (by decide +kernel)
theorem win_RX6 : Cond.instantiable RX6 24 ∈ gtb := gtb_of 917 (by decide +kernel) (by decide +kernel)
theorem nw_RL_10 : nwW RL 10 6 [.null, .null, .null, .null, .int 0, .null, .null, .null, .int 0, .null, .null, .null, .int 0, .long 0, .null, .int 0, .int 0, .int 0, .int 0, .int 0, .null, .null, .null, .null] 24 := ⟨RX6, TX6, tyX6, rfl, inX6, tyX6_ok, wcl_RL_10, win_RX6, wi_RX6, fun j hj => by rcases (show j = 0 ∨ j = 1 ∨ j = 2 ∨ j = 3 ∨ j = 4 ∨ j = 5 ∨ j = 6 ∨ j = 7 ∨ j = 8 ∨ j = 9 ∨ j = 10 ∨ j = 11 ∨ j = 12 ∨ j = 13 ∨ j = 14 ∨ j = 15 ∨ j = 16 ∨ j = 17 ∨ j = 18 ∨ j = 19 ∨ j = 20 ∨ j = 21 ∨ j = 22 ∨ j = 23 by omega) with rfl | rfl | rfl | rfl | rfl | rfl | rfl | rfl | rfl | rfl | rfl | rfl | rfl | rfl | rfl | rfl | rfl | rfl | rfl | rfl | rfl | rfl | rfl | rfl <;> rfl⟩
theorem wl_RL_9 : Cond.methodLink RL 9 yX5_init ∈ gtb := gtb_of 83 (by decide +kernel) (by decide +kernel)
theorem wm_X5_init : Cond.instanceMethod yX5_init ∈ gtb := gtb_of 84 (by decide +kernel) (by decide +kernel)
theorem wc_X5_init : Cond.code yX5_init cX5_init 2 none ∈ gtb := gtb_of 85 (by decide +kernel) (by decide +kernel)
theorem ci_RL_9 : CI RL 9 mtX5_init := ⟨wl_RL_9, wm_X5_init, wi_RX5, wc_X5_init, rfl, rfl, ⟨by decide +kernel, by decide +kernel, by decide +kernel⟩⟩
theorem wl_RL_12 : Cond.methodLink RL 12 yX6_init ∈ gtb := gtb_of 918 (by decide +kernel) (by decide +kernel)
theorem wm_X6_init : Cond.instanceMethod yX6_init ∈ gtb := gtb_of 919 (by decide +kernel) (by decide +kernel)
theorem wc_X6_init : Cond.code yX6_init cX6_init 2 none ∈ gtb := gtb_of 920 (by decide +kernel) (by decide +kernel)
theorem ci_RL_12 : CI RL 12 mtX6_init := ⟨wl_RL_12, wm_X6_init, wi_RX6, wc_X6_init, rfl, rfl, ⟨by decide +kernel, by decide +kernel, by decide +kernel⟩⟩
theorem tb_ls1 : Cond.laysStatic "java/lang/String" "COMPACT_STRINGS" "Z" ∈ lw_tbl := List.mem_of_getElem? (i := 786) (by decide +kernel)
theorem tb_ls2 : Cond.laysStatic "jdk/internal/util/Preconditions" "SIOOBE_FORMATTER" "Ljava/util/function/BiFunction;" ∈ lw_tbl := List.mem_of_getElem? (i := 802) (by decide +kernel)
theorem tb_ls3 : Cond.laysStatic RX5 "KIND_ABOVE" "[I" ∈ lw_tbl := List.mem_of_getElem? (i := 857) (by decide +kernel)
theorem tb_ao1 : Cond.arrayOver (.object RX1) ∈ lw_tbl := List.mem_of_getElem? (i := 96) (by decide +kernel)
theorem tb_ao3 : Cond.arrayOver (.object RX3) ∈ lw_tbl := List.mem_of_getElem? (i := 231) (by decide +kernel)
theorem tb_nest : ∀ w ∈ nestW, w ∈ lw_tbl := by
  have h : nestW.all (fun w => decide (w ∈ lw_tbl)) = true := by decide +kernel
  intro w hw
  have h1 := List.all_eq_true.mp h w hw
  simpa using h1
theorem tb_str : ∀ i, i < 14 → Cond.stringRef RX4 (strIx.getD i (0, "")).1 (strIx.getD i (0, "")).2 ∈ lw_tbl := by decide +kernel
def tmS (i : Nat) : Term := .string RX4 (strIx.getD i (0, "")).1
def fl1 : List Cond := flatC (Jvm.Cond.and given_1 narrow_1)
theorem fs_ex : ∀ i, i < 14 → Cond.exactly (tmS i) "java/lang/String" ∈ fl1 := by decide +kernel
theorem fs_co : ∀ i, i < 14 → Cond.eq (.field (tmS i) "java/lang/String" "coder" "B") (.int 0) ∈ fl1 := by decide +kernel
theorem fs_ar : ∀ i, i < 14 → Cond.arrayOf (.field (tmS i) "java/lang/String" "value" "[B") .byte ∈ fl1 := by decide +kernel
theorem fs_le : ∀ i, i < 14 → Cond.eq (.length (.field (tmS i) "java/lang/String" "value" "[B")) (.int (Int32.ofNat (strLen.getD i 0))) ∈ fl1 := by decide +kernel
theorem fs_el : ∀ i, i < 14 → ∀ j, j < strLen.getD i 0 → Cond.eq (.elem (.field (tmS i) "java/lang/String" "value" "[B") (.int (Int32.ofNat j))) (.int ((strByt.getD i []).getD j 0)) ∈ fl1 := by decide +kernel
theorem fs_ne1 : ∀ j, j < 1 → (Cond.not (Cond.eq (tmS 1) (tmS j)) ∈ fl1 ∨ Cond.not (Cond.eq (tmS j) (tmS 1)) ∈ fl1) := by decide +kernel
theorem fs_ne2 : ∀ j, j < 2 → (Cond.not (Cond.eq (tmS 2) (tmS j)) ∈ fl1 ∨ Cond.not (Cond.eq (tmS j) (tmS 2)) ∈ fl1) := by decide +kernel
theorem fs_ne3 : ∀ j, j < 3 → (Cond.not (Cond.eq (tmS 3) (tmS j)) ∈ fl1 ∨ Cond.not (Cond.eq (tmS j) (tmS 3)) ∈ fl1) := by decide +kernel
theorem fs_ne4 : ∀ j, j < 4 → (Cond.not (Cond.eq (tmS 4) (tmS j)) ∈ fl1 ∨ Cond.not (Cond.eq (tmS j) (tmS 4)) ∈ fl1) := by decide +kernel
theorem fs_ne5 : ∀ j, j < 5 → (Cond.not (Cond.eq (tmS 5) (tmS j)) ∈ fl1 ∨ Cond.not (Cond.eq (tmS j) (tmS 5)) ∈ fl1) := by decide +kernel
theorem fs_ne6 : ∀ j, j < 6 → (Cond.not (Cond.eq (tmS 6) (tmS j)) ∈ fl1 ∨ Cond.not (Cond.eq (tmS j) (tmS 6)) ∈ fl1) := by decide +kernel
theorem fs_ne7 : ∀ j, j < 7 → (Cond.not (Cond.eq (tmS 7) (tmS j)) ∈ fl1 ∨ Cond.not (Cond.eq (tmS j) (tmS 7)) ∈ fl1) := by decide +kernel
theorem fs_ne8 : ∀ j, j < 8 → (Cond.not (Cond.eq (tmS 8) (tmS j)) ∈ fl1 ∨ Cond.not (Cond.eq (tmS j) (tmS 8)) ∈ fl1) := by decide +kernel
theorem fs_ne9 : ∀ j, j < 9 → (Cond.not (Cond.eq (tmS 9) (tmS j)) ∈ fl1 ∨ Cond.not (Cond.eq (tmS j) (tmS 9)) ∈ fl1) := by decide +kernel
theorem fs_ne10 : ∀ j, j < 10 → (Cond.not (Cond.eq (tmS 10) (tmS j)) ∈ fl1 ∨ Cond.not (Cond.eq (tmS j) (tmS 10)) ∈ fl1) := by decide +kernel
theorem fs_ne11 : ∀ j, j < 11 → (Cond.not (Cond.eq (tmS 11) (tmS j)) ∈ fl1 ∨ Cond.not (Cond.eq (tmS j) (tmS 11)) ∈ fl1) := by decide +kernel
theorem fs_ne12 : ∀ j, j < 12 → (Cond.not (Cond.eq (tmS 12) (tmS j)) ∈ fl1 ∨ Cond.not (Cond.eq (tmS j) (tmS 12)) ∈ fl1) := by decide +kernel
theorem fs_ne13 : ∀ j, j < 13 → (Cond.not (Cond.eq (tmS 13) (tmS j)) ∈ fl1 ∨ Cond.not (Cond.eq (tmS j) (tmS 13)) ∈ fl1) := by decide +kernel
theorem fs_neL : ∀ i, i < 14 → ∀ j, j < i → (Cond.not (Cond.eq (tmS i) (tmS j)) ∈ fl1 ∨ Cond.not (Cond.eq (tmS j) (tmS i)) ∈ fl1) := by
  intro i hi j hj
  match i, hi, hj with
  | 0, _, hj => exact absurd hj (Nat.not_lt_zero _)
  | 1, _, hj => exact fs_ne1 j hj
  | 2, _, hj => exact fs_ne2 j hj
  | 3, _, hj => exact fs_ne3 j hj
  | 4, _, hj => exact fs_ne4 j hj
  | 5, _, hj => exact fs_ne5 j hj
  | 6, _, hj => exact fs_ne6 j hj
  | 7, _, hj => exact fs_ne7 j hj
  | 8, _, hj => exact fs_ne8 j hj
  | 9, _, hj => exact fs_ne9 j hj
  | 10, _, hj => exact fs_ne10 j hj
  | 11, _, hj => exact fs_ne11 j hj
  | 12, _, hj => exact fs_ne12 j hj
  | 13, _, hj => exact fs_ne13 j hj
  | i + 14, hi, _ => omega
theorem fs_ne : ∀ i, i < 14 → ∀ j, j < 14 → i ≠ j → (Cond.not (Cond.eq (tmS i) (tmS j)) ∈ fl1 ∨ Cond.not (Cond.eq (tmS j) (tmS i)) ∈ fl1) := by
  intro i hi j hj hij
  rcases Nat.lt_or_gt_of_ne hij with h | h
  · exact (fs_neL j hj i h).symm
  · exact fs_neL i hi j h
theorem fs_k0 : Cond.arrayOf (.static RX5 "KIND_ABOVE" "[I") .int ∈ fl1 := by decide +kernel
theorem fs_k1 : Cond.eq (.length (.static RX5 "KIND_ABOVE" "[I")) (.int (Int32.ofNat 7)) ∈ fl1 := by decide +kernel
theorem fs_k2 : ∀ j, j < 7 → Cond.eq (.elem (.static RX5 "KIND_ABOVE" "[I") (.int (Int32.ofNat j))) (.int (kAbove.getD j 0)) ∈ fl1 := by decide +kernel
theorem fs_cs : Cond.eq (.static "java/lang/String" "COMPACT_STRINGS" "Z") (.int 1) ∈ fl1 := by decide +kernel
theorem fs_si : Cond.isRef (.static "jdk/internal/util/Preconditions" "SIOOBE_FORMATTER" "Ljava/util/function/BiFunction;") ∈ fl1 := by decide +kernel
theorem arrV_congr {cA : ClassId} {n : Nat} {f g : Nat → Value} (h : ∀ i, i < n → f i = g i) : arrV cA n f = arrV cA n g := by
  unfold arrV
  have e : (fun j : Fin n => f j.val) = fun j : Fin n => g j.val := by
    funext j
    exact h j.val j.isLt
  rw [e]
theorem at_I {D : va_G} {cl : List vw_C} {a n : Nat} {c : ClassId} {f g : Nat → Int32} {H : Heap} (h : va_at D cl (a, .inl (c, n, .inl f)) H) (hfg : ∀ i, i < n → f i = g i) : va_at D cl (a, .inl (c, n, .inl g)) H := by
  have h1 : H[a]? = some (arrV c n (fun j => .int (f j))) := h
  show H[a]? = some (arrV c n (fun j => .int (g j)))
  rw [h1, arrV_congr (fun i hi => by rw [hfg i hi])]
theorem at_R {D : va_G} {cl : List vw_C} {a n : Nat} {c : ClassId} {f g : Nat → Option Nat} {H : Heap} (h : va_at D cl (a, .inl (c, n, .inr (.inr (.inr (.inr f))))) H) (hfg : ∀ i, i < n → f i = g i) : va_at D cl (a, .inl (c, n, .inr (.inr (.inr (.inr g))))) H := by
  have h1 : H[a]? = some (arrV c n (fun j => va_rf (f j))) := h
  show H[a]? = some (arrV c n (fun j => va_rf (g j)))
  rw [h1, arrV_congr (fun i hi => by rw [hfg i hi])]
def prm (n : Nat) : Nat := if n ≤ 36 then n else if n ≤ 44 then n + 10 else if n = 45 then 37 else n - 8
def M0X : Me := (fun r j => if r = 1 ∨ r = 12 ∨ r = 23 then (if j = 6 then 40 else if j = 7 then 5 else if j = 13 then 1 else 0) else if r = 3 ∨ r = 14 ∨ r = 25 ∨ r = 53 then -1 else if r = 34 ∧ j = 2 then 3 else if r = 46 ∧ j = 4 then 1 else 0, 0)
def M0Y : Me := (fun r j => if r = 1 then (if j = 1 then 1 else if j = 2 then 40 else if j = 3 then 5 else if 60 ≤ j ∧ j < 70 then -1 else 0) else 0, 0)
/-- addresses: the cells', the formatter's, the table's, the strings' and their bytes' -/
def gpo (ρ : Nat → Nat) (N : Nat) (pm : Nat → Nat) (sio tab : Nat) (aK aV : Nat → Nat) (n : Nat) : Nat := if n < N then ρ (pm n) else if n = 998 then sio else if n = 999 then tab else if n < 1500 then aK (n - 1000) else aV (n - 2000)

set_option maxRecDepth 20000 in
theorem worldX {h : Ht} {b : Nat} {ρ : Nat → Nat} {t : Nat} {F : Nat → va_E} {H : Heap} {gp' : Nat → Nat} (q : PPQ h b ρ t F) (hP : va_P h.2.1 vwCl (wl ρ t F) H) (hg : ∀ n, n < 55 → gp' n = ρ (prm n)) : ∀ n, n < 55 → va_at h.2.1 vwCl (gp' n, cel h.2.2 gp' M0X n (kX n)) H := by
  obtain ⟨rfl, q0, q1, k1, k12, k23, q2, q3, ⟨fs, q4, q5⟩, q6, kp, ks⟩ := q
  have at_ : ∀ k e, k < 55 → F k = e → va_at h.2.1 vwCl (ρ k, e) H := by
    intro k e hk he
    have z := hP k _ (wl_at hk)
    rw [he] at z
    exact z
  have g0 : ∀ n e, n < 55 → va_at h.2.1 vwCl (ρ (prm n), e) H → va_at h.2.1 vwCl (gp' n, e) H := by
    intro n e hn z
    rw [hg n hn]
    exact z
  have w0 : va_at h.2.1 vwCl (gp' 0, cel h.2.2 gp' M0X 0 (kX 0)) H := by
    refine g0 0 _ (by decide) (at_ 0 _ (by decide) ?_)
    rw [q1]
    show _ = Sum.inr (5, [Value.ref (gp' 1), Value.ref (gp' 12), Value.ref (gp' 23), Value.int (M0X.1 0 3), Value.ref (gp' 34), Value.ref (gp' 36), Value.ref (gp' 45), Value.ref (gp' 46)])
    rw [hg 1 (by decide), hg 12 (by decide), hg 23 (by decide), hg 34 (by decide), hg 36 (by decide), hg 45 (by decide), hg 46 (by decide)]
    rfl
  have w1 : va_at h.2.1 vwCl (gp' 1, cel h.2.2 gp' M0X 1 (kX 1)) H := by
    refine g0 1 _ (by decide) (at_ 1 _ (by decide) ?_)
    rw [k1.1]
    show _ = Sum.inr (2, [Value.ref (gp' 2), Value.ref (gp' 3), Value.int (M0X.1 1 2), Value.int (M0X.1 1 3), Value.int (M0X.1 1 4), Value.int (M0X.1 1 5), Value.int (M0X.1 1 6), Value.int (M0X.1 1 7), Value.int (M0X.1 1 8), Value.int (M0X.1 1 9), Value.int (M0X.1 1 10), Value.int (M0X.1 1 11), Value.int (M0X.1 1 12), Value.int (M0X.1 1 13)])
    rw [hg 2 (by decide), hg 3 (by decide)]
    rfl
  have w2 : va_at h.2.1 vwCl (gp' 2, cel h.2.2 gp' M0X 2 (kX 2)) H := by
    obtain ⟨f, z1, z2⟩ := k1.2.1
    refine g0 2 _ (by decide) (at_R (at_ 2 _ (by decide) z1) (fun i hi => ?_))
    rw [z2 i hi]
    show _ = some (gp' (2 + 2 + 1 * i))
    rw [hg _ (by omega)]
    have e : prm (2 + 2 + 1 * i) = 1 + 3 + i := by unfold prm; rw [if_pos (by omega)]; omega
    rw [e]
  have w3 : va_at h.2.1 vwCl (gp' 3, cel h.2.2 gp' M0X 3 (kX 3)) H := by
    obtain ⟨f, z1, z2⟩ := k1.2.2.1
    exact g0 3 _ (by decide) (at_I (at_ 3 _ (by decide) z1) (fun i hi => by rw [z2 i hi]; simp [M0X]))
  have w4 : va_at h.2.1 vwCl (gp' 4, cel h.2.2 gp' M0X 4 (kX 4)) H := by
    refine g0 4 _ (by decide) (at_ 4 _ (by decide) ?_)
    exact k1.2.2.2 0 (by decide)
  have w5 : va_at h.2.1 vwCl (gp' 5, cel h.2.2 gp' M0X 5 (kX 5)) H := by
    refine g0 5 _ (by decide) (at_ 5 _ (by decide) ?_)
    exact k1.2.2.2 1 (by decide)
  have w6 : va_at h.2.1 vwCl (gp' 6, cel h.2.2 gp' M0X 6 (kX 6)) H := by
    refine g0 6 _ (by decide) (at_ 6 _ (by decide) ?_)
    exact k1.2.2.2 2 (by decide)
  have w7 : va_at h.2.1 vwCl (gp' 7, cel h.2.2 gp' M0X 7 (kX 7)) H := by
    refine g0 7 _ (by decide) (at_ 7 _ (by decide) ?_)
    exact k1.2.2.2 3 (by decide)
  have w8 : va_at h.2.1 vwCl (gp' 8, cel h.2.2 gp' M0X 8 (kX 8)) H := by
    refine g0 8 _ (by decide) (at_ 8 _ (by decide) ?_)
    exact k1.2.2.2 4 (by decide)
  have w9 : va_at h.2.1 vwCl (gp' 9, cel h.2.2 gp' M0X 9 (kX 9)) H := by
    refine g0 9 _ (by decide) (at_ 9 _ (by decide) ?_)
    exact k1.2.2.2 5 (by decide)
  have w10 : va_at h.2.1 vwCl (gp' 10, cel h.2.2 gp' M0X 10 (kX 10)) H := by
    refine g0 10 _ (by decide) (at_ 10 _ (by decide) ?_)
    exact k1.2.2.2 6 (by decide)
  have w11 : va_at h.2.1 vwCl (gp' 11, cel h.2.2 gp' M0X 11 (kX 11)) H := by
    refine g0 11 _ (by decide) (at_ 11 _ (by decide) ?_)
    exact k1.2.2.2 7 (by decide)
  have w12 : va_at h.2.1 vwCl (gp' 12, cel h.2.2 gp' M0X 12 (kX 12)) H := by
    refine g0 12 _ (by decide) (at_ 12 _ (by decide) ?_)
    rw [k12.1]
    show _ = Sum.inr (2, [Value.ref (gp' 13), Value.ref (gp' 14), Value.int (M0X.1 12 2), Value.int (M0X.1 12 3), Value.int (M0X.1 12 4), Value.int (M0X.1 12 5), Value.int (M0X.1 12 6), Value.int (M0X.1 12 7), Value.int (M0X.1 12 8), Value.int (M0X.1 12 9), Value.int (M0X.1 12 10), Value.int (M0X.1 12 11), Value.int (M0X.1 12 12), Value.int (M0X.1 12 13)])
    rw [hg 13 (by decide), hg 14 (by decide)]
    rfl
  have w13 : va_at h.2.1 vwCl (gp' 13, cel h.2.2 gp' M0X 13 (kX 13)) H := by
    obtain ⟨f, z1, z2⟩ := k12.2.1
    refine g0 13 _ (by decide) (at_R (at_ 13 _ (by decide) z1) (fun i hi => ?_))
    rw [z2 i hi]
    show _ = some (gp' (13 + 2 + 1 * i))
    rw [hg _ (by omega)]
    have e : prm (13 + 2 + 1 * i) = 12 + 3 + i := by unfold prm; rw [if_pos (by omega)]; omega
    rw [e]
  have w14 : va_at h.2.1 vwCl (gp' 14, cel h.2.2 gp' M0X 14 (kX 14)) H := by
    obtain ⟨f, z1, z2⟩ := k12.2.2.1
    exact g0 14 _ (by decide) (at_I (at_ 14 _ (by decide) z1) (fun i hi => by rw [z2 i hi]; simp [M0X]))
  have w15 : va_at h.2.1 vwCl (gp' 15, cel h.2.2 gp' M0X 15 (kX 15)) H := by
    refine g0 15 _ (by decide) (at_ 15 _ (by decide) ?_)
    exact k12.2.2.2 0 (by decide)
  have w16 : va_at h.2.1 vwCl (gp' 16, cel h.2.2 gp' M0X 16 (kX 16)) H := by
    refine g0 16 _ (by decide) (at_ 16 _ (by decide) ?_)
    exact k12.2.2.2 1 (by decide)
  have w17 : va_at h.2.1 vwCl (gp' 17, cel h.2.2 gp' M0X 17 (kX 17)) H := by
    refine g0 17 _ (by decide) (at_ 17 _ (by decide) ?_)
    exact k12.2.2.2 2 (by decide)
  have w18 : va_at h.2.1 vwCl (gp' 18, cel h.2.2 gp' M0X 18 (kX 18)) H := by
    refine g0 18 _ (by decide) (at_ 18 _ (by decide) ?_)
    exact k12.2.2.2 3 (by decide)
  have w19 : va_at h.2.1 vwCl (gp' 19, cel h.2.2 gp' M0X 19 (kX 19)) H := by
    refine g0 19 _ (by decide) (at_ 19 _ (by decide) ?_)
    exact k12.2.2.2 4 (by decide)
  have w20 : va_at h.2.1 vwCl (gp' 20, cel h.2.2 gp' M0X 20 (kX 20)) H := by
    refine g0 20 _ (by decide) (at_ 20 _ (by decide) ?_)
    exact k12.2.2.2 5 (by decide)
  have w21 : va_at h.2.1 vwCl (gp' 21, cel h.2.2 gp' M0X 21 (kX 21)) H := by
    refine g0 21 _ (by decide) (at_ 21 _ (by decide) ?_)
    exact k12.2.2.2 6 (by decide)
  have w22 : va_at h.2.1 vwCl (gp' 22, cel h.2.2 gp' M0X 22 (kX 22)) H := by
    refine g0 22 _ (by decide) (at_ 22 _ (by decide) ?_)
    exact k12.2.2.2 7 (by decide)
  have w23 : va_at h.2.1 vwCl (gp' 23, cel h.2.2 gp' M0X 23 (kX 23)) H := by
    refine g0 23 _ (by decide) (at_ 23 _ (by decide) ?_)
    rw [k23.1]
    show _ = Sum.inr (2, [Value.ref (gp' 24), Value.ref (gp' 25), Value.int (M0X.1 23 2), Value.int (M0X.1 23 3), Value.int (M0X.1 23 4), Value.int (M0X.1 23 5), Value.int (M0X.1 23 6), Value.int (M0X.1 23 7), Value.int (M0X.1 23 8), Value.int (M0X.1 23 9), Value.int (M0X.1 23 10), Value.int (M0X.1 23 11), Value.int (M0X.1 23 12), Value.int (M0X.1 23 13)])
    rw [hg 24 (by decide), hg 25 (by decide)]
    rfl
  have w24 : va_at h.2.1 vwCl (gp' 24, cel h.2.2 gp' M0X 24 (kX 24)) H := by
    obtain ⟨f, z1, z2⟩ := k23.2.1
    refine g0 24 _ (by decide) (at_R (at_ 24 _ (by decide) z1) (fun i hi => ?_))
    rw [z2 i hi]
    show _ = some (gp' (24 + 2 + 1 * i))
    rw [hg _ (by omega)]
    have e : prm (24 + 2 + 1 * i) = 23 + 3 + i := by unfold prm; rw [if_pos (by omega)]; omega
    rw [e]
  have w25 : va_at h.2.1 vwCl (gp' 25, cel h.2.2 gp' M0X 25 (kX 25)) H := by
    obtain ⟨f, z1, z2⟩ := k23.2.2.1
    exact g0 25 _ (by decide) (at_I (at_ 25 _ (by decide) z1) (fun i hi => by rw [z2 i hi]; simp [M0X]))
  have w26 : va_at h.2.1 vwCl (gp' 26, cel h.2.2 gp' M0X 26 (kX 26)) H := by
    refine g0 26 _ (by decide) (at_ 26 _ (by decide) ?_)
    exact k23.2.2.2 0 (by decide)
  have w27 : va_at h.2.1 vwCl (gp' 27, cel h.2.2 gp' M0X 27 (kX 27)) H := by
    refine g0 27 _ (by decide) (at_ 27 _ (by decide) ?_)
    exact k23.2.2.2 1 (by decide)
  have w28 : va_at h.2.1 vwCl (gp' 28, cel h.2.2 gp' M0X 28 (kX 28)) H := by
    refine g0 28 _ (by decide) (at_ 28 _ (by decide) ?_)
    exact k23.2.2.2 2 (by decide)
  have w29 : va_at h.2.1 vwCl (gp' 29, cel h.2.2 gp' M0X 29 (kX 29)) H := by
    refine g0 29 _ (by decide) (at_ 29 _ (by decide) ?_)
    exact k23.2.2.2 3 (by decide)
  have w30 : va_at h.2.1 vwCl (gp' 30, cel h.2.2 gp' M0X 30 (kX 30)) H := by
    refine g0 30 _ (by decide) (at_ 30 _ (by decide) ?_)
    exact k23.2.2.2 4 (by decide)
  have w31 : va_at h.2.1 vwCl (gp' 31, cel h.2.2 gp' M0X 31 (kX 31)) H := by
    refine g0 31 _ (by decide) (at_ 31 _ (by decide) ?_)
    exact k23.2.2.2 5 (by decide)
  have w32 : va_at h.2.1 vwCl (gp' 32, cel h.2.2 gp' M0X 32 (kX 32)) H := by
    refine g0 32 _ (by decide) (at_ 32 _ (by decide) ?_)
    exact k23.2.2.2 6 (by decide)
  have w33 : va_at h.2.1 vwCl (gp' 33, cel h.2.2 gp' M0X 33 (kX 33)) H := by
    refine g0 33 _ (by decide) (at_ 33 _ (by decide) ?_)
    exact k23.2.2.2 7 (by decide)
  have w34 : va_at h.2.1 vwCl (gp' 34, cel h.2.2 gp' M0X 34 (kX 34)) H := by
    refine g0 34 _ (by decide) (at_ 34 _ (by decide) ?_)
    rw [q2]
    show _ = Sum.inr (4, [Value.ref (gp' 35), Value.int (M0X.1 34 1), Value.int (M0X.1 34 2), Value.int (M0X.1 34 3), Value.int (M0X.1 34 4), Value.int (M0X.1 34 5)])
    rw [hg 35 (by decide)]
    rfl
  have w35 : va_at h.2.1 vwCl (gp' 35, cel h.2.2 gp' M0X 35 (kX 35)) H := by
    exact g0 35 _ (by decide) (at_I (at_ 35 _ (by decide) q3) (fun i _ => by simp [M0X]))
  have w36 : va_at h.2.1 vwCl (gp' 36, cel h.2.2 gp' M0X 36 (kX 36)) H := by
    refine g0 36 _ (by decide) (at_R (at_ 36 _ (by decide) q4) (fun i hi => ?_))
    rw [q5 i hi]
    show _ = some (gp' (36 + 1 + 2 * i))
    rw [hg _ (by omega)]
    have e : prm (36 + 1 + 2 * i) = 47 + 2 * i := by unfold prm; rw [if_neg (by omega), if_pos (by omega)]; omega
    rw [e]
  have w37 : va_at h.2.1 vwCl (gp' 37, cel h.2.2 gp' M0X 37 (kX 37)) H := by
    refine g0 37 _ (by decide) (at_ 47 _ (by decide) ?_)
    refine ((ks 0 (by decide)).1).trans ?_
    show _ = Sum.inr (3, [Value.ref (gp' 38), Value.int (M0X.1 37 1), Value.int (M0X.1 37 2)])
    rw [hg 38 (by decide)]
    rfl
  have w38 : va_at h.2.1 vwCl (gp' 38, cel h.2.2 gp' M0X 38 (kX 38)) H := by
    exact g0 38 _ (by decide) (at_I (at_ 48 _ (by decide) ((ks 0 (by decide)).2)) (fun i _ => by simp [M0X]))
  have w39 : va_at h.2.1 vwCl (gp' 39, cel h.2.2 gp' M0X 39 (kX 39)) H := by
    refine g0 39 _ (by decide) (at_ 49 _ (by decide) ?_)
    refine ((ks 1 (by decide)).1).trans ?_
    show _ = Sum.inr (3, [Value.ref (gp' 40), Value.int (M0X.1 39 1), Value.int (M0X.1 39 2)])
    rw [hg 40 (by decide)]
    rfl
  have w40 : va_at h.2.1 vwCl (gp' 40, cel h.2.2 gp' M0X 40 (kX 40)) H := by
    exact g0 40 _ (by decide) (at_I (at_ 50 _ (by decide) ((ks 1 (by decide)).2)) (fun i _ => by simp [M0X]))
  have w41 : va_at h.2.1 vwCl (gp' 41, cel h.2.2 gp' M0X 41 (kX 41)) H := by
    refine g0 41 _ (by decide) (at_ 51 _ (by decide) ?_)
    refine ((ks 2 (by decide)).1).trans ?_
    show _ = Sum.inr (3, [Value.ref (gp' 42), Value.int (M0X.1 41 1), Value.int (M0X.1 41 2)])
    rw [hg 42 (by decide)]
    rfl
  have w42 : va_at h.2.1 vwCl (gp' 42, cel h.2.2 gp' M0X 42 (kX 42)) H := by
    exact g0 42 _ (by decide) (at_I (at_ 52 _ (by decide) ((ks 2 (by decide)).2)) (fun i _ => by simp [M0X]))
  have w43 : va_at h.2.1 vwCl (gp' 43, cel h.2.2 gp' M0X 43 (kX 43)) H := by
    refine g0 43 _ (by decide) (at_ 53 _ (by decide) ?_)
    refine ((ks 3 (by decide)).1).trans ?_
    show _ = Sum.inr (3, [Value.ref (gp' 44), Value.int (M0X.1 43 1), Value.int (M0X.1 43 2)])
    rw [hg 44 (by decide)]
    rfl
  have w44 : va_at h.2.1 vwCl (gp' 44, cel h.2.2 gp' M0X 44 (kX 44)) H := by
    exact g0 44 _ (by decide) (at_I (at_ 54 _ (by decide) ((ks 3 (by decide)).2)) (fun i _ => by simp [M0X]))
  have w45 : va_at h.2.1 vwCl (gp' 45, cel h.2.2 gp' M0X 45 (kX 45)) H := by
    exact g0 45 _ (by decide) (at_I (at_ 37 _ (by decide) q6) (fun i _ => by simp [M0X]))
  have w46 : va_at h.2.1 vwCl (gp' 46, cel h.2.2 gp' M0X 46 (kX 46)) H := by
    refine g0 46 _ (by decide) (at_ 38 _ (by decide) ?_)
    rw [kp.1]
    show _ = Sum.inr (0, [Value.ref (gp' 47), Value.int (M0X.1 46 1), Value.int (M0X.1 46 2), Value.int (M0X.1 46 3), Value.int (M0X.1 46 4), Value.int (M0X.1 46 5), Value.ref (gp' 48), Value.ref (gp' 49), Value.ref (gp' 50), Value.ref (gp' 51), Value.ref (gp' 52), Value.ref (gp' 53), Value.ref (gp' 54)])
    rw [hg 47 (by decide), hg 48 (by decide), hg 49 (by decide), hg 50 (by decide), hg 51 (by decide), hg 52 (by decide), hg 53 (by decide), hg 54 (by decide)]
    rfl
  have w47 : va_at h.2.1 vwCl (gp' 47, cel h.2.2 gp' M0X 47 (kX 47)) H := by
    exact g0 47 _ (by decide) (at_I (at_ 39 _ (by decide) kp.2.1) (fun i _ => by simp [M0X]))
  have w48 : va_at h.2.1 vwCl (gp' 48, cel h.2.2 gp' M0X 48 (kX 48)) H := by
    exact g0 48 _ (by decide) (at_I (at_ 40 _ (by decide) kp.2.2.1) (fun i _ => by simp [M0X]))
  have w49 : va_at h.2.1 vwCl (gp' 49, cel h.2.2 gp' M0X 49 (kX 49)) H := by
    exact g0 49 _ (by decide) (at_I (at_ 41 _ (by decide) kp.2.2.2.1) (fun i _ => by simp [M0X]))
  have w50 : va_at h.2.1 vwCl (gp' 50, cel h.2.2 gp' M0X 50 (kX 50)) H := by
    exact g0 50 _ (by decide) (at_I (at_ 42 _ (by decide) kp.2.2.2.2.1) (fun i _ => by simp [M0X]))
  have w51 : va_at h.2.1 vwCl (gp' 51, cel h.2.2 gp' M0X 51 (kX 51)) H := by
    exact g0 51 _ (by decide) (at_I (at_ 43 _ (by decide) kp.2.2.2.2.2.1) (fun i _ => by simp [M0X]))
  have w52 : va_at h.2.1 vwCl (gp' 52, cel h.2.2 gp' M0X 52 (kX 52)) H := by
    exact g0 52 _ (by decide) (at_I (at_ 44 _ (by decide) kp.2.2.2.2.2.2.1) (fun i _ => by simp [M0X]))
  have w53 : va_at h.2.1 vwCl (gp' 53, cel h.2.2 gp' M0X 53 (kX 53)) H := by
    obtain ⟨f, z1, z2⟩ := kp.2.2.2.2.2.2.2.1
    exact g0 53 _ (by decide) (at_I (at_ 45 _ (by decide) z1) (fun i hi => by rw [z2 i hi]; simp [M0X]))
  have w54 : va_at h.2.1 vwCl (gp' 54, cel h.2.2 gp' M0X 54 (kX 54)) H := by
    exact g0 54 _ (by decide) (at_I (at_ 46 _ (by decide) kp.2.2.2.2.2.2.2.2) (fun i _ => by simp [M0X]))
  intro n hn
  match n, hn with
  | 0, _ => exact w0
  | 1, _ => exact w1
  | 2, _ => exact w2
  | 3, _ => exact w3
  | 4, _ => exact w4
  | 5, _ => exact w5
  | 6, _ => exact w6
  | 7, _ => exact w7
  | 8, _ => exact w8
  | 9, _ => exact w9
  | 10, _ => exact w10
  | 11, _ => exact w11
  | 12, _ => exact w12
  | 13, _ => exact w13
  | 14, _ => exact w14
  | 15, _ => exact w15
  | 16, _ => exact w16
  | 17, _ => exact w17
  | 18, _ => exact w18
  | 19, _ => exact w19
  | 20, _ => exact w20
  | 21, _ => exact w21
  | 22, _ => exact w22
  | 23, _ => exact w23
  | 24, _ => exact w24
  | 25, _ => exact w25
  | 26, _ => exact w26
  | 27, _ => exact w27
  | 28, _ => exact w28
  | 29, _ => exact w29
  | 30, _ => exact w30
  | 31, _ => exact w31
  | 32, _ => exact w32
  | 33, _ => exact w33
  | 34, _ => exact w34
  | 35, _ => exact w35
  | 36, _ => exact w36
  | 37, _ => exact w37
  | 38, _ => exact w38
  | 39, _ => exact w39
  | 40, _ => exact w40
  | 41, _ => exact w41
  | 42, _ => exact w42
  | 43, _ => exact w43
  | 44, _ => exact w44
  | 45, _ => exact w45
  | 46, _ => exact w46
  | 47, _ => exact w47
  | 48, _ => exact w48
  | 49, _ => exact w49
  | 50, _ => exact w50
  | 51, _ => exact w51
  | 52, _ => exact w52
  | 53, _ => exact w53
  | 54, _ => exact w54
  | n + 55, hn => omega
set_option maxRecDepth 20000 in
theorem worldY {h : Ht} {ρ0 ρ : Nat → Nat} {t : Nat} {F0 F : Nat → va_E} {H : Heap} {gp' : Nat → Nat} (q : ModelQ h ρ0 1 0 F0 ρ t F) (hP : va_P h.2.1 vwCl (wl ρ t F) H) (hg : ∀ n, n < 16 → gp' n = ρ n) : ∀ n, n < 16 → va_at h.2.1 vwCl (gp' n, cel h.2.2 gp' M0Y n (kY n)) H := by
  obtain ⟨rfl, -, -, q1, ⟨f, q2, q3, q4⟩, q5, q6, q7, q8, q9, q10, q11, q12, q13, q14, q15, q16, q17, q18⟩ := q
  have at_ : ∀ k e, k < 16 → F k = e → va_at h.2.1 vwCl (ρ k, e) H := by
    intro k e hk he
    have z := hP k _ (wl_at hk)
    rw [he] at z
    exact z
  have g0 : ∀ n e, n < 16 → va_at h.2.1 vwCl (ρ n, e) H → va_at h.2.1 vwCl (gp' n, e) H := by
    intro n e hn z
    rw [hg n hn]
    exact z
  have w0 : va_at h.2.1 vwCl (gp' 0, cel h.2.2 gp' M0Y 0 (kY 0)) H := by
    refine g0 0 _ (by decide) (at_ 0 _ (by decide) ?_)
    have k0 : kY 0 = 7 := rfl
    have k7 : kO 7 = some (6, [3, 4, 5, 6, 0, 7, 8, 9, 0, 10, 11, 12, 0, 1, 13, 0, 0, 0, 0, 0, 14, 15, 16, 17]) := rfl
    rw [k0, cel_O k7, q1]
    show _ = Sum.inr (6, fvs gp' M0Y 0 [3, 4, 5, 6, 0, 7, 8, 9, 0, 10, 11, 12, 0, 1, 13, 0, 0, 0, 0, 0, 14, 15, 16, 17])
    have z : ∀ j, M0Y.1 0 j = 0 := fun j => rfl
    simp only [fvs, List.mapIdx_cons, List.mapIdx_nil, fv, z, Nat.zero_add, hg _ (show 0 < 16 by decide), hg 1 (by decide), hg 2 (by decide), hg 3 (by decide), hg 4 (by decide), hg 5 (by decide), hg 6 (by decide), hg 7 (by decide), hg 8 (by decide), hg 9 (by decide), hg 10 (by decide), hg 11 (by decide), hg 12 (by decide), hg 13 (by decide), hg 14 (by decide), hg 15 (by decide)]
    rfl
  have w1 : va_at h.2.1 vwCl (gp' 1, cel h.2.2 gp' M0Y 1 (kY 1)) H := by
    refine g0 1 _ (by decide) (at_I (at_ 1 _ (by decide) q2) (fun i hi => ?_))
    show f i = M0Y.1 1 i
    by_cases h6 : i < 60
    · rw [q3 i h6]
      by_cases h3 : i = 3
      · subst h3; rfl
      · by_cases h2 : i = 2
        · subst h2; rfl
        · by_cases h1 : i = 1
          · subst h1; rfl
          · simp [M0Y, upd, h1, h2, h3]
            omega
    · have e : i = 60 + (i - 60) := by omega
      have hi70 : i < 70 := hi
      rw [e, q4 (i - 60) (by omega)]
      simp only [M0Y]
      rw [if_pos trivial, if_neg (by omega), if_neg (by omega), if_neg (by omega), if_pos (by omega)]
  have w2 : va_at h.2.1 vwCl (gp' 2, cel h.2.2 gp' M0Y 2 (kY 2)) H := by
    exact g0 2 _ (by decide) (at_I (at_ 2 _ (by decide) q5) (fun i _ => by simp [M0Y]))
  have w3 : va_at h.2.1 vwCl (gp' 3, cel h.2.2 gp' M0Y 3 (kY 3)) H := by
    exact g0 3 _ (by decide) (at_I (at_ 3 _ (by decide) q6) (fun i _ => by simp [M0Y]))
  have w4 : va_at h.2.1 vwCl (gp' 4, cel h.2.2 gp' M0Y 4 (kY 4)) H := by
    exact g0 4 _ (by decide) (at_I (at_ 4 _ (by decide) q7) (fun i _ => by simp [M0Y]))
  have w5 : va_at h.2.1 vwCl (gp' 5, cel h.2.2 gp' M0Y 5 (kY 5)) H := by
    exact g0 5 _ (by decide) (at_I (at_ 5 _ (by decide) q8) (fun i _ => by simp [M0Y]))
  have w6 : va_at h.2.1 vwCl (gp' 6, cel h.2.2 gp' M0Y 6 (kY 6)) H := by
    exact g0 6 _ (by decide) (at_I (at_ 6 _ (by decide) q9) (fun i _ => by simp [M0Y]))
  have w7 : va_at h.2.1 vwCl (gp' 7, cel h.2.2 gp' M0Y 7 (kY 7)) H := by
    exact g0 7 _ (by decide) (at_I (at_ 7 _ (by decide) q10) (fun i _ => by simp [M0Y]))
  have w8 : va_at h.2.1 vwCl (gp' 8, cel h.2.2 gp' M0Y 8 (kY 8)) H := by
    exact g0 8 _ (by decide) (at_I (at_ 8 _ (by decide) q11) (fun i _ => by simp [M0Y]))
  have w9 : va_at h.2.1 vwCl (gp' 9, cel h.2.2 gp' M0Y 9 (kY 9)) H := by
    exact g0 9 _ (by decide) (at_I (at_ 9 _ (by decide) q12) (fun i _ => by simp [M0Y]))
  have w10 : va_at h.2.1 vwCl (gp' 10, cel h.2.2 gp' M0Y 10 (kY 10)) H := by
    exact g0 10 _ (by decide) (at_I (at_ 10 _ (by decide) q13) (fun i _ => by simp [M0Y]))
  have w11 : va_at h.2.1 vwCl (gp' 11, cel h.2.2 gp' M0Y 11 (kY 11)) H := by
    exact g0 11 _ (by decide) (at_I (at_ 11 _ (by decide) q14) (fun i _ => by simp [M0Y]))
  have w12 : va_at h.2.1 vwCl (gp' 12, cel h.2.2 gp' M0Y 12 (kY 12)) H := by
    exact g0 12 _ (by decide) (at_I (at_ 12 _ (by decide) q15) (fun i _ => by simp [M0Y]))
  have w13 : va_at h.2.1 vwCl (gp' 13, cel h.2.2 gp' M0Y 13 (kY 13)) H := by
    exact g0 13 _ (by decide) (at_I (at_ 13 _ (by decide) q16) (fun i _ => by simp [M0Y]))
  have w14 : va_at h.2.1 vwCl (gp' 14, cel h.2.2 gp' M0Y 14 (kY 14)) H := by
    exact g0 14 _ (by decide) (at_I (at_ 14 _ (by decide) q17) (fun i _ => by simp [M0Y]))
  have w15 : va_at h.2.1 vwCl (gp' 15, cel h.2.2 gp' M0Y 15 (kY 15)) H := by
    exact g0 15 _ (by decide) (at_I (at_ 15 _ (by decide) q18) (fun i _ => by simp [M0Y]))
  intro n hn
  match n, hn with
  | 0, _ => exact w0
  | 1, _ => exact w1
  | 2, _ => exact w2
  | 3, _ => exact w3
  | 4, _ => exact w4
  | 5, _ => exact w5
  | 6, _ => exact w6
  | 7, _ => exact w7
  | 8, _ => exact w8
  | 9, _ => exact w9
  | 10, _ => exact w10
  | 11, _ => exact w11
  | 12, _ => exact w12
  | 13, _ => exact w13
  | 14, _ => exact w14
  | 15, _ => exact w15
  | n + 16, hn => omega
theorem prm_lt : ∀ n, n < 55 → prm n < 55 := by decide +kernel
theorem prm_inj : ∀ n, n < 55 → ∀ m, m < 55 → prm n = prm m → n = m := by decide +kernel
theorem wd_P {g : Gt} {M : Me} {H : Heap} (h : ∀ n, n < gN g → va_at (gD g) vwCl (gp g n, cel (g3 g) (gp g) M n (gk g n)) H) : va_P (gD g) vwCl (wd g M) H := by
  intro k q hk
  obtain ⟨h1, rfl⟩ := wd_in hk
  exact h k h1
theorem wd_Dm {g : Gt} {M : Me} {A : Nat → Prop} (h1 : ∀ i j, i < gN g → j < gN g → gp g i = gp g j → i = j) (h2 : ∀ i, i < gN g → A (gp g i)) : va_D A (wd g M) := by
  refine ⟨fun i j x y hi hj hxy => ?_, fun k q hk => ?_⟩
  · obtain ⟨a1, rfl⟩ := wd_in hi
    obtain ⟨a2, rfl⟩ := wd_in hj
    exact h1 i j a1 a2 hxy
  · obtain ⟨a1, rfl⟩ := wd_in hk
    exact h2 k a1
theorem wl_inj {A : Nat → Prop} {ρ : Nat → Nat} {t : Nat} {F : Nat → va_E} (h : va_D A (wl ρ t F)) {i j : Nat} (hi : i < t) (hj : j < t) (e : ρ i = ρ j) : i = j := h.1 i j _ _ (wl_at hi) (wl_at hj) e
theorem wl_mem {A : Nat → Prop} {ρ : Nat → Nat} {t : Nat} {F : Nat → va_E} (h : va_D A (wl ρ t F)) {i : Nat} (hi : i < t) : A (ρ i) := h.2 i _ (wl_at hi)
set_option maxRecDepth 20000 in
set_option maxHeartbeats 1000000 in
/-- THE LAW, from its entry, over a relation R that holds at the start and that every call keeps -/
theorem start_of (R : Nat → Me → Me → Prop) (hR0 : R 0 M0X M0Y) (sm0 : sim0 R) (sm1 : sim1 R) (sm2 : sim2 R) (sm3 : sim3 R) (sm4 : sim4 R) (sm5 : sim5 R) (sm6 : sim6 R) (sm7 : sim7 R) (sm8 : sim8 R) (sm9 : sim9 R) (sm10 : sim10 R) (sm11 : sim11 R) (sm12 : sim12 R) (sm13 : sim13 R) (sm14 : sim14 R) (sm15 : sim15 R) (sm16 : sim16 R) (sm17 : sim17 R) (sm18 : sim18 R) (sm19 : sim19 R) (sm20 : sim20 R) (sm21 : sim21 R) (sm22 : sim22 R) (sm23 : sim23 R) (sm24 : sim24 R) (sm25 : sim25 R) (sm26 : sim26 R) (sm27 : sim27 R) (sm28 : sim28 R) (sm29 : sim29 R) (sm30 : sim30 R) (sm31 : sim31 R) (sm32 : sim32 R) (sm33 : sim33 R) (sm34 : sim34 R) (sm35 : sim35 R) (sm36 : sim36 R) (sm37 : sim37 R) (sm38 : sim38 R) (sm39 : sim39 R) (sm40 : sim40 R) (sm41 : sim41 R) (sm42 : sim42 R) (sm43 : sim43 R) (sm44 : sim44 R) (sm45 : sim45 R) (hskip : ∀ (n : Nat) (M1 M2 : Me), n < 512 → R n M1 M2 → R (n + 1) M1 M2) {p : Program} {e : Env} {s : State} {m : MethodId} {below : List Frame} {meth : Method} {c : Code} (l : Launch) {b L : Nat} {xs : Nat → Int32} (hL : L ≤ 3072) (C0 : lw_At p s m meth c b L xs) : W p l e room_1 s m #[Value.ref b] below meth c s.heap [] 0 0 (lw_Z below #[Value.ref b] s) (entryFrame m ([Value.ref b] : List Value).toArray 4) := by
  obtain ⟨hx, hb, hr, hml, hown, hts, hX, hbl, hlocks, hgv⟩ := id C0
  have hgt : ∀ {w : Cond}, w ∈ gtb → w.before #[Value.ref b] s = true := fun hw => hts _ (gtb_tbl hw)
  have hfl : ∀ w ∈ fl1, w.before #[Value.ref b] s = true := flat_of_before _ hgv
  have hA : ∀ q : Nat, s.heap.size ≤ q → (fun q : Nat => s.heap.size ≤ q) q := fun _ h => h
  have hnA : ∀ a : Nat, a < s.heap.size → ¬ (fun q : Nat => s.heap.size ≤ q) a := fun a ha => Nat.not_le.mpr ha
  -- the classes
  obtain ⟨c0, i0, h0⟩ := u_known (C := RX0) (T := TX0) (N := 13) (n := 13) hts (fun w hw => gtb_tbl (inX0 w hw)) (hgt win_RX0)
  obtain ⟨c1, i1, h1⟩ := u_known (C := RX1) (T := TX1) (N := 6) (n := 6) hts (fun w hw => gtb_tbl (inX1 w hw)) (hgt win_RX1)
  obtain ⟨c2, i2, h2⟩ := u_known (C := RX2) (T := TX2) (N := 14) (n := 14) hts (fun w hw => gtb_tbl (inX2 w hw)) (hgt win_RX2)
  obtain ⟨c3, i3, h3⟩ := u_known (C := RX3) (T := TX3) (N := 3) (n := 3) hts (fun w hw => gtb_tbl (inX3 w hw)) (hgt win_RX3)
  obtain ⟨c4, i4, h4⟩ := u_known (C := RX4) (T := TX4) (N := 6) (n := 6) hts (fun w hw => gtb_tbl (inX4 w hw)) (hgt win_RX4)
  obtain ⟨c5, i5, h5⟩ := u_known (C := RX5) (T := TX5) (N := 8) (n := 8) hts (fun w hw => gtb_tbl (inX5 w hw)) (hgt win_RX5)
  obtain ⟨c6, i6, h6⟩ := u_known (C := RX6) (T := TX6) (N := 24) (n := 24) hts (fun w hw => gtb_tbl (inX6 w hw)) (hgt win_RX6)
  obtain ⟨dC, dI, hKc⟩ : ∃ (dC : Nat → ClassId) (dI : Nat → Nat → Nat), ∀ (k : Nat) (q : vw_C), vwCl[k]? = some q → u_Kn s q.1 q.2.1 q.2.2 (dC k) (dI k) := by
    refine ⟨fun k => if k = 0 then c0 else if k = 1 then c1 else if k = 2 then c2 else if k = 3 then c3 else if k = 4 then c4 else if k = 5 then c5 else c6, fun k => if k = 0 then i0 else if k = 1 then i1 else if k = 2 then i2 else if k = 3 then i3 else if k = 4 then i4 else if k = 5 then i5 else i6, ?_⟩
    intro k q hq
    match k, hq with
    | 0, hq => cases hq; exact h0
    | 1, hq => cases hq; exact h1
    | 2, hq => cases hq; exact h2
    | 3, hq => cases hq; exact h3
    | 4, hq => cases hq; exact h4
    | 5, hq => cases hq; exact h5
    | 6, hq => cases hq; exact h6
    | k + 7, hq => simp [vwCl] at hq
  obtain ⟨cI, kI, compI, f1, f2, f3⟩ := Cond.arrayClass_spec (hgt w_arr)
  obtain ⟨compP, cP, kP, p1, -, p2, p3, p4⟩ := Cond.arrayOver_spec (hts _ tb_ao1)
  obtain ⟨compS, cS, kS, s1, -, s2, s3, s4⟩ := Cond.arrayOver_spec (hts _ tb_ao3)
  obtain ⟨h, hh⟩ : ∃ h : Ht, h = (l, (dC, dI), (cI, cP, cS)) := ⟨_, rfl⟩
  have hK : va_K h.2.1 vwCl (tyH h) s := by
    rw [hh]
    refine ⟨hKc, fun k q hq => ?_⟩
    match k, hq with
    | 0, hq => cases hq; exact ⟨(fun n z => ⟨(fun k hz => by cases hz), ⟨kI, f2, compI, f3⟩⟩ : ArrOfT s cI .int), f1⟩
    | 1, hq => cases hq; exact ⟨(fun n z => ⟨(fun k hz => by cases hz), ⟨kP, p2, compP, p3⟩⟩ : ArrOfT s cP (.object RX1)), kP, compP, p2, p3, p1, p4⟩
    | 2, hq => cases hq; exact ⟨(fun n z => ⟨(fun k hz => by cases hz), ⟨kS, s2, compS, s3⟩⟩ : ArrOfT s cS (.object RX3)), kS, compS, s2, s3, s1, s4⟩
    | k + 3, hq => simp [tyH] at hq
  have hl0 : h.1 = l := by rw [hh]
  -- nests, strings, statics
  have hN : ∀ w ∈ nestW, va_Nw w s := by
    intro w hw
    have h0 := hts w (tb_nest w hw)
    simp only [nestW, List.mem_cons, List.not_mem_nil, or_false] at hw
    rcases hw with rfl | rfl | rfl | rfl | rfl | rfl <;> exact va_Nw.of rfl h0
  obtain ⟨aK, aV, hSt, hStE⟩ := vk_Sof (args := #[Value.ref b]) (s := s) (N := 14) (tm := tmS) (len := strLen) (byt := strByt) (A := fun q : Nat => s.heap.size ≤ q) (fun i hi => Nat.lt_trans (strLen_lt i hi) (by decide)) (fun i hi => hfl _ (fs_ex i hi)) (fun i hi => hfl _ (fs_co i hi)) (fun i hi => hfl _ (fs_ar i hi)) (fun i hi => hfl _ (fs_le i hi)) (fun i hi j hj => hfl _ (fs_el i hi j hj)) (fun i j hi hj hij => (fs_ne i hi j hj hij).imp (fun z => hfl _ z) (fun z => hfl _ z)) hnA
  have hRf : ∀ (i : Nat) (q : Nat × String), strIx[i]? = some q → vk_R RX4 q.1 q.2 (aK i) s := by
    intro i q hq
    have hi := strIx_lt hq
    have e1 : strIx.getD i (0, "") = q := by simp [List.getD, hq]
    have z1 := hts _ (tb_str i hi)
    have z2 := hStE i hi
    unfold tmS at z2
    rw [e1] at z1 z2
    exact vk_R.of z1 z2
  have hCS := va_Zof (A := fun q : Nat => s.heap.size ≤ q) (hts _ tb_ls1) (hgt wi_RJ0) (va_eqi (hfl _ fs_cs)) hnA
  have hSI := va_Zqof (A := fun q : Nat => s.heap.size ≤ q) (hts _ tb_ls2) (hgt wi_RJ3) (hfl _ fs_si) hnA
  obtain ⟨tab, hta, hTab⟩ := va_Tof (args := #[Value.ref b]) (s := s) (tm := .static RX5 "KIND_ABOVE" "[I") (ty := .int) (N := 7) (f := fun j => .int (kAbove.getD j 0)) (A := fun q : Nat => s.heap.size ≤ q) (by decide) (hfl _ fs_k0) (va_eqt (hfl _ fs_k1)) (fun j hj => va_eqt (hfl _ (fs_k2 j hj))) hnA
  have hKA := va_Zref (A := fun q : Nat => s.heap.size ≤ q) (hts _ tb_ls3) (hgt wi_RX5) hta hnA
  obtain ⟨sio, hsio⟩ : ∃ sio : Nat, va_Z "jdk/internal/util/Preconditions" "SIOOBE_FORMATTER" "Ljava/util/function/BiFunction;" .null (fun q : Nat => s.heap.size ≤ q) s s.heap ∨ va_Z "jdk/internal/util/Preconditions" "SIOOBE_FORMATTER" "Ljava/util/function/BiFunction;" (.ref sio) (fun q : Nat => s.heap.size ≤ q) s s.heap := by
    rcases hSI with z | ⟨t, z⟩
    · exact ⟨0, Or.inl z⟩
    · exact ⟨t, Or.inr z⟩
  -- the law's first instructions
  have hS : va_S (fun q : Nat => s.heap.size ≤ q) s.heap s.heap [] := va_S.rf
  have hP : va_P h.2.1 vwCl [] s.heap := fun k q h => by simp at h
  have hD : va_D (fun q : Nat => s.heap.size ≤ q) [] := ⟨fun i j p q h => by simp at h, fun k q h => by simp at h⟩
  have hl := lv_entry ([.ref b]) (n := 4) (Nat.le_of_ble_eq_true rfl)
  rw [lg_entry_eq]
  generalize (lg_sl ([.ref b]) ++ List.replicate (4 - (lg_sl ([.ref b])).length) Slot.unset).toArray = ls at hl ⊢
  have hl : lv_has ls 4 [(0, .ref b)] := hl
  obtain ⟨C5, T5, ty5, n1, n2, n3, n4, n5, n6, n7⟩ := nw_RL_7
  refine va_new (D := h.2.1) (cl := vwCl) (tys := tyH h) (ci := 5) (fs := [.null, .null, .null, .int 0, .null, .null, .null, .null]) (C := C5) (T := T5) (N := 8) hx hb hts (fun w hw => gtb_tbl (n2 w hw)) ty5 n3 hown (hgt n4) (hgt n5) (hgt n6) hK hP hD hS hA n1 n7 (Nat.le_of_ble_eq_true rfl) (Nat.le_of_ble_eq_true rfl) dL_law_0 (fun q0 H hP hD hS => ?_)
  have hP : va_P h.2.1 vwCl (wl (fun _ => q0) 1 (fun _ => .inr (5, [.null, .null, .null, .int 0, .null, .null, .null, .null]))) H := hP
  have hD : va_D (fun q : Nat => s.heap.size ≤ q) (wl (fun _ => q0) 1 (fun _ => .inr (5, [.null, .null, .null, .int 0, .null, .null, .null, .null]))) := hD
  refine lv_dup hx hb dL_law_3 rfl ?_
  obtain ⟨u1, u2, u3, u4, u5, u6, u7⟩ := ci_RL_9
  have hF : ∀ q, va_A (wl (fun _ => q0) 1 (fun _ => .inr (5, [.null, .null, .null, .int 0, .null, .null, .null, .null]))) H.size q → s.heap.size ≤ q := by
    intro q hq
    rcases hq with ⟨k, e, hq⟩ | hq
    · exact hD.2 k _ hq
    · exact Nat.le_trans hS.1 hq
  have hM := cc_PP (h := h) (ρ := fun _ => q0) (b := q0) (F := fun _ => .inr (5, [.null, .null, .null, .int 0, .null, .null, .null, .null])) rfl rfl H.size
  rw [hl0] at hM
  have hpre : ∀ (ρ : Nat → Nat) (t : Nat) (F : Nat → va_E) (a : Nat) (H : Heap), va_P h.2.1 vwCl (wl ρ t F) H → va_D (fun q : Nat => s.heap.size ≤ q) (wl ρ t F) → PreS s H (va_Pc [.ref a] (fun U => U.heap.size = H.size ∧ va_P h.2.1 vwCl (wl ρ t F) U.heap ∧ va_K h.2.1 vwCl (tyH h) U ∧ va_D (fun _ => True) (wl ρ t F) ∧ (∀ w ∈ nestW, va_Nw w U) ∧ va_AO RX1 U ∧ va_AO RX3 U)) [.ref a] := by
    intro ρ t F a H hP hD
    refine ⟨fun a U f mk q => ?_, fun U hU hW => ⟨rfl, by rw [hU], by rw [hU]; exact hP, va_K.moved hW.alike hK, hD.weaken (fun _ _ _ _ => trivial), nestW_warm hW hN, va_AO.moved hW.alike (va_AO.of (hts _ tb_ao1)), va_AO.moved hW.alike (va_AO.of (hts _ tb_ao3))⟩⟩
    obtain ⟨q0, q1, qP, qK, qD, qN, q3, q4⟩ := q
    exact ⟨q0, q1, qP, va_K.moved (u := U) (U := U.calling f mk a) (Vm.Alike.refl U.vm) qK, qD, nestW_same (u := U) rfl qN, va_AO.moved (u := U) (U := U.calling f mk a) (Vm.Alike.refl U.vm) q3, va_AO.moved (u := U) (U := U.calling f mk a) (Vm.Alike.refl U.vm) q4⟩
  have hrun := va_runI (p := p) (l := l) (e := e) (R := room_1) (below := below) (meth := meth) (locs := []) (cells := 0 + 1) (slots := 0 + 8) (g := F0 m (0 + 3 + 1) ls (.ref q0 :: .ref q0 :: [])) (As := []) (rest := [.ref q0]) (b := q0) ⟨hx, hb, hml, hown, hts⟩ hM ⟨callB_of 0 hts (gtb_in_tbl (ν := mtX5_init) u4) rfl rfl rfl (hgt u3) (hgt u1) u7 ⟨Nat.le_of_ble_eq_true rfl, Nat.le_of_ble_eq_true rfl⟩, u6, hgt u2⟩ (hpre _ _ _ q0 H hP hD) rfl rfl hl.1 rfl (lv_room (Nat.le_of_ble_eq_true rfl)) dL_law_4 ⟨Nat.le_of_ble_eq_true rfl, Nat.le_of_ble_eq_true rfl⟩
  intro T hT X
  obtain ⟨v, st₀, u, T', L', hh0, X', hLf, e1, e2, ⟨hv, ⟨ρX, tX, FX, hQX, hP1, hD1⟩, hz, hk⟩, st⟩ := hrun T hT X
  cases hv
  rw [hh0] at hz hk
  have hS' : va_S (fun q : Nat => s.heap.size ≤ q) s.heap T'.heap ([] ++ L') := ⟨Nat.le_trans hS.1 (by rw [e1]; exact hz), fun q h1 h2 => by rw [e1, hk q (Nat.lt_of_lt_of_le h1 hS.1) (fun z => h2 (hF q z))]; exact hS.2.1 q h1 h2, fun q hq => hF _ (hLf q hq)⟩
  have htX : tX = 55 := hQX.1
  subst htX
  have hP1 : va_P h.2.1 vwCl (wl ρX 55 FX) T'.heap := by rw [e1]; exact hP1
  have hD1 : va_D (fun q : Nat => s.heap.size ≤ q) (wl ρX 55 FX) := hD1.weaken (fun k q _ z => hF q.1 z)
  have hq0 : ρX 0 = q0 := hQX.2.1
  have W2 : W p l e room_1 s m #[Value.ref b] below meth c T'.heap ([] ++ L') (0 + 1 + 54) (0 + 8 + 4800) (lw_Z below #[Value.ref b] s) (F0 m (0 + 3 + 1 + 3) ls [.ref q0]) := by
    clear st X' e1 e2 hz hk hh0 hrun hM hT X
    generalize T'.heap = H1 at hP1 hS' ⊢
    clear hP hD hS hF
    refine lv_astore_n (lv' := [(1, .ref q0), (0, .ref b)]) hx hb dL_law_7 rfl hl (by decide) rfl (fun ls hl => ?_)
    obtain ⟨C6, T6, ty6, n1, n2, n3, n4, n5, n6, n7⟩ := nw_RL_10
    refine va_new (D := h.2.1) (cl := vwCl) (tys := tyH h) (ci := 6) (fs := [.null, .null, .null, .null, .int 0, .null, .null, .null, .int 0, .null, .null, .null, .int 0, .long 0, .null, .int 0, .int 0, .int 0, .int 0, .int 0, .null, .null, .null, .null]) (C := C6) (T := T6) (N := 24) hx hb hts (fun w hw => gtb_tbl (n2 w hw)) ty6 n3 hown (hgt n4) (hgt n5) (hgt n6) hK hP1 hD1 hS' hA n1 n7 (Nat.le_of_ble_eq_true rfl) (Nat.le_of_ble_eq_true rfl) dL_law_8 (fun qm H2 hP2 hD2 hS2 => ?_)
    refine lv_dup hx hb dL_law_11 rfl ?_
    have hlen : (wl ρX 55 FX).length = 55 := by simp [wl]
    have hPX : va_P h.2.1 vwCl (wl ρX 55 FX) H2 := fun k q hk => hP2 k q (by rw [List.getElem?_append_left (List.getElem?_eq_some_iff.mp hk).1]; exact hk)
    have hat : (wl ρX 55 FX ++ [(qm, (Sum.inr (6, [.null, .null, .null, .null, .int 0, .null, .null, .null, .int 0, .null, .null, .null, .int 0, .long 0, .null, .int 0, .int 0, .int 0, .int 0, .int 0, .null, .null, .null, .null]) : va_E))])[55]? = some (qm, .inr (6, [.null, .null, .null, .null, .int 0, .null, .null, .null, .int 0, .null, .null, .null, .int 0, .long 0, .null, .int 0, .int 0, .int 0, .int 0, .int 0, .null, .null, .null, .null])) := by
      rw [List.getElem?_append_right (by rw [hlen]; exact Nat.le_refl _), hlen]
      rfl
    have hPm : va_P h.2.1 vwCl (wl (fun _ => qm) 1 (fun _ => .inr (6, [.null, .null, .null, .null, .int 0, .null, .null, .null, .int 0, .null, .null, .null, .int 0, .long 0, .null, .int 0, .int 0, .int 0, .int 0, .int 0, .null, .null, .null, .null]))) H2 := by
      intro k q hk
      obtain ⟨hk1, rfl⟩ := wl_in hk
      exact hP2 55 _ hat
    have hDm : va_D (fun q : Nat => s.heap.size ≤ q) (wl (fun _ => qm) 1 (fun _ => .inr (6, [.null, .null, .null, .null, .int 0, .null, .null, .null, .int 0, .null, .null, .null, .int 0, .long 0, .null, .int 0, .int 0, .int 0, .int 0, .int 0, .null, .null, .null, .null]))) := by
      refine ⟨fun i j x y hi hj _ => ?_, fun k q hk => ?_⟩
      · have a1 := (wl_in hi).1
        have a2 := (wl_in hj).1
        omega
      · obtain ⟨-, rfl⟩ := wl_in hk
        exact hD2.2 55 _ hat
    have hne : ∀ i, i < 55 → ρX i ≠ qm := by
      intro i hi z
      have a1 : (wl ρX 55 FX ++ [(qm, (Sum.inr (6, [.null, .null, .null, .null, .int 0, .null, .null, .null, .int 0, .null, .null, .null, .int 0, .long 0, .null, .int 0, .int 0, .int 0, .int 0, .int 0, .null, .null, .null, .null]) : va_E))])[i]? = some (ρX i, FX i) := by
        rw [List.getElem?_append_left (by rw [hlen]; exact hi)]
        exact wl_at hi
      have := hD2.1 i 55 _ _ a1 hat z
      omega
    have hF2 : ∀ q, va_A (wl (fun _ => qm) 1 (fun _ => .inr (6, [.null, .null, .null, .null, .int 0, .null, .null, .null, .int 0, .null, .null, .null, .int 0, .long 0, .null, .int 0, .int 0, .int 0, .int 0, .int 0, .null, .null, .null, .null]))) H2.size q → s.heap.size ≤ q := by
      intro q hq
      rcases hq with ⟨k, e, hq⟩ | hq
      · exact hDm.2 k _ hq
      · exact Nat.le_trans hS2.1 hq
    obtain ⟨u1, u2, u3, u4, u5, u6, u7⟩ := ci_RL_12
    have hM := cc_Model (h := h) (ρ := fun _ => qm) (t := 1) (k := 0) (b := qm) (F := fun _ => .inr (6, [.null, .null, .null, .null, .int 0, .null, .null, .null, .int 0, .null, .null, .null, .int 0, .long 0, .null, .int 0, .int 0, .int 0, .int 0, .int 0, .null, .null, .null, .null])) (by omega) rfl rfl H2.size
    rw [hl0] at hM
    have hrun := va_runI (p := p) (l := l) (e := e) (R := room_1) (below := below) (meth := meth) (locs := [] ++ L') (cells := 0 + 1 + 54 + 1) (slots := 0 + 8 + 4800 + 24) (g := F0 m (0 + 3 + 1 + 3 + 1 + 3 + 1) ls (.ref qm :: .ref qm :: [])) (As := []) (rest := [.ref qm]) (b := qm) ⟨hx, hb, hml, hown, hts⟩ hM ⟨callB_of 0 hts (gtb_in_tbl (ν := mtX6_init) u4) rfl rfl rfl (hgt u3) (hgt u1) u7 ⟨Nat.le_of_ble_eq_true rfl, Nat.le_of_ble_eq_true rfl⟩, u6, hgt u2⟩ (hpre _ _ _ qm H2 hPm hDm) rfl rfl hl.1 rfl (lv_room (Nat.le_of_ble_eq_true rfl)) dL_law_12 ⟨Nat.le_of_ble_eq_true rfl, Nat.le_of_ble_eq_true rfl⟩
    intro T hT X
    obtain ⟨v, st₀, u, T', L2, hh0, X', hLf, e1, e2, ⟨hv, ⟨ρY, tY, FY, hQY, hP3, hD3⟩, hz, hk⟩, st⟩ := hrun T hT X
    cases hv
    rw [hh0] at hz hk
    have hS3 : va_S (fun q : Nat => s.heap.size ≤ q) s.heap T'.heap ([] ++ L' ++ L2) := ⟨Nat.le_trans hS2.1 (by rw [e1]; exact hz), fun q h1 h2 => by rw [e1, hk q (Nat.lt_of_lt_of_le h1 hS2.1) (fun z => h2 (hF2 q z))]; exact hS2.2.1 q h1 h2, fun q hq => by
      rcases List.mem_append.mp hq with z | z
      · exact hS2.2.2 q z
      · exact hF2 _ (hLf q z)⟩
    have htY : tY = 16 := hQY.1
    subst htY
    have hXlt : ∀ i, i < 55 → ρX i < H2.size := fun i hi => (hPX i _ (wl_at hi)).lt
    have hnotin : ∀ i, i < 55 → ¬ va_A (wl (fun _ => qm) 1 (fun _ => .inr (6, [.null, .null, .null, .null, .int 0, .null, .null, .null, .int 0, .null, .null, .null, .int 0, .long 0, .null, .int 0, .int 0, .int 0, .int 0, .int 0, .null, .null, .null, .null]))) H2.size (ρX i) := by
      intro i hi z
      rcases z with ⟨k, e', z⟩ | z
      · obtain ⟨-, w4⟩ := wl_in z
        exact hne i hi (congrArg Prod.fst w4)
      · have := hXlt i hi
        omega
    have hPX3 : va_P h.2.1 vwCl (wl ρX 55 FX) T'.heap := by
      refine hPX.kept (fun k q hkq => ?_)
      obtain ⟨w1, rfl⟩ := wl_in hkq
      rw [e1]
      exact hk _ (hXlt k w1) (hnotin k w1)
    have hPY3 : va_P h.2.1 vwCl (wl ρY 16 FY) T'.heap := by rw [e1]; exact hP3
    have hapt : ∀ i j, i < 55 → j < 16 → ρX i ≠ ρY j := by
      intro i j hi hj z
      have a1 := wl_mem hD3 hj
      rw [← z] at a1
      exact hnotin i hi a1
    have hDX : va_D (fun q : Nat => s.heap.size ≤ q) (wl ρX 55 FX) := hD1
    have hDY : va_D (fun q : Nat => s.heap.size ≤ q) (wl ρY 16 FY) := hD3.weaken (fun k q _ z => hF2 q.1 z)
    have hqm : ρY 0 = qm := hQY.2.1 0 (by omega)
    -- the worlds
    obtain ⟨gX, hgX⟩ : ∃ g : Gt, g = (wX, h, gpo ρX 55 prm sio tab aK aV, aK, aV, tab) := ⟨_, rfl⟩
    obtain ⟨gY, hgY⟩ : ∃ g : Gt, g = (wY, h, gpo ρY 16 (fun n => n) sio tab aK aV, aK, aV, tab) := ⟨_, rfl⟩
    have gpX : ∀ n, n < 55 → gp gX n = ρX (prm n) := by
      intro n hn
      rw [hgX]
      show gpo ρX 55 prm sio tab aK aV n = _
      unfold gpo
      rw [if_pos hn]
    have gpY : ∀ n, n < 16 → gp gY n = ρY n := by
      intro n hn
      rw [hgY]
      show gpo ρY 16 (fun n => n) sio tab aK aV n = _
      unfold gpo
      rw [if_pos hn]
    have hSgX : Sg gX (fun q : Nat => s.heap.size ≤ q) s s.heap := by
      rw [hgX]
      refine ⟨hN, hSt, hRf, hCS, hsio, hKA, hTab, rfl, fun i hi => ⟨?_, ?_⟩⟩
      · show gpo ρX 55 prm sio tab aK aV (1000 + i) = aK i
        unfold gpo
        rw [if_neg (by omega), if_neg (by omega), if_neg (by omega), if_pos (by omega), show 1000 + i - 1000 = i by omega]
      · show gpo ρX 55 prm sio tab aK aV (2000 + i) = aV i
        unfold gpo
        rw [if_neg (by omega), if_neg (by omega), if_neg (by omega), if_neg (by omega), show 2000 + i - 2000 = i by omega]
    have hSgY : Sg gY (fun q : Nat => s.heap.size ≤ q) s s.heap := by
      rw [hgY]
      refine ⟨hN, hSt, hRf, hCS, hsio, hKA, hTab, rfl, fun i hi => ⟨?_, ?_⟩⟩
      · show gpo ρY 16 (fun n => n) sio tab aK aV (1000 + i) = aK i
        unfold gpo
        rw [if_neg (by omega), if_neg (by omega), if_neg (by omega), if_pos (by omega), show 1000 + i - 1000 = i by omega]
      · show gpo ρY 16 (fun n => n) sio tab aK aV (2000 + i) = aV i
        unfold gpo
        rw [if_neg (by omega), if_neg (by omega), if_neg (by omega), if_neg (by omega), show 2000 + i - 2000 = i by omega]
    have wPX : va_P (gD gX) vwCl (wd gX M0X) T'.heap := by
      refine wd_P (fun n hn => ?_)
      have := worldX hQX hPX3 gpX n (by rw [hgX] at hn; exact hn)
      rw [hgX] at this ⊢
      exact this
    have wPY : va_P (gD gY) vwCl (wd gY M0Y) T'.heap := by
      refine wd_P (fun n hn => ?_)
      have := worldY hQY hPY3 gpY n (by rw [hgY] at hn; exact hn)
      rw [hgY] at this ⊢
      exact this
    have nX : gN gX = 55 := by rw [hgX]; rfl
    have nY : gN gY = 16 := by rw [hgY]; rfl
    have wDX : va_D (fun q : Nat => s.heap.size ≤ q) (wd gX M0X) := by
      refine wd_Dm (fun i j hi hj z => ?_) (fun i hi => ?_)
      · rw [nX] at hi hj
        rw [gpX i hi, gpX j hj] at z
        exact prm_inj i hi j hj (wl_inj hDX (prm_lt i hi) (prm_lt j hj) z)
      · rw [nX] at hi
        rw [gpX i hi]
        exact wl_mem hDX (prm_lt i hi)
    have wDY : va_D (fun q : Nat => s.heap.size ≤ q) (wd gY M0Y) := by
      refine wd_Dm (fun i j hi hj z => ?_) (fun i hi => ?_)
      · rw [nY] at hi hj
        rw [gpY i hi, gpY j hj] at z
        exact wl_inj hDY hi hj z
      · rw [nY] at hi
        rw [gpY i hi]
        exact wl_mem hDY hi
    have hApt : Apt gX gY := by
      refine ⟨by rw [hgX, hgY], fun i j hi hj => ?_⟩
      rw [nX] at hi
      rw [nY] at hj
      rw [gpX i hi, gpY j hj]
      exact hapt _ j (prm_lt i hi) hj
    have hCx : CxL gX gY b L xs p s m meth c := ⟨hx, hb, hml, hr, hlocks, hown, hts, hX, hbl, by rw [hgX]; exact hK, hSgX, hSgY⟩
    have e0X : gp gX 0 = q0 := (gpX 0 (by decide)).trans hq0
    have e0Y : gp gY 0 = qm := (gpY 0 (by decide)).trans hqm
    have W3 : W p l e room_1 s m #[Value.ref b] below meth c T'.heap ([] ++ L' ++ L2) (0 + 1 + 54 + 1 + 15) (0 + 8 + 4800 + 24 + 2721) (lw_Z below #[Value.ref b] s) (F0 m (0 + 3 + 1 + 3 + 1 + 3 + 1 + 3) ls [.ref qm]) := by
      refine lv_astore_n (lv' := [(2, .ref qm), (1, .ref q0), (0, .ref b)]) hx hb dL_law_15 rfl hl (by decide) rfl (fun ls hl => ?_)
      refine lv_iconst (v := 0) hx hb dL_law_16 (by decide) ?_
      refine lv_istore_n (lv' := [(3, .int 0), (2, .ref qm), (1, .ref q0), (0, .ref b)]) hx hb dL_law_17 rfl hl (by decide) rfl (fun ls hl => ?_)
      have hlh : lh (fun n => n) ls 4 [some (.ref b), some (.ref (gp gX 0)), some (.ref (gp gY 0)), some (.int (nI (6 * 0)))] := by
        refine ⟨hl.1, hl.2.1, fun i v hv => ?_⟩
        rw [rv_id]
        rw [e0X, e0Y] at hv
        match i, hv with
        | 0, hv => cases hv; exact hl.2.2 (0, .ref b) (by simp)
        | 1, hv => cases hv; exact hl.2.2 (1, .ref q0) (by simp)
        | 2, hv => cases hv; exact hl.2.2 (2, .ref qm) (by simp)
        | 3, hv => cases hv; exact hl.2.2 (3, .int 0) (by simp)
        | i + 4, hv => simp at hv
      have hloop := law_loop (zX := gX.2) (zY := gY.2) (b := b) (Ln := L) (c0 := 0 + 1 + 54 + 1 + 15) (s0 := 0 + 8 + 4800 + 24 + 2721) (xs := xs) R sm0 sm1 sm2 sm3 sm4 sm5 sm6 sm7 sm8 sm9 sm10 sm11 sm12 sm13 sm14 sm15 sm16 sm17 sm18 sm19 sm20 sm21 sm22 sm23 sm24 sm25 sm26 sm27 sm28 sm29 sm30 sm31 sm32 sm33 sm34 sm35 sm36 sm37 sm38 sm39 sm40 sm41 sm42 sm43 sm44 sm45 hskip hL 513 0 M0X M0Y (by omega) (by omega) hR0
      have eX : (wX, gX.2) = gX := by rw [hgX]
      have eY : (wY, gY.2) = gY := by rw [hgY]
      rw [eX, eY] at hloop
      have := hloop p e s m below meth c T'.heap ([] ++ L' ++ L2) ls hCx hApt ⟨Nat.le_of_ble_eq_true rfl, Nat.le_of_ble_eq_true rfl⟩ wPX wDX wPY wDY hS3 hlh
      have el : gl gX = l := by rw [hgX]; exact hl0
      rw [el] at this
      exact this
    obtain ⟨t2, a1, b1⟩ := W3 T' rfl X'
    exact ⟨t2, st t2 a1, b1⟩
  obtain ⟨t2, a1, b1⟩ := W2 T' rfl X'
  exact ⟨t2, st t2 a1, b1⟩
