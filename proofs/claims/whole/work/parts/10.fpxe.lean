def fpX5_count (a1 : Int32) (M : Me) : Option (Int32 × Me) := (if a1 = (0 : Int32) then
 some ((M.1 1 2), M)
 else
 (if a1 = (1 : Int32) then
 (fpX2_sumOf 1 a1 M).bind fun v3 =>
 some (v3, M)
 else
 (if a1 = (2 : Int32) then
 (fpX2_sumOf 1 a1 M).bind fun v5 =>
 some (v5, M)
 else
 (if a1 = (3 : Int32) then
 (fpX2_sumOf 1 a1 M).bind fun v7 =>
 some (v7, M)
 else
 (if a1 = (4 : Int32) then
 (fpX2_sumOf 1 a1 M).bind fun v9 =>
 some (v9, M)
 else
 (if a1 = (5 : Int32) then
 some ((M.1 34 1), M)
 else
 (if a1 = (6 : Int32) then
 some ((M.1 1 13), M)
 else
 (if a1 = (7 : Int32) then
 (fpX2_heldSpots 1 M).bind fun v13 =>
 some (v13, M)
 else
 (fpX5_finding (0 : Int32) M).bind fun q14 =>
 some (q14.1, q14.2)))))))))
set_option maxRecDepth 20000 in
theorem ctX5_count {z : Zt} {M : Me} {Q : Option Value → Me → Prop} (a1 : Int32)  (h : ok (fpX5_count a1 M) (fun a => Q (some (.int a.1)) a.2)) : EvM (wX, z) mtX5_count 5 109 [.ref 0, .int a1] M Q := by
  refine evm_of [some (.ref 0), some (.int a1)] 0 (by decide +kernel) (Nat.le_of_ble_eq_true rfl) rfl ?_
  unfold fpX5_count at h
  refine e_iload_n dX5_count_0 rfl ?_
  by_cases c1 : a1 = (0 : Int32)
  · refine e_tswC (0 : Int32) 48 c1 dX5_count_1 (by decide) (by decide) rfl (by decide) ?_
    have h := ok_t c1 h
    refine e_aload_n dX5_count_48 rfl ?_
    refine e_getR fa_RX5_10 is_X0 rfl dX5_count_49 ?_
    refine e_getI fa_RX5_67 is_X1 dX5_count_52 ?_
    have h := ok_some h
    exact e_iret rfl dX5_count_55 h
  · have h := ok_f c1 h
    by_cases c2 : a1 = (1 : Int32)
    · refine e_tswC (1 : Int32) 56 c2 dX5_count_1 (by decide) (by decide) rfl (by decide) ?_
      have h := ok_t c2 h
      refine e_aload_n dX5_count_56 rfl ?_
      refine e_getR fa_RX5_10 is_X0 rfl dX5_count_57 ?_
      refine e_iload_n dX5_count_60 rfl ?_
      refine e_callV (f2 := 4) (l2 := 86) (ν := mtX2_sumOf) (as := [.int a1]) cv_RX5_296 is_X1 kc_2 ⟨Nat.le_of_ble_eq_true rfl, Nat.le_of_ble_eq_true rfl⟩ rfl rfl (Nat.le_of_ble_eq_true rfl) dX5_count_61 ?_
      refine ctX2_sumOf 1 a1 is_X1 (ok_bnd h (fun v3 h => ?_))
      show Ev (wX, z) mtX5_count 5 109 64 [some (.ref 0), some (.int a1)] [.int v3] M Q
      have h := ok_some h
      exact e_iret rfl dX5_count_64 h
    · have h := ok_f c2 h
      by_cases c4 : a1 = (2 : Int32)
      · refine e_tswC (2 : Int32) 56 c4 dX5_count_1 (by decide) (by decide) rfl (by decide) ?_
        have h := ok_t c4 h
        refine e_aload_n dX5_count_56 rfl ?_
        refine e_getR fa_RX5_10 is_X0 rfl dX5_count_57 ?_
        refine e_iload_n dX5_count_60 rfl ?_
        refine e_callV (f2 := 4) (l2 := 86) (ν := mtX2_sumOf) (as := [.int a1]) cv_RX5_296 is_X1 kc_2 ⟨Nat.le_of_ble_eq_true rfl, Nat.le_of_ble_eq_true rfl⟩ rfl rfl (Nat.le_of_ble_eq_true rfl) dX5_count_61 ?_
        refine ctX2_sumOf 1 a1 is_X1 (ok_bnd h (fun v5 h => ?_))
        show Ev (wX, z) mtX5_count 5 109 64 [some (.ref 0), some (.int a1)] [.int v5] M Q
        have h := ok_some h
        exact e_iret rfl dX5_count_64 h
      · have h := ok_f c4 h
        by_cases c6 : a1 = (3 : Int32)
        · refine e_tswC (3 : Int32) 56 c6 dX5_count_1 (by decide) (by decide) rfl (by decide) ?_
          have h := ok_t c6 h
          refine e_aload_n dX5_count_56 rfl ?_
          refine e_getR fa_RX5_10 is_X0 rfl dX5_count_57 ?_
          refine e_iload_n dX5_count_60 rfl ?_
          refine e_callV (f2 := 4) (l2 := 86) (ν := mtX2_sumOf) (as := [.int a1]) cv_RX5_296 is_X1 kc_2 ⟨Nat.le_of_ble_eq_true rfl, Nat.le_of_ble_eq_true rfl⟩ rfl rfl (Nat.le_of_ble_eq_true rfl) dX5_count_61 ?_
          refine ctX2_sumOf 1 a1 is_X1 (ok_bnd h (fun v7 h => ?_))
          show Ev (wX, z) mtX5_count 5 109 64 [some (.ref 0), some (.int a1)] [.int v7] M Q
          have h := ok_some h
          exact e_iret rfl dX5_count_64 h
        · have h := ok_f c6 h
          by_cases c8 : a1 = (4 : Int32)
          · refine e_tswC (4 : Int32) 56 c8 dX5_count_1 (by decide) (by decide) rfl (by decide) ?_
            have h := ok_t c8 h
            refine e_aload_n dX5_count_56 rfl ?_
            refine e_getR fa_RX5_10 is_X0 rfl dX5_count_57 ?_
            refine e_iload_n dX5_count_60 rfl ?_
            refine e_callV (f2 := 4) (l2 := 86) (ν := mtX2_sumOf) (as := [.int a1]) cv_RX5_296 is_X1 kc_2 ⟨Nat.le_of_ble_eq_true rfl, Nat.le_of_ble_eq_true rfl⟩ rfl rfl (Nat.le_of_ble_eq_true rfl) dX5_count_61 ?_
            refine ctX2_sumOf 1 a1 is_X1 (ok_bnd h (fun v9 h => ?_))
            show Ev (wX, z) mtX5_count 5 109 64 [some (.ref 0), some (.int a1)] [.int v9] M Q
            have h := ok_some h
            exact e_iret rfl dX5_count_64 h
          · have h := ok_f c8 h
            by_cases c10 : a1 = (5 : Int32)
            · refine e_tswC (5 : Int32) 65 c10 dX5_count_1 (by decide) (by decide) rfl (by decide) ?_
              have h := ok_t c10 h
              refine e_aload_n dX5_count_65 rfl ?_
              refine e_getR fa_RX5_29 is_X0 rfl dX5_count_66 ?_
              refine e_getI fa_RX5_253 is_X34 dX5_count_69 ?_
              have h := ok_some h
              exact e_iret rfl dX5_count_72 h
            · have h := ok_f c10 h
              by_cases c11 : a1 = (6 : Int32)
              · refine e_tswC (6 : Int32) 73 c11 dX5_count_1 (by decide) (by decide) rfl (by decide) ?_
                have h := ok_t c11 h
                refine e_aload_n dX5_count_73 rfl ?_
                refine e_getR fa_RX5_10 is_X0 rfl dX5_count_74 ?_
                refine e_getI fa_RX5_233 is_X1 dX5_count_77 ?_
                have h := ok_some h
                exact e_iret rfl dX5_count_80 h
              · have h := ok_f c11 h
                by_cases c12 : a1 = (7 : Int32)
                · refine e_tswC (7 : Int32) 81 c12 dX5_count_1 (by decide) (by decide) rfl (by decide) ?_
                  have h := ok_t c12 h
                  refine e_aload_n dX5_count_81 rfl ?_
                  refine e_getR fa_RX5_10 is_X0 rfl dX5_count_82 ?_
                  refine e_callV (f2 := 0) (l2 := 0) (ν := mtX2_heldSpots) (as := []) cv_RX5_299 is_X1 kc_2 ⟨Nat.le_of_ble_eq_true rfl, Nat.le_of_ble_eq_true rfl⟩ rfl rfl (Nat.le_of_ble_eq_true rfl) dX5_count_85 ?_
                  refine ctX2_heldSpots 1 is_X1 (ok_bnd h (fun v13 h => ?_))
                  show Ev (wX, z) mtX5_count 5 109 88 [some (.ref 0), some (.int a1)] [.int v13] M Q
                  have h := ok_some h
                  exact e_iret rfl dX5_count_88 h
                · have h := ok_f c12 h
                  refine e_tswD 89 dX5_count_1 (by have q0 := lv_neT (a := 0) c1 rfl; have q1 := lv_neT (a := 1) c2 rfl; have q2 := lv_neT (a := 2) c4 rfl; have q3 := lv_neT (a := 3) c6 rfl; have q4 := lv_neT (a := 4) c8 rfl; have q5 := lv_neT (a := 5) c10 rfl; have q6 := lv_neT (a := 6) c11 rfl; have q7 := lv_neT (a := 7) c12 rfl; omega) (by decide) ?_
                  refine e_aload_n dX5_count_89 rfl ?_
                  refine e_iconst (0 : Int32) dX5_count_90 (by decide) ?_
                  refine e_callV (f2 := 0) (l2 := 0) (ν := mtX5_finding) (as := [.int (0 : Int32)]) cv_RX5_55 is_X0 kc_1 ⟨Nat.le_of_ble_eq_true rfl, Nat.le_of_ble_eq_true rfl⟩ rfl rfl (Nat.le_of_ble_eq_true rfl) dX5_count_91 ?_
                  refine ctX5_finding (0 : Int32) (ok_bnd h (fun q14 h => ?_))
                  show Ev (wX, z) mtX5_count 5 109 94 [some (.ref 0), some (.int a1)] [.int q14.1] q14.2 Q
                  have h := ok_some h
                  exact e_iret rfl dX5_count_94 h
def XX5_status_31 (z : Zt) (M : Me) (Q : Option Value → Me → Prop) : (Int32) → Prop := fun t => Ev (wX, z) mtX5_status 1 22 52 [none, none, some (.int t), none] [] M Q
def EX5_status_31 (z : Zt) (M : Me) (Q : Option Value → Me → Prop) : (Int32 × Int32) → Prop := fun s => Ev (wX, z) mtX5_status 1 22 31 [some (.ref 0), none, some (.int s.1), some (.int s.2)] [] M Q
def GX5_status_31 (z : Zt) (M : Me) (Q : Option Value → Me → Prop) : (Int32 × Int32) ⊕ (Int32) → Prop := Sum.elim (EX5_status_31 z M Q) (XX5_status_31 z M Q)
def fpX5_status_l31s (a2 : Int32) (a3 : Int32) (M : Me) : Option ((Int32 × Int32) ⊕ (Int32)) := (if (7 : Int32) ≤ a3 then
 some (.inr a2)
 else
 (inb a3 7).bind fun k4 =>
 letv (a2 + (M.1 45 k4)) fun v5 =>
 letv (a3 + (1 : Int32)) fun v6 =>
 some (.inl (v5, v6)))
def fpX5_status_l31 (M : Me) (s : Int32 × Int32) : Option ((Int32 × Int32) ⊕ (Int32)) := fpX5_status_l31s s.1 s.2 M
set_option maxRecDepth 20000 in
theorem ebX5_status_l31s {z : Zt} {Q : Option Value → Me → Prop} (a2 : Int32) (a3 : Int32) (M : Me) (h : ok (fpX5_status_l31s a2 a3 M) (GX5_status_31 z M Q)) : Ev (wX, z) mtX5_status 1 22 31 [some (.ref 0), none, some (.int a2), some (.int a3)] [] M Q := by
  unfold fpX5_status_l31s at h
  refine e_iload_n dX5_status_31 rfl ?_
  refine e_bipush (7 : Int32) dX5_status_32 (by decide) ?_
  refine e_icmp_ge 52 dX5_status_34 (by decide) (fun c3 => ?_) (fun c3 => ?_)
  · have h := ok_t c3 h
    refine e_forget [none, none, some (.int a2), none] (leL_n (leL_n (leL_s (leL_n leL_0)))) ?_
    have h := ok_some h
    exact h
  · have h := ok_f c3 h
    refine e_iload_n dX5_status_37 rfl ?_
    refine e_aload_n dX5_status_38 rfl ?_
    refine e_getR fa_RX5_39 is_X0 rfl dX5_status_39 ?_
    refine e_iload_n dX5_status_42 rfl ?_
    refine ok_inb h (fun k4 ek4 ik4 h => ?_)
    refine e_ialdK ia_X45 ik4 ek4 dX5_status_43 ?_
    refine e_iadd dX5_status_44 ?_
    refine lv1 (P := fun v5 => Ev (wX, z) mtX5_status 1 22 45 [some (.ref 0), none, some (.int a2), some (.int a3)] [.int v5] M Q) h (fun v5 h => ?_)
    refine e_istore_n dX5_status_45 (by decide) rfl ?_
    refine lv1e h (fun v6 ev6 h => ?_)
    refine e_iinc v6 dX5_status_46 rfl ev6 (by decide) rfl ?_
    refine e_goto 31 dX5_status_49 (by decide) ?_
    refine e_forget [some (.ref 0), none, some (.int v5), some (.int v6)] (leL_s (leL_n (leL_s (leL_s leL_0)))) ?_
    have h := ok_some h
    exact h
theorem elX5_status_l31 {z : Zt} {Q : Option Value → Me → Prop} (M : Me) (N : Nat) (s : Int32 × Int32) (h : ok (lp (fpX5_status_l31 M) N s) (XX5_status_31 z M Q)) : EX5_status_31 z M Q s :=
  lp_ind (fun s h => ebX5_status_l31s s.1 s.2 M h) N s h
def fpX5_status (a1 : Int32) (M : Me) : Option (Int32 × Me) := (if (fpX5_outside a1 (-1 : Int32) (6 : Int32)) = 0 then
 (if a1 < 0 then
 (lp (fpX5_status_l31 M) FU ((0 : Int32), (0 : Int32))).bind fun r7 =>
 some (r7, M)
 else
 (inb a1 7).bind fun k8 =>
 some ((M.1 45 k8), M))
 else
 (fpX5_finding (0 : Int32) M).bind fun q9 =>
 some (q9.1, q9.2))
set_option maxRecDepth 20000 in
theorem ctX5_status {z : Zt} {M : Me} {Q : Option Value → Me → Prop} (a1 : Int32)  (h : ok (fpX5_status a1 M) (fun a => Q (some (.int a.1)) a.2)) : EvM (wX, z) mtX5_status 1 22 [.ref 0, .int a1] M Q := by
  refine evm_of [some (.ref 0), some (.int a1), none, none] 2 (by decide +kernel) (Nat.le_of_ble_eq_true rfl) rfl ?_
  unfold fpX5_status at h
  refine e_iload_n dX5_status_0 rfl ?_
  refine e_iconst (-1 : Int32) dX5_status_1 (by decide) ?_
  refine e_bipush (6 : Int32) dX5_status_2 (by decide) ?_
  refine e_callS (f2 := 0) (l2 := 0) (ν := mtX5_outside) (as := [.int a1, .int (-1 : Int32), .int (6 : Int32)]) cs_RX5_51 ⟨Nat.le_of_ble_eq_true rfl, Nat.le_of_ble_eq_true rfl⟩ rfl rfl (Nat.le_of_ble_eq_true rfl) dX5_status_4 ?_
  refine ctX5_outside a1 (-1 : Int32) (6 : Int32) ?_
  show Ev (wX, z) mtX5_status 1 22 7 [some (.ref 0), some (.int a1), none, none] [.int (fpX5_outside a1 (-1 : Int32) (6 : Int32))] M Q
  refine e_if_eq 16 dX5_status_7 (by decide) (fun c1 => ?_) (fun c1 => ?_)
  · have h := ok_t c1 h
    refine e_iload_n dX5_status_16 rfl ?_
    refine e_if_lt 27 dX5_status_17 (by decide) (fun c2 => ?_) (fun c2 => ?_)
    · have h := ok_t c2 h
      refine e_iconst (0 : Int32) dX5_status_27 (by decide) ?_
      refine e_istore_n dX5_status_28 (by decide) rfl ?_
      refine e_iconst (0 : Int32) dX5_status_29 (by decide) ?_
      refine e_istore_n dX5_status_30 (by decide) rfl ?_
      refine e_forget [some (.ref 0), none, some (.int (0 : Int32)), some (.int (0 : Int32))] (leL_s (leL_n (leL_s (leL_s leL_0)))) ?_
      refine elX5_status_l31 M FU ((0 : Int32), (0 : Int32)) (ok_bnd h (fun r7 h => ?_))
      show Ev (wX, z) mtX5_status 1 22 52 [none, none, some (.int r7), none] [] M Q
      refine e_iload_n dX5_status_52 rfl ?_
      have h := ok_some h
      exact e_iret rfl dX5_status_53 h
    · have h := ok_f c2 h
      refine e_aload_n dX5_status_20 rfl ?_
      refine e_getR fa_RX5_39 is_X0 rfl dX5_status_21 ?_
      refine e_iload_n dX5_status_24 rfl ?_
      refine ok_inb h (fun k8 ek8 ik8 h => ?_)
      refine e_ialdK ia_X45 ik8 ek8 dX5_status_25 ?_
      have h := ok_some h
      exact e_iret rfl dX5_status_26 h
  · have h := ok_f c1 h
    refine e_aload_n dX5_status_10 rfl ?_
    refine e_iconst (0 : Int32) dX5_status_11 (by decide) ?_
    refine e_callV (f2 := 0) (l2 := 0) (ν := mtX5_finding) (as := [.int (0 : Int32)]) cv_RX5_55 is_X0 kc_1 ⟨Nat.le_of_ble_eq_true rfl, Nat.le_of_ble_eq_true rfl⟩ rfl rfl (Nat.le_of_ble_eq_true rfl) dX5_status_12 ?_
    refine ctX5_finding (0 : Int32) (ok_bnd h (fun q9 h => ?_))
    show Ev (wX, z) mtX5_status 1 22 15 [some (.ref 0), some (.int a1), none, none] [.int q9.1] q9.2 Q
    have h := ok_some h
    exact e_iret rfl dX5_status_15 h
