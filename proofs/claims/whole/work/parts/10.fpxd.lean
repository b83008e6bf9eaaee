def fpX5_night  (M : Me) : Option (Int32 × Me) := (if (M.1 1 10) < (999 : Int32) then
 (fpX2_beginDay 1 (0 : Int32) M).bind fun q2 =>
 some ((q2.1 1 10), q2)
 else
 (fpX5_finding (4 : Int32) M).bind fun q3 =>
 some (q3.1, q3.2))
set_option maxRecDepth 20000 in
theorem ctX5_night {z : Zt} {M : Me} {Q : Option Value → Me → Prop}   (h : ok (fpX5_night M) (fun a => Q (some (.int a.1)) a.2)) : EvM (wX, z) mtX5_night 1 22 [.ref 0] M Q := by
  refine evm_of [some (.ref 0)] 0 (by decide +kernel) (Nat.le_of_ble_eq_true rfl) rfl ?_
  unfold fpX5_night at h
  refine e_aload_n dX5_night_0 rfl ?_
  refine e_getR fa_RX5_10 is_X0 rfl dX5_night_1 ?_
  refine e_getI fa_RX5_145 is_X1 dX5_night_4 ?_
  refine e_sipush (999 : Int32) dX5_night_7 (by decide) ?_
  refine e_icmp_lt 19 dX5_night_10 (by decide) (fun c1 => ?_) (fun c1 => ?_)
  · have h := ok_t c1 h
    refine e_aload_n dX5_night_19 rfl ?_
    refine e_getR fa_RX5_10 is_X0 rfl dX5_night_20 ?_
    refine e_iconst (0 : Int32) dX5_night_23 (by decide) ?_
    refine e_callV (f2 := 0) (l2 := 0) (ν := mtX2_beginDay) (as := [.int (0 : Int32)]) cv_RX5_163 is_X1 kc_2 ⟨Nat.le_of_ble_eq_true rfl, Nat.le_of_ble_eq_true rfl⟩ rfl rfl (Nat.le_of_ble_eq_true rfl) dX5_night_24 ?_
    refine ctX2_beginDay 1 (0 : Int32) is_X1 (ok_bnd h (fun q2 h => ?_))
    show Ev (wX, z) mtX5_night 1 22 27 [some (.ref 0)] [] q2 Q
    refine e_aload_n dX5_night_27 rfl ?_
    refine e_getR fa_RX5_10 is_X0 rfl dX5_night_28 ?_
    refine e_getI fa_RX5_145 is_X1 dX5_night_31 ?_
    have h := ok_some h
    exact e_iret rfl dX5_night_34 h
  · have h := ok_f c1 h
    refine e_aload_n dX5_night_13 rfl ?_
    refine e_iconst (4 : Int32) dX5_night_14 (by decide) ?_
    refine e_callV (f2 := 0) (l2 := 0) (ν := mtX5_finding) (as := [.int (4 : Int32)]) cv_RX5_55 is_X0 kc_1 ⟨Nat.le_of_ble_eq_true rfl, Nat.le_of_ble_eq_true rfl⟩ rfl rfl (Nat.le_of_ble_eq_true rfl) dX5_night_15 ?_
    refine ctX5_finding (4 : Int32) (ok_bnd h (fun q3 h => ?_))
    show Ev (wX, z) mtX5_night 1 22 18 [some (.ref 0)] [.int q3.1] q3.2 Q
    have h := ok_some h
    exact e_iret rfl dX5_night_18 h
def fpX5_row (a1 : Int32) (M : Me) : Option (Int32 × Me) := (if (fpX5_notCarried a1 M) = 0 then
 (fpX0_lay 1 (M.1 1 8) M).bind fun q2 =>
 (fpX0_planAll q2).bind fun q3 =>
 (fpX0_planBrings a1 (-1 : Int32) q3).bind fun v4 =>
 some (v4, q3)
 else
 (fpX5_finding (0 : Int32) M).bind fun q5 =>
 some (q5.1, q5.2))
set_option maxRecDepth 20000 in
theorem ctX5_row {z : Zt} {M : Me} {Q : Option Value → Me → Prop} (a1 : Int32)  (h : ok (fpX5_row a1 M) (fun a => Q (some (.int a.1)) a.2)) : EvM (wX, z) mtX5_row 4 88 [.ref 0, .int a1] M Q := by
  refine evm_of [some (.ref 0), some (.int a1)] 0 (by decide +kernel) (Nat.le_of_ble_eq_true rfl) rfl ?_
  unfold fpX5_row at h
  refine e_aload_n dX5_row_0 rfl ?_
  refine e_iload_n dX5_row_1 rfl ?_
  refine e_callV (f2 := 1) (l2 := 22) (ν := mtX5_notCarried) (as := [.int a1]) cv_RX5_133 is_X0 kc_1 ⟨Nat.le_of_ble_eq_true rfl, Nat.le_of_ble_eq_true rfl⟩ rfl rfl (Nat.le_of_ble_eq_true rfl) dX5_row_2 ?_
  refine ctX5_notCarried a1 ?_
  show Ev (wX, z) mtX5_row 4 88 5 [some (.ref 0), some (.int a1)] [.int (fpX5_notCarried a1 M)] M Q
  refine e_if_eq 14 dX5_row_5 (by decide) (fun c1 => ?_) (fun c1 => ?_)
  · have h := ok_t c1 h
    refine e_aload_n dX5_row_14 rfl ?_
    refine e_getR fa_RX5_46 is_X0 rfl dX5_row_15 ?_
    refine e_aload_n dX5_row_18 rfl ?_
    refine e_getR fa_RX5_10 is_X0 rfl dX5_row_19 ?_
    refine e_aload_n dX5_row_22 rfl ?_
    refine e_getR fa_RX5_10 is_X0 rfl dX5_row_23 ?_
    refine e_getI fa_RX5_123 is_X1 dX5_row_26 ?_
    refine e_callV (f2 := 3) (l2 := 64) (ν := mtX0_lay) (as := [.ref 1, .int (M.1 1 8)]) cv_RX5_172 is_X46 kc_6 ⟨Nat.le_of_ble_eq_true rfl, Nat.le_of_ble_eq_true rfl⟩ rfl rfl (Nat.le_of_ble_eq_true rfl) dX5_row_29 ?_
    refine ctX0_lay 1 (M.1 1 8) is_X1 (ok_bnd h (fun q2 h => ?_))
    show Ev (wX, z) mtX5_row 4 88 32 [some (.ref 0), some (.int a1)] [] q2 Q
    refine e_aload_n dX5_row_32 rfl ?_
    refine e_getR fa_RX5_46 is_X0 rfl dX5_row_33 ?_
    refine e_callV (f2 := 0) (l2 := 0) (ν := mtX0_planAll) (as := []) cv_RX5_176 is_X46 kc_6 ⟨Nat.le_of_ble_eq_true rfl, Nat.le_of_ble_eq_true rfl⟩ rfl rfl (Nat.le_of_ble_eq_true rfl) dX5_row_36 ?_
    refine ctX0_planAll (ok_bnd h (fun q3 h => ?_))
    show Ev (wX, z) mtX5_row 4 88 39 [some (.ref 0), some (.int a1)] [] q3 Q
    refine e_aload_n dX5_row_39 rfl ?_
    refine e_getR fa_RX5_46 is_X0 rfl dX5_row_40 ?_
    refine e_iload_n dX5_row_43 rfl ?_
    refine e_iconst (-1 : Int32) dX5_row_44 (by decide) ?_
    refine e_callV (f2 := 2) (l2 := 44) (ν := mtX0_planBrings) (as := [.int a1, .int (-1 : Int32)]) cv_RX5_179 is_X46 kc_6 ⟨Nat.le_of_ble_eq_true rfl, Nat.le_of_ble_eq_true rfl⟩ rfl rfl (Nat.le_of_ble_eq_true rfl) dX5_row_45 ?_
    refine ctX0_planBrings a1 (-1 : Int32) (ok_bnd h (fun v4 h => ?_))
    show Ev (wX, z) mtX5_row 4 88 48 [some (.ref 0), some (.int a1)] [.int v4] q3 Q
    have h := ok_some h
    exact e_iret rfl dX5_row_48 h
  · have h := ok_f c1 h
    refine e_aload_n dX5_row_8 rfl ?_
    refine e_iconst (0 : Int32) dX5_row_9 (by decide) ?_
    refine e_callV (f2 := 0) (l2 := 0) (ν := mtX5_finding) (as := [.int (0 : Int32)]) cv_RX5_55 is_X0 kc_1 ⟨Nat.le_of_ble_eq_true rfl, Nat.le_of_ble_eq_true rfl⟩ rfl rfl (Nat.le_of_ble_eq_true rfl) dX5_row_10 ?_
    refine ctX5_finding (0 : Int32) (ok_bnd h (fun q5 h => ?_))
    show Ev (wX, z) mtX5_row 4 88 13 [some (.ref 0), some (.int a1)] [.int q5.1] q5.2 Q
    have h := ok_some h
    exact e_iret rfl dX5_row_13 h
def fpX5_most (a1 : Int32) (M : Me) : Option (Int32 × Me) := (if (fpX5_notCarried a1 M) = 0 then
 (fpX0_lay 1 (M.1 1 8) M).bind fun q2 =>
 (fpX0_mostWith a1 q2).bind fun q3 =>
 some (q3.1, q3.2)
 else
 (fpX5_finding (0 : Int32) M).bind fun q4 =>
 some (q4.1, q4.2))
set_option maxRecDepth 20000 in
theorem ctX5_most {z : Zt} {M : Me} {Q : Option Value → Me → Prop} (a1 : Int32)  (h : ok (fpX5_most a1 M) (fun a => Q (some (.int a.1)) a.2)) : EvM (wX, z) mtX5_most 6 143 [.ref 0, .int a1] M Q := by
  refine evm_of [some (.ref 0), some (.int a1)] 0 (by decide +kernel) (Nat.le_of_ble_eq_true rfl) rfl ?_
  unfold fpX5_most at h
  refine e_aload_n dX5_most_0 rfl ?_
  refine e_iload_n dX5_most_1 rfl ?_
  refine e_callV (f2 := 1) (l2 := 22) (ν := mtX5_notCarried) (as := [.int a1]) cv_RX5_133 is_X0 kc_1 ⟨Nat.le_of_ble_eq_true rfl, Nat.le_of_ble_eq_true rfl⟩ rfl rfl (Nat.le_of_ble_eq_true rfl) dX5_most_2 ?_
  refine ctX5_notCarried a1 ?_
  show Ev (wX, z) mtX5_most 6 143 5 [some (.ref 0), some (.int a1)] [.int (fpX5_notCarried a1 M)] M Q
  refine e_if_eq 14 dX5_most_5 (by decide) (fun c1 => ?_) (fun c1 => ?_)
  · have h := ok_t c1 h
    refine e_aload_n dX5_most_14 rfl ?_
    refine e_getR fa_RX5_46 is_X0 rfl dX5_most_15 ?_
    refine e_aload_n dX5_most_18 rfl ?_
    refine e_getR fa_RX5_10 is_X0 rfl dX5_most_19 ?_
    refine e_aload_n dX5_most_22 rfl ?_
    refine e_getR fa_RX5_10 is_X0 rfl dX5_most_23 ?_
    refine e_getI fa_RX5_123 is_X1 dX5_most_26 ?_
    refine e_callV (f2 := 3) (l2 := 64) (ν := mtX0_lay) (as := [.ref 1, .int (M.1 1 8)]) cv_RX5_172 is_X46 kc_6 ⟨Nat.le_of_ble_eq_true rfl, Nat.le_of_ble_eq_true rfl⟩ rfl rfl (Nat.le_of_ble_eq_true rfl) dX5_most_29 ?_
    refine ctX0_lay 1 (M.1 1 8) is_X1 (ok_bnd h (fun q2 h => ?_))
    show Ev (wX, z) mtX5_most 6 143 32 [some (.ref 0), some (.int a1)] [] q2 Q
    refine e_aload_n dX5_most_32 rfl ?_
    refine e_getR fa_RX5_46 is_X0 rfl dX5_most_33 ?_
    refine e_iload_n dX5_most_36 rfl ?_
    refine e_callV (f2 := 5) (l2 := 122) (ν := mtX0_mostWith) (as := [.int a1]) cv_RX5_183 is_X46 kc_6 ⟨Nat.le_of_ble_eq_true rfl, Nat.le_of_ble_eq_true rfl⟩ rfl rfl (Nat.le_of_ble_eq_true rfl) dX5_most_37 ?_
    refine ctX0_mostWith a1 (ok_bnd h (fun q3 h => ?_))
    show Ev (wX, z) mtX5_most 6 143 40 [some (.ref 0), some (.int a1)] [.int q3.1] q3.2 Q
    have h := ok_some h
    exact e_iret rfl dX5_most_40 h
  · have h := ok_f c1 h
    refine e_aload_n dX5_most_8 rfl ?_
    refine e_iconst (0 : Int32) dX5_most_9 (by decide) ?_
    refine e_callV (f2 := 0) (l2 := 0) (ν := mtX5_finding) (as := [.int (0 : Int32)]) cv_RX5_55 is_X0 kc_1 ⟨Nat.le_of_ble_eq_true rfl, Nat.le_of_ble_eq_true rfl⟩ rfl rfl (Nat.le_of_ble_eq_true rfl) dX5_most_10 ?_
    refine ctX5_finding (0 : Int32) (ok_bnd h (fun q4 h => ?_))
    show Ev (wX, z) mtX5_most 6 143 13 [some (.ref 0), some (.int a1)] [.int q4.1] q4.2 Q
    have h := ok_some h
    exact e_iret rfl dX5_most_13 h
def fpX5_order (a1 : Int32) (a2 : Int32) (M : Me) : Option (Int32 × Me) := (if (fpX5_notCarried a1 M) = 0 then
 (if (fpX5_outside a2 (0 : Int32) (7 : Int32)) = 0 then
 (fpX0_lay 1 (M.1 1 8) M).bind fun q4 =>
 (fpX0_planBest a1 q4).bind fun q5 =>
 (if (q5.1 46 1) ≤ a2 then
 (fpX5_finding (3 : Int32) q5).bind fun q7 =>
 some (q7.1, q7.2)
 else
 (inb a2 8).bind fun k8 =>
 some ((q5.1 47 k8), q5))
 else
 (fpX5_finding (0 : Int32) M).bind fun q9 =>
 some (q9.1, q9.2))
 else
 (fpX5_finding (0 : Int32) M).bind fun q2 =>
 some (q2.1, q2.2))
set_option maxRecDepth 20000 in
theorem ctX5_order {z : Zt} {M : Me} {Q : Option Value → Me → Prop} (a1 : Int32) (a2 : Int32)  (h : ok (fpX5_order a1 a2 M) (fun a => Q (some (.int a.1)) a.2)) : EvM (wX, z) mtX5_order 7 170 [.ref 0, .int a1, .int a2] M Q := by
  refine evm_of [some (.ref 0), some (.int a1), some (.int a2)] 0 (by decide +kernel) (Nat.le_of_ble_eq_true rfl) rfl ?_
  unfold fpX5_order at h
  refine e_aload_n dX5_order_0 rfl ?_
  refine e_iload_n dX5_order_1 rfl ?_
  refine e_callV (f2 := 1) (l2 := 22) (ν := mtX5_notCarried) (as := [.int a1]) cv_RX5_133 is_X0 kc_1 ⟨Nat.le_of_ble_eq_true rfl, Nat.le_of_ble_eq_true rfl⟩ rfl rfl (Nat.le_of_ble_eq_true rfl) dX5_order_2 ?_
  refine ctX5_notCarried a1 ?_
  show Ev (wX, z) mtX5_order 7 170 5 [some (.ref 0), some (.int a1), some (.int a2)] [.int (fpX5_notCarried a1 M)] M Q
  refine e_if_ne 18 dX5_order_5 (by decide) (fun c1 => ?_) (fun c1 => ?_)
  · have h := ok_f c1 h
    refine e_aload_n dX5_order_18 rfl ?_
    refine e_iconst (0 : Int32) dX5_order_19 (by decide) ?_
    refine e_callV (f2 := 0) (l2 := 0) (ν := mtX5_finding) (as := [.int (0 : Int32)]) cv_RX5_55 is_X0 kc_1 ⟨Nat.le_of_ble_eq_true rfl, Nat.le_of_ble_eq_true rfl⟩ rfl rfl (Nat.le_of_ble_eq_true rfl) dX5_order_20 ?_
    refine ctX5_finding (0 : Int32) (ok_bnd h (fun q2 h => ?_))
    show Ev (wX, z) mtX5_order 7 170 23 [some (.ref 0), some (.int a1), some (.int a2)] [.int q2.1] q2.2 Q
    have h := ok_some h
    exact e_iret rfl dX5_order_23 h
  · have h := ok_t c1 h
    refine e_iload_n dX5_order_8 rfl ?_
    refine e_iconst (0 : Int32) dX5_order_9 (by decide) ?_
    refine e_bipush (7 : Int32) dX5_order_10 (by decide) ?_
    refine e_callS (f2 := 0) (l2 := 0) (ν := mtX5_outside) (as := [.int a2, .int (0 : Int32), .int (7 : Int32)]) cs_RX5_51 ⟨Nat.le_of_ble_eq_true rfl, Nat.le_of_ble_eq_true rfl⟩ rfl rfl (Nat.le_of_ble_eq_true rfl) dX5_order_12 ?_
    refine ctX5_outside a2 (0 : Int32) (7 : Int32) ?_
    show Ev (wX, z) mtX5_order 7 170 15 [some (.ref 0), some (.int a1), some (.int a2)] [.int (fpX5_outside a2 (0 : Int32) (7 : Int32))] M Q
    refine e_if_eq 24 dX5_order_15 (by decide) (fun c3 => ?_) (fun c3 => ?_)
    · have h := ok_t c3 h
      refine e_aload_n dX5_order_24 rfl ?_
      refine e_getR fa_RX5_46 is_X0 rfl dX5_order_25 ?_
      refine e_aload_n dX5_order_28 rfl ?_
      refine e_getR fa_RX5_10 is_X0 rfl dX5_order_29 ?_
      refine e_aload_n dX5_order_32 rfl ?_
      refine e_getR fa_RX5_10 is_X0 rfl dX5_order_33 ?_
      refine e_getI fa_RX5_123 is_X1 dX5_order_36 ?_
      refine e_callV (f2 := 3) (l2 := 64) (ν := mtX0_lay) (as := [.ref 1, .int (M.1 1 8)]) cv_RX5_172 is_X46 kc_6 ⟨Nat.le_of_ble_eq_true rfl, Nat.le_of_ble_eq_true rfl⟩ rfl rfl (Nat.le_of_ble_eq_true rfl) dX5_order_39 ?_
      refine ctX0_lay 1 (M.1 1 8) is_X1 (ok_bnd h (fun q4 h => ?_))
      show Ev (wX, z) mtX5_order 7 170 42 [some (.ref 0), some (.int a1), some (.int a2)] [] q4 Q
      refine e_aload_n dX5_order_42 rfl ?_
      refine e_getR fa_RX5_46 is_X0 rfl dX5_order_43 ?_
      refine e_iload_n dX5_order_46 rfl ?_
      refine e_callV (f2 := 6) (l2 := 143) (ν := mtX0_planBest) (as := [.int a1]) cv_RX5_186 is_X46 kc_6 ⟨Nat.le_of_ble_eq_true rfl, Nat.le_of_ble_eq_true rfl⟩ rfl rfl (Nat.le_of_ble_eq_true rfl) dX5_order_47 ?_
      refine ctX0_planBest a1 (ok_bnd h (fun q5 h => ?_))
      show Ev (wX, z) mtX5_order 7 170 50 [some (.ref 0), some (.int a1), some (.int a2)] [] q5 Q
      refine e_iload_n dX5_order_50 rfl ?_
      refine e_aload_n dX5_order_51 rfl ?_
      refine e_getR fa_RX5_46 is_X0 rfl dX5_order_52 ?_
      refine e_getI fa_RX5_189 is_X46 dX5_order_55 ?_
      refine e_icmp_ge 73 dX5_order_58 (by decide) (fun c6 => ?_) (fun c6 => ?_)
      · have h := ok_t c6 h
        refine e_aload_n dX5_order_73 rfl ?_
        refine e_iconst (3 : Int32) dX5_order_74 (by decide) ?_
        refine e_callV (f2 := 0) (l2 := 0) (ν := mtX5_finding) (as := [.int (3 : Int32)]) cv_RX5_55 is_X0 kc_1 ⟨Nat.le_of_ble_eq_true rfl, Nat.le_of_ble_eq_true rfl⟩ rfl rfl (Nat.le_of_ble_eq_true rfl) dX5_order_75 ?_
        refine ctX5_finding (3 : Int32) (ok_bnd h (fun q7 h => ?_))
        show Ev (wX, z) mtX5_order 7 170 78 [some (.ref 0), some (.int a1), some (.int a2)] [.int q7.1] q7.2 Q
        have h := ok_some h
        exact e_iret rfl dX5_order_78 h
      · have h := ok_f c6 h
        refine e_aload_n dX5_order_61 rfl ?_
        refine e_getR fa_RX5_46 is_X0 rfl dX5_order_62 ?_
        refine e_getR fa_RX5_192 is_X46 rfl dX5_order_65 ?_
        refine e_iload_n dX5_order_68 rfl ?_
        refine ok_inb h (fun k8 ek8 ik8 h => ?_)
        refine e_ialdK ia_X47 ik8 ek8 dX5_order_69 ?_
        refine e_goto 78 dX5_order_70 (by decide) ?_
        have h := ok_some h
        exact e_iret rfl dX5_order_78 h
    · have h := ok_f c3 h
      refine e_aload_n dX5_order_18 rfl ?_
      refine e_iconst (0 : Int32) dX5_order_19 (by decide) ?_
      refine e_callV (f2 := 0) (l2 := 0) (ν := mtX5_finding) (as := [.int (0 : Int32)]) cv_RX5_55 is_X0 kc_1 ⟨Nat.le_of_ble_eq_true rfl, Nat.le_of_ble_eq_true rfl⟩ rfl rfl (Nat.le_of_ble_eq_true rfl) dX5_order_20 ?_
      refine ctX5_finding (0 : Int32) (ok_bnd h (fun q9 h => ?_))
      show Ev (wX, z) mtX5_order 7 170 23 [some (.ref 0), some (.int a1), some (.int a2)] [.int q9.1] q9.2 Q
      have h := ok_some h
      exact e_iret rfl dX5_order_23 h
def fpX5_carriedOrNone (a1 : Int32) (M : Me) : Option (Int32 × Me) := (if a1 ≤ (M.1 1 6) then
 some (a1, M)
 else
 (fpX5_finding (3 : Int32) M).bind fun q2 =>
 some (q2.1, q2.2))
set_option maxRecDepth 20000 in
theorem ctX5_carriedOrNone {z : Zt} {M : Me} {Q : Option Value → Me → Prop} (a1 : Int32)  (h : ok (fpX5_carriedOrNone a1 M) (fun a => Q (some (.int a.1)) a.2)) : EvM (wX, z) mtX5_carriedOrNone 1 21 [.ref 0, .int a1] M Q := by
  refine evm_of [some (.ref 0), some (.int a1)] 0 (by decide +kernel) (Nat.le_of_ble_eq_true rfl) rfl ?_
  unfold fpX5_carriedOrNone at h
  refine e_iload_n dX5_carriedOrNone_0 rfl ?_
  refine e_aload_n dX5_carriedOrNone_1 rfl ?_
  refine e_getR fa_RX5_10 is_X0 rfl dX5_carriedOrNone_2 ?_
  refine e_getI fa_RX5_117 is_X1 dX5_carriedOrNone_5 ?_
  refine e_icmp_le 19 dX5_carriedOrNone_8 (by decide) (fun c1 => ?_) (fun c1 => ?_)
  · have h := ok_t c1 h
    refine e_iload_n dX5_carriedOrNone_19 rfl ?_
    have h := ok_some h
    exact e_iret rfl dX5_carriedOrNone_20 h
  · have h := ok_f c1 h
    refine e_aload_n dX5_carriedOrNone_11 rfl ?_
    refine e_iconst (3 : Int32) dX5_carriedOrNone_12 (by decide) ?_
    refine e_callV (f2 := 0) (l2 := 0) (ν := mtX5_finding) (as := [.int (3 : Int32)]) cv_RX5_55 is_X0 kc_1 ⟨Nat.le_of_ble_eq_true rfl, Nat.le_of_ble_eq_true rfl⟩ rfl rfl (Nat.le_of_ble_eq_true rfl) dX5_carriedOrNone_13 ?_
    refine ctX5_finding (3 : Int32) (ok_bnd h (fun q2 h => ?_))
    show Ev (wX, z) mtX5_carriedOrNone 1 21 16 [some (.ref 0), some (.int a1)] [.int q2.1] q2.2 Q
    refine e_goto 20 dX5_carriedOrNone_16 (by decide) ?_
    have h := ok_some h
    exact e_iret rfl dX5_carriedOrNone_20 h
def fpX5_least  (M : Me) : Option (Int32 × Me) := (fpX0_lay 1 (M.1 1 8) M).bind fun q1 =>
 (fpX0_leastStart (0 : Int32) (q1.1 1 2) q1).bind fun q2 =>
 (fpX5_carriedOrNone q2.1 q2.2).bind fun q3 =>
 some (q3.1, q3.2)
set_option maxRecDepth 20000 in
theorem ctX5_least {z : Zt} {M : Me} {Q : Option Value → Me → Prop}   (h : ok (fpX5_least M) (fun a => Q (some (.int a.1)) a.2)) : EvM (wX, z) mtX5_least 4 95 [.ref 0] M Q := by
  refine evm_of [some (.ref 0)] 0 (by decide +kernel) (Nat.le_of_ble_eq_true rfl) rfl ?_
  unfold fpX5_least at h
  refine e_aload_n dX5_least_0 rfl ?_
  refine e_getR fa_RX5_46 is_X0 rfl dX5_least_1 ?_
  refine e_aload_n dX5_least_4 rfl ?_
  refine e_getR fa_RX5_10 is_X0 rfl dX5_least_5 ?_
  refine e_aload_n dX5_least_8 rfl ?_
  refine e_getR fa_RX5_10 is_X0 rfl dX5_least_9 ?_
  refine e_getI fa_RX5_123 is_X1 dX5_least_12 ?_
  refine e_callV (f2 := 3) (l2 := 64) (ν := mtX0_lay) (as := [.ref 1, .int (M.1 1 8)]) cv_RX5_172 is_X46 kc_6 ⟨Nat.le_of_ble_eq_true rfl, Nat.le_of_ble_eq_true rfl⟩ rfl rfl (Nat.le_of_ble_eq_true rfl) dX5_least_15 ?_
  refine ctX0_lay 1 (M.1 1 8) is_X1 (ok_bnd h (fun q1 h => ?_))
  show Ev (wX, z) mtX5_least 4 95 18 [some (.ref 0)] [] q1 Q
  refine e_aload_n dX5_least_18 rfl ?_
  refine e_aload_n dX5_least_19 rfl ?_
  refine e_getR fa_RX5_46 is_X0 rfl dX5_least_20 ?_
  refine e_iconst (0 : Int32) dX5_least_23 (by decide) ?_
  refine e_aload_n dX5_least_24 rfl ?_
  refine e_getR fa_RX5_10 is_X0 rfl dX5_least_25 ?_
  refine e_getI fa_RX5_67 is_X1 dX5_least_28 ?_
  refine e_callV (f2 := 3) (l2 := 71) (ν := mtX0_leastStart) (as := [.int (0 : Int32), .int (q1.1 1 2)]) cv_RX5_195 is_X46 kc_6 ⟨Nat.le_of_ble_eq_true rfl, Nat.le_of_ble_eq_true rfl⟩ rfl rfl (Nat.le_of_ble_eq_true rfl) dX5_least_31 ?_
  refine ctX0_leastStart (0 : Int32) (q1.1 1 2) (ok_bnd h (fun q2 h => ?_))
  show Ev (wX, z) mtX5_least 4 95 34 [some (.ref 0)] [.int q2.1, .ref 0] q2.2 Q
  refine e_callV (f2 := 1) (l2 := 21) (ν := mtX5_carriedOrNone) (as := [.int q2.1]) cv_RX5_198 is_X0 kc_1 ⟨Nat.le_of_ble_eq_true rfl, Nat.le_of_ble_eq_true rfl⟩ rfl rfl (Nat.le_of_ble_eq_true rfl) dX5_least_34 ?_
  refine ctX5_carriedOrNone q2.1 (ok_bnd h (fun q3 h => ?_))
  show Ev (wX, z) mtX5_least 4 95 37 [some (.ref 0)] [.int q3.1] q3.2 Q
  have h := ok_some h
  exact e_iret rfl dX5_least_37 h
def fpX5_leastFor (a1 : Int32) (M : Me) : Option (Int32 × Me) := (if (fpX5_outside a1 (0 : Int32) (999 : Int32)) = 0 then
 (fpX0_lay 1 (M.1 1 8) M).bind fun q2 =>
 (fpX0_leastStart a1 (-1 : Int32) q2).bind fun q3 =>
 (fpX5_carriedOrNone q3.1 q3.2).bind fun q4 =>
 some (q4.1, q4.2)
 else
 (fpX5_finding (0 : Int32) M).bind fun q5 =>
 some (q5.1, q5.2))
set_option maxRecDepth 20000 in
theorem ctX5_leastFor {z : Zt} {M : Me} {Q : Option Value → Me → Prop} (a1 : Int32)  (h : ok (fpX5_leastFor a1 M) (fun a => Q (some (.int a.1)) a.2)) : EvM (wX, z) mtX5_leastFor 4 95 [.ref 0, .int a1] M Q := by
  refine evm_of [some (.ref 0), some (.int a1)] 0 (by decide +kernel) (Nat.le_of_ble_eq_true rfl) rfl ?_
  unfold fpX5_leastFor at h
  refine e_iload_n dX5_leastFor_0 rfl ?_
  refine e_iconst (0 : Int32) dX5_leastFor_1 (by decide) ?_
  refine e_sipush (999 : Int32) dX5_leastFor_2 (by decide) ?_
  refine e_callS (f2 := 0) (l2 := 0) (ν := mtX5_outside) (as := [.int a1, .int (0 : Int32), .int (999 : Int32)]) cs_RX5_51 ⟨Nat.le_of_ble_eq_true rfl, Nat.le_of_ble_eq_true rfl⟩ rfl rfl (Nat.le_of_ble_eq_true rfl) dX5_leastFor_5 ?_
  refine ctX5_outside a1 (0 : Int32) (999 : Int32) ?_
  show Ev (wX, z) mtX5_leastFor 4 95 8 [some (.ref 0), some (.int a1)] [.int (fpX5_outside a1 (0 : Int32) (999 : Int32))] M Q
  refine e_if_eq 17 dX5_leastFor_8 (by decide) (fun c1 => ?_) (fun c1 => ?_)
  · have h := ok_t c1 h
    refine e_aload_n dX5_leastFor_17 rfl ?_
    refine e_getR fa_RX5_46 is_X0 rfl dX5_leastFor_18 ?_
    refine e_aload_n dX5_leastFor_21 rfl ?_
    refine e_getR fa_RX5_10 is_X0 rfl dX5_leastFor_22 ?_
    refine e_aload_n dX5_leastFor_25 rfl ?_
    refine e_getR fa_RX5_10 is_X0 rfl dX5_leastFor_26 ?_
    refine e_getI fa_RX5_123 is_X1 dX5_leastFor_29 ?_
    refine e_callV (f2 := 3) (l2 := 64) (ν := mtX0_lay) (as := [.ref 1, .int (M.1 1 8)]) cv_RX5_172 is_X46 kc_6 ⟨Nat.le_of_ble_eq_true rfl, Nat.le_of_ble_eq_true rfl⟩ rfl rfl (Nat.le_of_ble_eq_true rfl) dX5_leastFor_32 ?_
    refine ctX0_lay 1 (M.1 1 8) is_X1 (ok_bnd h (fun q2 h => ?_))
    show Ev (wX, z) mtX5_leastFor 4 95 35 [some (.ref 0), some (.int a1)] [] q2 Q
    refine e_aload_n dX5_leastFor_35 rfl ?_
    refine e_aload_n dX5_leastFor_36 rfl ?_
    refine e_getR fa_RX5_46 is_X0 rfl dX5_leastFor_37 ?_
    refine e_iload_n dX5_leastFor_40 rfl ?_
    refine e_iconst (-1 : Int32) dX5_leastFor_41 (by decide) ?_
    refine e_callV (f2 := 3) (l2 := 71) (ν := mtX0_leastStart) (as := [.int a1, .int (-1 : Int32)]) cv_RX5_195 is_X46 kc_6 ⟨Nat.le_of_ble_eq_true rfl, Nat.le_of_ble_eq_true rfl⟩ rfl rfl (Nat.le_of_ble_eq_true rfl) dX5_leastFor_42 ?_
    refine ctX0_leastStart a1 (-1 : Int32) (ok_bnd h (fun q3 h => ?_))
    show Ev (wX, z) mtX5_leastFor 4 95 45 [some (.ref 0), some (.int a1)] [.int q3.1, .ref 0] q3.2 Q
    refine e_callV (f2 := 1) (l2 := 21) (ν := mtX5_carriedOrNone) (as := [.int q3.1]) cv_RX5_198 is_X0 kc_1 ⟨Nat.le_of_ble_eq_true rfl, Nat.le_of_ble_eq_true rfl⟩ rfl rfl (Nat.le_of_ble_eq_true rfl) dX5_leastFor_45 ?_
    refine ctX5_carriedOrNone q3.1 (ok_bnd h (fun q4 h => ?_))
    show Ev (wX, z) mtX5_leastFor 4 95 48 [some (.ref 0), some (.int a1)] [.int q4.1] q4.2 Q
    have h := ok_some h
    exact e_iret rfl dX5_leastFor_48 h
  · have h := ok_f c1 h
    refine e_aload_n dX5_leastFor_11 rfl ?_
    refine e_iconst (0 : Int32) dX5_leastFor_12 (by decide) ?_
    refine e_callV (f2 := 0) (l2 := 0) (ν := mtX5_finding) (as := [.int (0 : Int32)]) cv_RX5_55 is_X0 kc_1 ⟨Nat.le_of_ble_eq_true rfl, Nat.le_of_ble_eq_true rfl⟩ rfl rfl (Nat.le_of_ble_eq_true rfl) dX5_leastFor_13 ?_
    refine ctX5_finding (0 : Int32) (ok_bnd h (fun q5 h => ?_))
    show Ev (wX, z) mtX5_leastFor 4 95 16 [some (.ref 0), some (.int a1)] [.int q5.1] q5.2 Q
    have h := ok_some h
    exact e_iret rfl dX5_leastFor_16 h
def fpX5_keep  (M : Me) : Option (Int32 × Me) := (fpX0_lay 1 (M.1 1 8) M).bind fun q1 =>
 (fpX0_leastGaining q1).bind fun q2 =>
 (fpX5_carriedOrNone q2.1 q2.2).bind fun q3 =>
 some (q3.1, q3.2)
set_option maxRecDepth 20000 in
theorem ctX5_keep {z : Zt} {M : Me} {Q : Option Value → Me → Prop}   (h : ok (fpX5_keep M) (fun a => Q (some (.int a.1)) a.2)) : EvM (wX, z) mtX5_keep 5 119 [.ref 0] M Q := by
  refine evm_of [some (.ref 0)] 0 (by decide +kernel) (Nat.le_of_ble_eq_true rfl) rfl ?_
  unfold fpX5_keep at h
  refine e_aload_n dX5_keep_0 rfl ?_
  refine e_getR fa_RX5_46 is_X0 rfl dX5_keep_1 ?_
  refine e_aload_n dX5_keep_4 rfl ?_
  refine e_getR fa_RX5_10 is_X0 rfl dX5_keep_5 ?_
  refine e_aload_n dX5_keep_8 rfl ?_
  refine e_getR fa_RX5_10 is_X0 rfl dX5_keep_9 ?_
  refine e_getI fa_RX5_123 is_X1 dX5_keep_12 ?_
  refine e_callV (f2 := 3) (l2 := 64) (ν := mtX0_lay) (as := [.ref 1, .int (M.1 1 8)]) cv_RX5_172 is_X46 kc_6 ⟨Nat.le_of_ble_eq_true rfl, Nat.le_of_ble_eq_true rfl⟩ rfl rfl (Nat.le_of_ble_eq_true rfl) dX5_keep_15 ?_
  refine ctX0_lay 1 (M.1 1 8) is_X1 (ok_bnd h (fun q1 h => ?_))
  show Ev (wX, z) mtX5_keep 5 119 18 [some (.ref 0)] [] q1 Q
  refine e_aload_n dX5_keep_18 rfl ?_
  refine e_aload_n dX5_keep_19 rfl ?_
  refine e_getR fa_RX5_46 is_X0 rfl dX5_keep_20 ?_
  refine e_callV (f2 := 4) (l2 := 95) (ν := mtX0_leastGaining) (as := []) cv_RX5_201 is_X46 kc_6 ⟨Nat.le_of_ble_eq_true rfl, Nat.le_of_ble_eq_true rfl⟩ rfl rfl (Nat.le_of_ble_eq_true rfl) dX5_keep_23 ?_
  refine ctX0_leastGaining (ok_bnd h (fun q2 h => ?_))
  show Ev (wX, z) mtX5_keep 5 119 26 [some (.ref 0)] [.int q2.1, .ref 0] q2.2 Q
  refine e_callV (f2 := 1) (l2 := 21) (ν := mtX5_carriedOrNone) (as := [.int q2.1]) cv_RX5_198 is_X0 kc_1 ⟨Nat.le_of_ble_eq_true rfl, Nat.le_of_ble_eq_true rfl⟩ rfl rfl (Nat.le_of_ble_eq_true rfl) dX5_keep_26 ?_
  refine ctX5_carriedOrNone q2.1 (ok_bnd h (fun q3 h => ?_))
  show Ev (wX, z) mtX5_keep 5 119 29 [some (.ref 0)] [.int q3.1] q3.2 Q
  have h := ok_some h
  exact e_iret rfl dX5_keep_29 h
def fpX5_starts (a1 : Int32) (M : Me) : Option (Int32 × Me) := (if (fpX5_notCarried a1 M) = 0 then
 (fpX0_lay 1 (M.1 1 8) M).bind fun q2 =>
 (fpX0_firsts a1 q2).bind fun v3 =>
 some (v3, q2)
 else
 (fpX5_finding (0 : Int32) M).bind fun q4 =>
 some (q4.1, q4.2))
set_option maxRecDepth 20000 in
theorem ctX5_starts {z : Zt} {M : Me} {Q : Option Value → Me → Prop} (a1 : Int32)  (h : ok (fpX5_starts a1 M) (fun a => Q (some (.int a.1)) a.2)) : EvM (wX, z) mtX5_starts 4 88 [.ref 0, .int a1] M Q := by
  refine evm_of [some (.ref 0), some (.int a1)] 0 (by decide +kernel) (Nat.le_of_ble_eq_true rfl) rfl ?_
  unfold fpX5_starts at h
  refine e_aload_n dX5_starts_0 rfl ?_
  refine e_iload_n dX5_starts_1 rfl ?_
  refine e_callV (f2 := 1) (l2 := 22) (ν := mtX5_notCarried) (as := [.int a1]) cv_RX5_133 is_X0 kc_1 ⟨Nat.le_of_ble_eq_true rfl, Nat.le_of_ble_eq_true rfl⟩ rfl rfl (Nat.le_of_ble_eq_true rfl) dX5_starts_2 ?_
  refine ctX5_notCarried a1 ?_
  show Ev (wX, z) mtX5_starts 4 88 5 [some (.ref 0), some (.int a1)] [.int (fpX5_notCarried a1 M)] M Q
  refine e_if_eq 14 dX5_starts_5 (by decide) (fun c1 => ?_) (fun c1 => ?_)
  · have h := ok_t c1 h
    refine e_aload_n dX5_starts_14 rfl ?_
    refine e_getR fa_RX5_46 is_X0 rfl dX5_starts_15 ?_
    refine e_aload_n dX5_starts_18 rfl ?_
    refine e_getR fa_RX5_10 is_X0 rfl dX5_starts_19 ?_
    refine e_aload_n dX5_starts_22 rfl ?_
    refine e_getR fa_RX5_10 is_X0 rfl dX5_starts_23 ?_
    refine e_getI fa_RX5_123 is_X1 dX5_starts_26 ?_
    refine e_callV (f2 := 3) (l2 := 64) (ν := mtX0_lay) (as := [.ref 1, .int (M.1 1 8)]) cv_RX5_172 is_X46 kc_6 ⟨Nat.le_of_ble_eq_true rfl, Nat.le_of_ble_eq_true rfl⟩ rfl rfl (Nat.le_of_ble_eq_true rfl) dX5_starts_29 ?_
    refine ctX0_lay 1 (M.1 1 8) is_X1 (ok_bnd h (fun q2 h => ?_))
    show Ev (wX, z) mtX5_starts 4 88 32 [some (.ref 0), some (.int a1)] [] q2 Q
    refine e_aload_n dX5_starts_32 rfl ?_
    refine e_getR fa_RX5_46 is_X0 rfl dX5_starts_33 ?_
    refine e_iload_n dX5_starts_36 rfl ?_
    refine e_callV (f2 := 2) (l2 := 44) (ν := mtX0_firsts) (as := [.int a1]) cv_RX5_204 is_X46 kc_6 ⟨Nat.le_of_ble_eq_true rfl, Nat.le_of_ble_eq_true rfl⟩ rfl rfl (Nat.le_of_ble_eq_true rfl) dX5_starts_37 ?_
    refine ctX0_firsts a1 (ok_bnd h (fun v3 h => ?_))
    show Ev (wX, z) mtX5_starts 4 88 40 [some (.ref 0), some (.int a1)] [.int v3] q2 Q
    have h := ok_some h
    exact e_iret rfl dX5_starts_40 h
  · have h := ok_f c1 h
    refine e_aload_n dX5_starts_8 rfl ?_
    refine e_iconst (0 : Int32) dX5_starts_9 (by decide) ?_
    refine e_callV (f2 := 0) (l2 := 0) (ν := mtX5_finding) (as := [.int (0 : Int32)]) cv_RX5_55 is_X0 kc_1 ⟨Nat.le_of_ble_eq_true rfl, Nat.le_of_ble_eq_true rfl⟩ rfl rfl (Nat.le_of_ble_eq_true rfl) dX5_starts_10 ?_
    refine ctX5_finding (0 : Int32) (ok_bnd h (fun q4 h => ?_))
    show Ev (wX, z) mtX5_starts 4 88 13 [some (.ref 0), some (.int a1)] [.int q4.1] q4.2 Q
    have h := ok_some h
    exact e_iret rfl dX5_starts_13 h
def fpX5_ring  (M : Me) : Option (Int32 × Me) := (fpX0_lay 1 (M.1 1 8) M).bind fun q1 =>
 (fpX0_smallestRing q1).bind fun q2 =>
 (if q2.1 = 0 then
 (fpX5_finding (3 : Int32) q2.2).bind fun q4 =>
 some (q4.1, q4.2)
 else
 some (q2.1, q2.2))
set_option maxRecDepth 20000 in
theorem ctX5_ring {z : Zt} {M : Me} {Q : Option Value → Me → Prop}   (h : ok (fpX5_ring M) (fun a => Q (some (.int a.1)) a.2)) : EvM (wX, z) mtX5_ring 5 120 [.ref 0] M Q := by
  refine evm_of [some (.ref 0), none] 1 (by decide +kernel) (Nat.le_of_ble_eq_true rfl) rfl ?_
  unfold fpX5_ring at h
  refine e_aload_n dX5_ring_0 rfl ?_
  refine e_getR fa_RX5_46 is_X0 rfl dX5_ring_1 ?_
  refine e_aload_n dX5_ring_4 rfl ?_
  refine e_getR fa_RX5_10 is_X0 rfl dX5_ring_5 ?_
  refine e_aload_n dX5_ring_8 rfl ?_
  refine e_getR fa_RX5_10 is_X0 rfl dX5_ring_9 ?_
  refine e_getI fa_RX5_123 is_X1 dX5_ring_12 ?_
  refine e_callV (f2 := 3) (l2 := 64) (ν := mtX0_lay) (as := [.ref 1, .int (M.1 1 8)]) cv_RX5_172 is_X46 kc_6 ⟨Nat.le_of_ble_eq_true rfl, Nat.le_of_ble_eq_true rfl⟩ rfl rfl (Nat.le_of_ble_eq_true rfl) dX5_ring_15 ?_
  refine ctX0_lay 1 (M.1 1 8) is_X1 (ok_bnd h (fun q1 h => ?_))
  show Ev (wX, z) mtX5_ring 5 120 18 [some (.ref 0), none] [] q1 Q
  refine e_aload_n dX5_ring_18 rfl ?_
  refine e_getR fa_RX5_46 is_X0 rfl dX5_ring_19 ?_
  refine e_callV (f2 := 4) (l2 := 97) (ν := mtX0_smallestRing) (as := []) cv_RX5_207 is_X46 kc_6 ⟨Nat.le_of_ble_eq_true rfl, Nat.le_of_ble_eq_true rfl⟩ rfl rfl (Nat.le_of_ble_eq_true rfl) dX5_ring_22 ?_
  refine ctX0_smallestRing (ok_bnd h (fun q2 h => ?_))
  show Ev (wX, z) mtX5_ring 5 120 25 [some (.ref 0), none] [.int q2.1] q2.2 Q
  refine e_istore_n dX5_ring_25 (by decide) rfl ?_
  refine e_iload_n dX5_ring_26 rfl ?_
  refine e_if_ne 38 dX5_ring_27 (by decide) (fun c3 => ?_) (fun c3 => ?_)
  · have h := ok_f c3 h
    refine e_iload_n dX5_ring_38 rfl ?_
    have h := ok_some h
    exact e_iret rfl dX5_ring_39 h
  · have h := ok_t c3 h
    refine e_aload_n dX5_ring_30 rfl ?_
    refine e_iconst (3 : Int32) dX5_ring_31 (by decide) ?_
    refine e_callV (f2 := 0) (l2 := 0) (ν := mtX5_finding) (as := [.int (3 : Int32)]) cv_RX5_55 is_X0 kc_1 ⟨Nat.le_of_ble_eq_true rfl, Nat.le_of_ble_eq_true rfl⟩ rfl rfl (Nat.le_of_ble_eq_true rfl) dX5_ring_32 ?_
    refine ctX5_finding (3 : Int32) (ok_bnd h (fun q4 h => ?_))
    show Ev (wX, z) mtX5_ring 5 120 35 [some (.ref 0), some (.int q2.1)] [.int q4.1] q4.2 Q
    refine e_goto 39 dX5_ring_35 (by decide) ?_
    have h := ok_some h
    exact e_iret rfl dX5_ring_39 h
def fpX5_mistake (a1 : Int32) (a2 : Int32) (M : Me) : Option (Int32 × Me) := (if (fpX5_notCarried a1 M) = 0 then
 (if (fpX5_outside a2 (0 : Int32) (7 : Int32)) = 0 then
 (fpX0_lay 1 (M.1 1 8) M).bind fun q4 =>
 (fpX0_planBest a1 q4).bind fun q5 =>
 (if a2 < (q5.1 46 1) then
 (fpX0_planBrings a1 (-1 : Int32) q5).bind fun v7 =>
 (fpX0_planBrings a1 a2 q5).bind fun v8 =>
 some ((v7 - v8), q5)
 else
 (fpX5_finding (3 : Int32) q5).bind fun q9 =>
 some (q9.1, q9.2))
 else
 (fpX5_finding (0 : Int32) M).bind fun q10 =>
 some (q10.1, q10.2))
 else
 (fpX5_finding (0 : Int32) M).bind fun q2 =>
 some (q2.1, q2.2))
set_option maxRecDepth 20000 in
theorem ctX5_mistake {z : Zt} {M : Me} {Q : Option Value → Me → Prop} (a1 : Int32) (a2 : Int32)  (h : ok (fpX5_mistake a1 a2 M) (fun a => Q (some (.int a.1)) a.2)) : EvM (wX, z) mtX5_mistake 7 170 [.ref 0, .int a1, .int a2] M Q := by
  refine evm_of [some (.ref 0), some (.int a1), some (.int a2)] 0 (by decide +kernel) (Nat.le_of_ble_eq_true rfl) rfl ?_
  unfold fpX5_mistake at h
  refine e_aload_n dX5_mistake_0 rfl ?_
  refine e_iload_n dX5_mistake_1 rfl ?_
  refine e_callV (f2 := 1) (l2 := 22) (ν := mtX5_notCarried) (as := [.int a1]) cv_RX5_133 is_X0 kc_1 ⟨Nat.le_of_ble_eq_true rfl, Nat.le_of_ble_eq_true rfl⟩ rfl rfl (Nat.le_of_ble_eq_true rfl) dX5_mistake_2 ?_
  refine ctX5_notCarried a1 ?_
  show Ev (wX, z) mtX5_mistake 7 170 5 [some (.ref 0), some (.int a1), some (.int a2)] [.int (fpX5_notCarried a1 M)] M Q
  refine e_if_ne 18 dX5_mistake_5 (by decide) (fun c1 => ?_) (fun c1 => ?_)
  · have h := ok_f c1 h
    refine e_aload_n dX5_mistake_18 rfl ?_
    refine e_iconst (0 : Int32) dX5_mistake_19 (by decide) ?_
    refine e_callV (f2 := 0) (l2 := 0) (ν := mtX5_finding) (as := [.int (0 : Int32)]) cv_RX5_55 is_X0 kc_1 ⟨Nat.le_of_ble_eq_true rfl, Nat.le_of_ble_eq_true rfl⟩ rfl rfl (Nat.le_of_ble_eq_true rfl) dX5_mistake_20 ?_
    refine ctX5_finding (0 : Int32) (ok_bnd h (fun q2 h => ?_))
    show Ev (wX, z) mtX5_mistake 7 170 23 [some (.ref 0), some (.int a1), some (.int a2)] [.int q2.1] q2.2 Q
    have h := ok_some h
    exact e_iret rfl dX5_mistake_23 h
  · have h := ok_t c1 h
    refine e_iload_n dX5_mistake_8 rfl ?_
    refine e_iconst (0 : Int32) dX5_mistake_9 (by decide) ?_
    refine e_bipush (7 : Int32) dX5_mistake_10 (by decide) ?_
    refine e_callS (f2 := 0) (l2 := 0) (ν := mtX5_outside) (as := [.int a2, .int (0 : Int32), .int (7 : Int32)]) cs_RX5_51 ⟨Nat.le_of_ble_eq_true rfl, Nat.le_of_ble_eq_true rfl⟩ rfl rfl (Nat.le_of_ble_eq_true rfl) dX5_mistake_12 ?_
    refine ctX5_outside a2 (0 : Int32) (7 : Int32) ?_
    show Ev (wX, z) mtX5_mistake 7 170 15 [some (.ref 0), some (.int a1), some (.int a2)] [.int (fpX5_outside a2 (0 : Int32) (7 : Int32))] M Q
    refine e_if_eq 24 dX5_mistake_15 (by decide) (fun c3 => ?_) (fun c3 => ?_)
    · have h := ok_t c3 h
      refine e_aload_n dX5_mistake_24 rfl ?_
      refine e_getR fa_RX5_46 is_X0 rfl dX5_mistake_25 ?_
      refine e_aload_n dX5_mistake_28 rfl ?_
      refine e_getR fa_RX5_10 is_X0 rfl dX5_mistake_29 ?_
      refine e_aload_n dX5_mistake_32 rfl ?_
      refine e_getR fa_RX5_10 is_X0 rfl dX5_mistake_33 ?_
      refine e_getI fa_RX5_123 is_X1 dX5_mistake_36 ?_
      refine e_callV (f2 := 3) (l2 := 64) (ν := mtX0_lay) (as := [.ref 1, .int (M.1 1 8)]) cv_RX5_172 is_X46 kc_6 ⟨Nat.le_of_ble_eq_true rfl, Nat.le_of_ble_eq_true rfl⟩ rfl rfl (Nat.le_of_ble_eq_true rfl) dX5_mistake_39 ?_
      refine ctX0_lay 1 (M.1 1 8) is_X1 (ok_bnd h (fun q4 h => ?_))
      show Ev (wX, z) mtX5_mistake 7 170 42 [some (.ref 0), some (.int a1), some (.int a2)] [] q4 Q
      refine e_aload_n dX5_mistake_42 rfl ?_
      refine e_getR fa_RX5_46 is_X0 rfl dX5_mistake_43 ?_
      refine e_iload_n dX5_mistake_46 rfl ?_
      refine e_callV (f2 := 6) (l2 := 143) (ν := mtX0_planBest) (as := [.int a1]) cv_RX5_186 is_X46 kc_6 ⟨Nat.le_of_ble_eq_true rfl, Nat.le_of_ble_eq_true rfl⟩ rfl rfl (Nat.le_of_ble_eq_true rfl) dX5_mistake_47 ?_
      refine ctX0_planBest a1 (ok_bnd h (fun q5 h => ?_))
      show Ev (wX, z) mtX5_mistake 7 170 50 [some (.ref 0), some (.int a1), some (.int a2)] [] q5 Q
      refine e_iload_n dX5_mistake_50 rfl ?_
      refine e_aload_n dX5_mistake_51 rfl ?_
      refine e_getR fa_RX5_46 is_X0 rfl dX5_mistake_52 ?_
      refine e_getI fa_RX5_189 is_X46 dX5_mistake_55 ?_
      refine e_icmp_lt 67 dX5_mistake_58 (by decide) (fun c6 => ?_) (fun c6 => ?_)
      · have h := ok_t c6 h
        refine e_aload_n dX5_mistake_67 rfl ?_
        refine e_getR fa_RX5_46 is_X0 rfl dX5_mistake_68 ?_
        refine e_iload_n dX5_mistake_71 rfl ?_
        refine e_iconst (-1 : Int32) dX5_mistake_72 (by decide) ?_
        refine e_callV (f2 := 2) (l2 := 44) (ν := mtX0_planBrings) (as := [.int a1, .int (-1 : Int32)]) cv_RX5_179 is_X46 kc_6 ⟨Nat.le_of_ble_eq_true rfl, Nat.le_of_ble_eq_true rfl⟩ rfl rfl (Nat.le_of_ble_eq_true rfl) dX5_mistake_73 ?_
        refine ctX0_planBrings a1 (-1 : Int32) (ok_bnd h (fun v7 h => ?_))
        show Ev (wX, z) mtX5_mistake 7 170 76 [some (.ref 0), some (.int a1), some (.int a2)] [.int v7] q5 Q
        refine e_aload_n dX5_mistake_76 rfl ?_
        refine e_getR fa_RX5_46 is_X0 rfl dX5_mistake_77 ?_
        refine e_iload_n dX5_mistake_80 rfl ?_
        refine e_iload_n dX5_mistake_81 rfl ?_
        refine e_callV (f2 := 2) (l2 := 44) (ν := mtX0_planBrings) (as := [.int a1, .int a2]) cv_RX5_179 is_X46 kc_6 ⟨Nat.le_of_ble_eq_true rfl, Nat.le_of_ble_eq_true rfl⟩ rfl rfl (Nat.le_of_ble_eq_true rfl) dX5_mistake_82 ?_
        refine ctX0_planBrings a1 a2 (ok_bnd h (fun v8 h => ?_))
        show Ev (wX, z) mtX5_mistake 7 170 85 [some (.ref 0), some (.int a1), some (.int a2)] [.int v8, .int v7] q5 Q
        refine e_isub dX5_mistake_85 ?_
        have h := ok_some h
        exact e_iret rfl dX5_mistake_86 h
      · have h := ok_f c6 h
        refine e_aload_n dX5_mistake_61 rfl ?_
        refine e_iconst (3 : Int32) dX5_mistake_62 (by decide) ?_
        refine e_callV (f2 := 0) (l2 := 0) (ν := mtX5_finding) (as := [.int (3 : Int32)]) cv_RX5_55 is_X0 kc_1 ⟨Nat.le_of_ble_eq_true rfl, Nat.le_of_ble_eq_true rfl⟩ rfl rfl (Nat.le_of_ble_eq_true rfl) dX5_mistake_63 ?_
        refine ctX5_finding (3 : Int32) (ok_bnd h (fun q9 h => ?_))
        show Ev (wX, z) mtX5_mistake 7 170 66 [some (.ref 0), some (.int a1), some (.int a2)] [.int q9.1] q9.2 Q
        have h := ok_some h
        exact e_iret rfl dX5_mistake_66 h
    · have h := ok_f c3 h
      refine e_aload_n dX5_mistake_18 rfl ?_
      refine e_iconst (0 : Int32) dX5_mistake_19 (by decide) ?_
      refine e_callV (f2 := 0) (l2 := 0) (ν := mtX5_finding) (as := [.int (0 : Int32)]) cv_RX5_55 is_X0 kc_1 ⟨Nat.le_of_ble_eq_true rfl, Nat.le_of_ble_eq_true rfl⟩ rfl rfl (Nat.le_of_ble_eq_true rfl) dX5_mistake_20 ?_
      refine ctX5_finding (0 : Int32) (ok_bnd h (fun q10 h => ?_))
      show Ev (wX, z) mtX5_mistake 7 170 23 [some (.ref 0), some (.int a1), some (.int a2)] [.int q10.1] q10.2 Q
      have h := ok_some h
      exact e_iret rfl dX5_mistake_23 h
def fpX5_dear (a1 : Int32) (M : Me) : Option (Int32 × Me) := (if (fpX5_notCarried a1 M) = 0 then
 (if (M.1 1 2) = 0 then
 (fpX5_finding (3 : Int32) M).bind fun q5 =>
 some (q5.1, q5.2)
 else
 (fpX0_lay 1 (M.1 1 8) M).bind fun q3 =>
 (fpX0_dearest a1 q3).bind fun q4 =>
 some (q4.1, q4.2))
 else
 (fpX5_finding (0 : Int32) M).bind fun q6 =>
 some (q6.1, q6.2))
set_option maxRecDepth 20000 in
theorem ctX5_dear {z : Zt} {M : Me} {Q : Option Value → Me → Prop} (a1 : Int32)  (h : ok (fpX5_dear a1 M) (fun a => Q (some (.int a.1)) a.2)) : EvM (wX, z) mtX5_dear 7 169 [.ref 0, .int a1] M Q := by
  refine evm_of [some (.ref 0), some (.int a1)] 0 (by decide +kernel) (Nat.le_of_ble_eq_true rfl) rfl ?_
  unfold fpX5_dear at h
  refine e_aload_n dX5_dear_0 rfl ?_
  refine e_iload_n dX5_dear_1 rfl ?_
  refine e_callV (f2 := 1) (l2 := 22) (ν := mtX5_notCarried) (as := [.int a1]) cv_RX5_133 is_X0 kc_1 ⟨Nat.le_of_ble_eq_true rfl, Nat.le_of_ble_eq_true rfl⟩ rfl rfl (Nat.le_of_ble_eq_true rfl) dX5_dear_2 ?_
  refine ctX5_notCarried a1 ?_
  show Ev (wX, z) mtX5_dear 7 169 5 [some (.ref 0), some (.int a1)] [.int (fpX5_notCarried a1 M)] M Q
  refine e_if_eq 14 dX5_dear_5 (by decide) (fun c1 => ?_) (fun c1 => ?_)
  · have h := ok_t c1 h
    refine e_aload_n dX5_dear_14 rfl ?_
    refine e_getR fa_RX5_10 is_X0 rfl dX5_dear_15 ?_
    refine e_getI fa_RX5_67 is_X1 dX5_dear_18 ?_
    refine e_if_ne 30 dX5_dear_21 (by decide) (fun c2 => ?_) (fun c2 => ?_)
    · have h := ok_f c2 h
      refine e_aload_n dX5_dear_30 rfl ?_
      refine e_getR fa_RX5_46 is_X0 rfl dX5_dear_31 ?_
      refine e_aload_n dX5_dear_34 rfl ?_
      refine e_getR fa_RX5_10 is_X0 rfl dX5_dear_35 ?_
      refine e_aload_n dX5_dear_38 rfl ?_
      refine e_getR fa_RX5_10 is_X0 rfl dX5_dear_39 ?_
      refine e_getI fa_RX5_123 is_X1 dX5_dear_42 ?_
      refine e_callV (f2 := 3) (l2 := 64) (ν := mtX0_lay) (as := [.ref 1, .int (M.1 1 8)]) cv_RX5_172 is_X46 kc_6 ⟨Nat.le_of_ble_eq_true rfl, Nat.le_of_ble_eq_true rfl⟩ rfl rfl (Nat.le_of_ble_eq_true rfl) dX5_dear_45 ?_
      refine ctX0_lay 1 (M.1 1 8) is_X1 (ok_bnd h (fun q3 h => ?_))
      show Ev (wX, z) mtX5_dear 7 169 48 [some (.ref 0), some (.int a1)] [] q3 Q
      refine e_aload_n dX5_dear_48 rfl ?_
      refine e_getR fa_RX5_46 is_X0 rfl dX5_dear_49 ?_
      refine e_iload_n dX5_dear_52 rfl ?_
      refine e_callV (f2 := 6) (l2 := 143) (ν := mtX0_dearest) (as := [.int a1]) cv_RX5_210 is_X46 kc_6 ⟨Nat.le_of_ble_eq_true rfl, Nat.le_of_ble_eq_true rfl⟩ rfl rfl (Nat.le_of_ble_eq_true rfl) dX5_dear_53 ?_
      refine ctX0_dearest a1 (ok_bnd h (fun q4 h => ?_))
      show Ev (wX, z) mtX5_dear 7 169 56 [some (.ref 0), some (.int a1)] [.int q4.1] q4.2 Q
      have h := ok_some h
      exact e_iret rfl dX5_dear_56 h
    · have h := ok_t c2 h
      refine e_aload_n dX5_dear_24 rfl ?_
      refine e_iconst (3 : Int32) dX5_dear_25 (by decide) ?_
      refine e_callV (f2 := 0) (l2 := 0) (ν := mtX5_finding) (as := [.int (3 : Int32)]) cv_RX5_55 is_X0 kc_1 ⟨Nat.le_of_ble_eq_true rfl, Nat.le_of_ble_eq_true rfl⟩ rfl rfl (Nat.le_of_ble_eq_true rfl) dX5_dear_26 ?_
      refine ctX5_finding (3 : Int32) (ok_bnd h (fun q5 h => ?_))
      show Ev (wX, z) mtX5_dear 7 169 29 [some (.ref 0), some (.int a1)] [.int q5.1] q5.2 Q
      have h := ok_some h
      exact e_iret rfl dX5_dear_29 h
  · have h := ok_f c1 h
    refine e_aload_n dX5_dear_8 rfl ?_
    refine e_iconst (0 : Int32) dX5_dear_9 (by decide) ?_
    refine e_callV (f2 := 0) (l2 := 0) (ν := mtX5_finding) (as := [.int (0 : Int32)]) cv_RX5_55 is_X0 kc_1 ⟨Nat.le_of_ble_eq_true rfl, Nat.le_of_ble_eq_true rfl⟩ rfl rfl (Nat.le_of_ble_eq_true rfl) dX5_dear_10 ?_
    refine ctX5_finding (0 : Int32) (ok_bnd h (fun q6 h => ?_))
    show Ev (wX, z) mtX5_dear 7 169 13 [some (.ref 0), some (.int a1)] [.int q6.1] q6.2 Q
    have h := ok_some h
    exact e_iret rfl dX5_dear_13 h
def fpX5_spring (a1 : Int32) (M : Me) : Option (Int32 × Me) := (if (fpX5_notCarried a1 M) = 0 then
 (if (fpX2_isFull 1 M) = 0 then
 (fpX0_lay 1 (M.1 1 8) M).bind fun q3 =>
 (fpX0_bestSpring a1 q3).bind fun q4 =>
 some (q4.1, q4.2)
 else
 (fpX5_finding (1 : Int32) M).bind fun q5 =>
 some (q5.1, q5.2))
 else
 (fpX5_finding (0 : Int32) M).bind fun q6 =>
 some (q6.1, q6.2))
set_option maxRecDepth 20000 in
theorem ctX5_spring {z : Zt} {M : Me} {Q : Option Value → Me → Prop} (a1 : Int32)  (h : ok (fpX5_spring a1 M) (fun a => Q (some (.int a.1)) a.2)) : EvM (wX, z) mtX5_spring 7 170 [.ref 0, .int a1] M Q := by
  refine evm_of [some (.ref 0), some (.int a1)] 0 (by decide +kernel) (Nat.le_of_ble_eq_true rfl) rfl ?_
  unfold fpX5_spring at h
  refine e_aload_n dX5_spring_0 rfl ?_
  refine e_iload_n dX5_spring_1 rfl ?_
  refine e_callV (f2 := 1) (l2 := 22) (ν := mtX5_notCarried) (as := [.int a1]) cv_RX5_133 is_X0 kc_1 ⟨Nat.le_of_ble_eq_true rfl, Nat.le_of_ble_eq_true rfl⟩ rfl rfl (Nat.le_of_ble_eq_true rfl) dX5_spring_2 ?_
  refine ctX5_notCarried a1 ?_
  show Ev (wX, z) mtX5_spring 7 170 5 [some (.ref 0), some (.int a1)] [.int (fpX5_notCarried a1 M)] M Q
  refine e_if_eq 14 dX5_spring_5 (by decide) (fun c1 => ?_) (fun c1 => ?_)
  · have h := ok_t c1 h
    refine e_aload_n dX5_spring_14 rfl ?_
    refine e_getR fa_RX5_10 is_X0 rfl dX5_spring_15 ?_
    refine e_callV (f2 := 0) (l2 := 0) (ν := mtX2_isFull) (as := []) cv_RX5_59 is_X1 kc_2 ⟨Nat.le_of_ble_eq_true rfl, Nat.le_of_ble_eq_true rfl⟩ rfl rfl (Nat.le_of_ble_eq_true rfl) dX5_spring_18 ?_
    refine ctX2_isFull 1 is_X1 ?_
    show Ev (wX, z) mtX5_spring 7 170 21 [some (.ref 0), some (.int a1)] [.int (fpX2_isFull 1 M)] M Q
    refine e_if_eq 30 dX5_spring_21 (by decide) (fun c2 => ?_) (fun c2 => ?_)
    · have h := ok_t c2 h
      refine e_aload_n dX5_spring_30 rfl ?_
      refine e_getR fa_RX5_46 is_X0 rfl dX5_spring_31 ?_
      refine e_aload_n dX5_spring_34 rfl ?_
      refine e_getR fa_RX5_10 is_X0 rfl dX5_spring_35 ?_
      refine e_aload_n dX5_spring_38 rfl ?_
      refine e_getR fa_RX5_10 is_X0 rfl dX5_spring_39 ?_
      refine e_getI fa_RX5_123 is_X1 dX5_spring_42 ?_
      refine e_callV (f2 := 3) (l2 := 64) (ν := mtX0_lay) (as := [.ref 1, .int (M.1 1 8)]) cv_RX5_172 is_X46 kc_6 ⟨Nat.le_of_ble_eq_true rfl, Nat.le_of_ble_eq_true rfl⟩ rfl rfl (Nat.le_of_ble_eq_true rfl) dX5_spring_45 ?_
      refine ctX0_lay 1 (M.1 1 8) is_X1 (ok_bnd h (fun q3 h => ?_))
      show Ev (wX, z) mtX5_spring 7 170 48 [some (.ref 0), some (.int a1)] [] q3 Q
      refine e_aload_n dX5_spring_48 rfl ?_
      refine e_getR fa_RX5_46 is_X0 rfl dX5_spring_49 ?_
      refine e_iload_n dX5_spring_52 rfl ?_
      refine e_callV (f2 := 6) (l2 := 143) (ν := mtX0_bestSpring) (as := [.int a1]) cv_RX5_213 is_X46 kc_6 ⟨Nat.le_of_ble_eq_true rfl, Nat.le_of_ble_eq_true rfl⟩ rfl rfl (Nat.le_of_ble_eq_true rfl) dX5_spring_53 ?_
      refine ctX0_bestSpring a1 (ok_bnd h (fun q4 h => ?_))
      show Ev (wX, z) mtX5_spring 7 170 56 [some (.ref 0), some (.int a1)] [.int q4.1] q4.2 Q
      have h := ok_some h
      exact e_iret rfl dX5_spring_56 h
    · have h := ok_f c2 h
      refine e_aload_n dX5_spring_24 rfl ?_
      refine e_iconst (1 : Int32) dX5_spring_25 (by decide) ?_
      refine e_callV (f2 := 0) (l2 := 0) (ν := mtX5_finding) (as := [.int (1 : Int32)]) cv_RX5_55 is_X0 kc_1 ⟨Nat.le_of_ble_eq_true rfl, Nat.le_of_ble_eq_true rfl⟩ rfl rfl (Nat.le_of_ble_eq_true rfl) dX5_spring_26 ?_
      refine ctX5_finding (1 : Int32) (ok_bnd h (fun q5 h => ?_))
      show Ev (wX, z) mtX5_spring 7 170 29 [some (.ref 0), some (.int a1)] [.int q5.1] q5.2 Q
      have h := ok_some h
      exact e_iret rfl dX5_spring_29 h
  · have h := ok_f c1 h
    refine e_aload_n dX5_spring_8 rfl ?_
    refine e_iconst (0 : Int32) dX5_spring_9 (by decide) ?_
    refine e_callV (f2 := 0) (l2 := 0) (ν := mtX5_finding) (as := [.int (0 : Int32)]) cv_RX5_55 is_X0 kc_1 ⟨Nat.le_of_ble_eq_true rfl, Nat.le_of_ble_eq_true rfl⟩ rfl rfl (Nat.le_of_ble_eq_true rfl) dX5_spring_10 ?_
    refine ctX5_finding (0 : Int32) (ok_bnd h (fun q6 h => ?_))
    show Ev (wX, z) mtX5_spring 7 170 13 [some (.ref 0), some (.int a1)] [.int q6.1] q6.2 Q
    have h := ok_some h
    exact e_iret rfl dX5_spring_13 h
def fpX5_matters (a1 : Int32) (M : Me) : Option (Int32 × Me) := (if (fpX5_notCarried a1 M) = 0 then
 (fpX0_lay 1 (M.1 1 8) M).bind fun q2 =>
 (fpX0_greatestSpillsThatCost a1 q2).bind fun q3 =>
 (if q3.1 = 0 then
 (fpX5_finding (3 : Int32) q3.2).bind fun q5 =>
 some (q5.1, q5.2)
 else
 some (q3.1, q3.2))
 else
 (fpX5_finding (0 : Int32) M).bind fun q6 =>
 some (q6.1, q6.2))
set_option maxRecDepth 20000 in
theorem ctX5_matters {z : Zt} {M : Me} {Q : Option Value → Me → Prop} (a1 : Int32)  (h : ok (fpX5_matters a1 M) (fun a => Q (some (.int a.1)) a.2)) : EvM (wX, z) mtX5_matters 7 167 [.ref 0, .int a1] M Q := by
  refine evm_of [some (.ref 0), some (.int a1), none] 1 (by decide +kernel) (Nat.le_of_ble_eq_true rfl) rfl ?_
  unfold fpX5_matters at h
  refine e_aload_n dX5_matters_0 rfl ?_
  refine e_iload_n dX5_matters_1 rfl ?_
  refine e_callV (f2 := 1) (l2 := 22) (ν := mtX5_notCarried) (as := [.int a1]) cv_RX5_133 is_X0 kc_1 ⟨Nat.le_of_ble_eq_true rfl, Nat.le_of_ble_eq_true rfl⟩ rfl rfl (Nat.le_of_ble_eq_true rfl) dX5_matters_2 ?_
  refine ctX5_notCarried a1 ?_
  show Ev (wX, z) mtX5_matters 7 167 5 [some (.ref 0), some (.int a1), none] [.int (fpX5_notCarried a1 M)] M Q
  refine e_if_eq 14 dX5_matters_5 (by decide) (fun c1 => ?_) (fun c1 => ?_)
  · have h := ok_t c1 h
    refine e_aload_n dX5_matters_14 rfl ?_
    refine e_getR fa_RX5_46 is_X0 rfl dX5_matters_15 ?_
    refine e_aload_n dX5_matters_18 rfl ?_
    refine e_getR fa_RX5_10 is_X0 rfl dX5_matters_19 ?_
    refine e_aload_n dX5_matters_22 rfl ?_
    refine e_getR fa_RX5_10 is_X0 rfl dX5_matters_23 ?_
    refine e_getI fa_RX5_123 is_X1 dX5_matters_26 ?_
    refine e_callV (f2 := 3) (l2 := 64) (ν := mtX0_lay) (as := [.ref 1, .int (M.1 1 8)]) cv_RX5_172 is_X46 kc_6 ⟨Nat.le_of_ble_eq_true rfl, Nat.le_of_ble_eq_true rfl⟩ rfl rfl (Nat.le_of_ble_eq_true rfl) dX5_matters_29 ?_
    refine ctX0_lay 1 (M.1 1 8) is_X1 (ok_bnd h (fun q2 h => ?_))
    show Ev (wX, z) mtX5_matters 7 167 32 [some (.ref 0), some (.int a1), none] [] q2 Q
    refine e_aload_n dX5_matters_32 rfl ?_
    refine e_getR fa_RX5_46 is_X0 rfl dX5_matters_33 ?_
    refine e_iload_n dX5_matters_36 rfl ?_
    refine e_callV (f2 := 6) (l2 := 143) (ν := mtX0_greatestSpillsThatCost) (as := [.int a1]) cv_RX5_216 is_X46 kc_6 ⟨Nat.le_of_ble_eq_true rfl, Nat.le_of_ble_eq_true rfl⟩ rfl rfl (Nat.le_of_ble_eq_true rfl) dX5_matters_37 ?_
    refine ctX0_greatestSpillsThatCost a1 (ok_bnd h (fun q3 h => ?_))
    show Ev (wX, z) mtX5_matters 7 167 40 [some (.ref 0), some (.int a1), none] [.int q3.1] q3.2 Q
    refine e_istore_n dX5_matters_40 (by decide) rfl ?_
    refine e_iload_n dX5_matters_41 rfl ?_
    refine e_if_ne 53 dX5_matters_42 (by decide) (fun c4 => ?_) (fun c4 => ?_)
    · have h := ok_f c4 h
      refine e_iload_n dX5_matters_53 rfl ?_
      have h := ok_some h
      exact e_iret rfl dX5_matters_54 h
    · have h := ok_t c4 h
      refine e_aload_n dX5_matters_45 rfl ?_
      refine e_iconst (3 : Int32) dX5_matters_46 (by decide) ?_
      refine e_callV (f2 := 0) (l2 := 0) (ν := mtX5_finding) (as := [.int (3 : Int32)]) cv_RX5_55 is_X0 kc_1 ⟨Nat.le_of_ble_eq_true rfl, Nat.le_of_ble_eq_true rfl⟩ rfl rfl (Nat.le_of_ble_eq_true rfl) dX5_matters_47 ?_
      refine ctX5_finding (3 : Int32) (ok_bnd h (fun q5 h => ?_))
      show Ev (wX, z) mtX5_matters 7 167 50 [some (.ref 0), some (.int a1), some (.int q3.1)] [.int q5.1] q5.2 Q
      refine e_goto 54 dX5_matters_50 (by decide) ?_
      have h := ok_some h
      exact e_iret rfl dX5_matters_54 h
  · have h := ok_f c1 h
    refine e_aload_n dX5_matters_8 rfl ?_
    refine e_iconst (0 : Int32) dX5_matters_9 (by decide) ?_
    refine e_callV (f2 := 0) (l2 := 0) (ν := mtX5_finding) (as := [.int (0 : Int32)]) cv_RX5_55 is_X0 kc_1 ⟨Nat.le_of_ble_eq_true rfl, Nat.le_of_ble_eq_true rfl⟩ rfl rfl (Nat.le_of_ble_eq_true rfl) dX5_matters_10 ?_
    refine ctX5_finding (0 : Int32) (ok_bnd h (fun q6 h => ?_))
    show Ev (wX, z) mtX5_matters 7 167 13 [some (.ref 0), some (.int a1), none] [.int q6.1] q6.2 Q
    have h := ok_some h
    exact e_iret rfl dX5_matters_13 h
def fpX5_room (a1 : Int32) (M : Me) : Option (Int32 × Me) := (if (fpX5_notCarried a1 M) = 0 then
 (fpX0_lay 1 (M.1 1 8) M).bind fun q2 =>
 (fpX0_leastRoomForMost a1 q2).bind fun q3 =>
 some (q3.1, q3.2)
 else
 (fpX5_finding (0 : Int32) M).bind fun q4 =>
 some (q4.1, q4.2))
set_option maxRecDepth 20000 in
theorem ctX5_room {z : Zt} {M : Me} {Q : Option Value → Me → Prop} (a1 : Int32)  (h : ok (fpX5_room a1 M) (fun a => Q (some (.int a.1)) a.2)) : EvM (wX, z) mtX5_room 7 167 [.ref 0, .int a1] M Q := by
  refine evm_of [some (.ref 0), some (.int a1)] 0 (by decide +kernel) (Nat.le_of_ble_eq_true rfl) rfl ?_
  unfold fpX5_room at h
  refine e_aload_n dX5_room_0 rfl ?_
  refine e_iload_n dX5_room_1 rfl ?_
  refine e_callV (f2 := 1) (l2 := 22) (ν := mtX5_notCarried) (as := [.int a1]) cv_RX5_133 is_X0 kc_1 ⟨Nat.le_of_ble_eq_true rfl, Nat.le_of_ble_eq_true rfl⟩ rfl rfl (Nat.le_of_ble_eq_true rfl) dX5_room_2 ?_
  refine ctX5_notCarried a1 ?_
  show Ev (wX, z) mtX5_room 7 167 5 [some (.ref 0), some (.int a1)] [.int (fpX5_notCarried a1 M)] M Q
  refine e_if_eq 14 dX5_room_5 (by decide) (fun c1 => ?_) (fun c1 => ?_)
  · have h := ok_t c1 h
    refine e_aload_n dX5_room_14 rfl ?_
    refine e_getR fa_RX5_46 is_X0 rfl dX5_room_15 ?_
    refine e_aload_n dX5_room_18 rfl ?_
    refine e_getR fa_RX5_10 is_X0 rfl dX5_room_19 ?_
    refine e_aload_n dX5_room_22 rfl ?_
    refine e_getR fa_RX5_10 is_X0 rfl dX5_room_23 ?_
    refine e_getI fa_RX5_123 is_X1 dX5_room_26 ?_
    refine e_callV (f2 := 3) (l2 := 64) (ν := mtX0_lay) (as := [.ref 1, .int (M.1 1 8)]) cv_RX5_172 is_X46 kc_6 ⟨Nat.le_of_ble_eq_true rfl, Nat.le_of_ble_eq_true rfl⟩ rfl rfl (Nat.le_of_ble_eq_true rfl) dX5_room_29 ?_
    refine ctX0_lay 1 (M.1 1 8) is_X1 (ok_bnd h (fun q2 h => ?_))
    show Ev (wX, z) mtX5_room 7 167 32 [some (.ref 0), some (.int a1)] [] q2 Q
    refine e_aload_n dX5_room_32 rfl ?_
    refine e_getR fa_RX5_46 is_X0 rfl dX5_room_33 ?_
    refine e_iload_n dX5_room_36 rfl ?_
    refine e_callV (f2 := 6) (l2 := 143) (ν := mtX0_leastRoomForMost) (as := [.int a1]) cv_RX5_219 is_X46 kc_6 ⟨Nat.le_of_ble_eq_true rfl, Nat.le_of_ble_eq_true rfl⟩ rfl rfl (Nat.le_of_ble_eq_true rfl) dX5_room_37 ?_
    refine ctX0_leastRoomForMost a1 (ok_bnd h (fun q3 h => ?_))
    show Ev (wX, z) mtX5_room 7 167 40 [some (.ref 0), some (.int a1)] [.int q3.1] q3.2 Q
    have h := ok_some h
    exact e_iret rfl dX5_room_40 h
  · have h := ok_f c1 h
    refine e_aload_n dX5_room_8 rfl ?_
    refine e_iconst (0 : Int32) dX5_room_9 (by decide) ?_
    refine e_callV (f2 := 0) (l2 := 0) (ν := mtX5_finding) (as := [.int (0 : Int32)]) cv_RX5_55 is_X0 kc_1 ⟨Nat.le_of_ble_eq_true rfl, Nat.le_of_ble_eq_true rfl⟩ rfl rfl (Nat.le_of_ble_eq_true rfl) dX5_room_10 ?_
    refine ctX5_finding (0 : Int32) (ok_bnd h (fun q4 h => ?_))
    show Ev (wX, z) mtX5_room 7 167 13 [some (.ref 0), some (.int a1)] [.int q4.1] q4.2 Q
    have h := ok_some h
    exact e_iret rfl dX5_room_13 h
def XX5_bears_17 (z : Zt) (a1 : Int32) (Q : Option Value → Me → Prop) : ((Me) ⊕ (Int32 × Me)) → Prop := Sum.elim (fun t => Ev (wX, z) mtX5_bears 6 143 53 [some (.ref 0), none, none] [] t Q) (fun v => Q (some (.int v.1)) v.2)
def EX5_bears_17 (z : Zt) (a1 : Int32) (Q : Option Value → Me → Prop) : (Int32 × Me) → Prop := fun s => Ev (wX, z) mtX5_bears 6 143 17 [some (.ref 0), some (.int a1), some (.int s.1)] [] s.2 Q
def GX5_bears_17 (z : Zt) (a1 : Int32) (Q : Option Value → Me → Prop) : (Int32 × Me) ⊕ ((Me) ⊕ (Int32 × Me)) → Prop := Sum.elim (EX5_bears_17 z a1 Q) (XX5_bears_17 z a1 Q)
def fpX5_bears_l17s (a1 : Int32) (a2 : Int32) (M : Me) : Option ((Int32 × Me) ⊕ ((Me) ⊕ (Int32 × Me))) := (if a2 < 0 then
 some (.inr (.inl M))
 else
 (fpX0_lay 1 a2 M).bind fun q3 =>
 (fpX0_mostWith a1 q3).bind fun q4 =>
 (if q4.1 < a1 then
 letv (a2 + (-1 : Int32)) fun v6 =>
 some (.inl (v6, q4.2))
 else
 some (.inr (.inr (a2, q4.2)))))
def fpX5_bears_l17 (a1 : Int32) (s : Int32 × Me) : Option ((Int32 × Me) ⊕ ((Me) ⊕ (Int32 × Me))) := fpX5_bears_l17s a1 s.1 s.2
set_option maxRecDepth 20000 in
theorem ebX5_bears_l17s {z : Zt} {Q : Option Value → Me → Prop} (a1 : Int32) (a2 : Int32) (M : Me) (h : ok (fpX5_bears_l17s a1 a2 M) (GX5_bears_17 z a1 Q)) : Ev (wX, z) mtX5_bears 6 143 17 [some (.ref 0), some (.int a1), some (.int a2)] [] M Q := by
  unfold fpX5_bears_l17s at h
  refine e_iload_n dX5_bears_17 rfl ?_
  refine e_if_lt 53 dX5_bears_18 (by decide) (fun c2 => ?_) (fun c2 => ?_)
  · have h := ok_t c2 h
    refine e_forget [some (.ref 0), none, none] (leL_s (leL_n (leL_n leL_0))) ?_
    have h := ok_some h
    exact h
  · have h := ok_f c2 h
    refine e_aload_n dX5_bears_21 rfl ?_
    refine e_getR fa_RX5_46 is_X0 rfl dX5_bears_22 ?_
    refine e_aload_n dX5_bears_25 rfl ?_
    refine e_getR fa_RX5_10 is_X0 rfl dX5_bears_26 ?_
    refine e_iload_n dX5_bears_29 rfl ?_
    refine e_callV (f2 := 3) (l2 := 64) (ν := mtX0_lay) (as := [.ref 1, .int a2]) cv_RX5_172 is_X46 kc_6 ⟨Nat.le_of_ble_eq_true rfl, Nat.le_of_ble_eq_true rfl⟩ rfl rfl (Nat.le_of_ble_eq_true rfl) dX5_bears_30 ?_
    refine ctX0_lay 1 a2 is_X1 (ok_bnd h (fun q3 h => ?_))
    show Ev (wX, z) mtX5_bears 6 143 33 [some (.ref 0), some (.int a1), some (.int a2)] [] q3 Q
    refine e_aload_n dX5_bears_33 rfl ?_
    refine e_getR fa_RX5_46 is_X0 rfl dX5_bears_34 ?_
    refine e_iload_n dX5_bears_37 rfl ?_
    refine e_callV (f2 := 5) (l2 := 122) (ν := mtX0_mostWith) (as := [.int a1]) cv_RX5_183 is_X46 kc_6 ⟨Nat.le_of_ble_eq_true rfl, Nat.le_of_ble_eq_true rfl⟩ rfl rfl (Nat.le_of_ble_eq_true rfl) dX5_bears_38 ?_
    refine ctX0_mostWith a1 (ok_bnd h (fun q4 h => ?_))
    show Ev (wX, z) mtX5_bears 6 143 41 [some (.ref 0), some (.int a1), some (.int a2)] [.int q4.1] q4.2 Q
    refine e_iload_n dX5_bears_41 rfl ?_
    refine e_icmp_lt 47 dX5_bears_42 (by decide) (fun c5 => ?_) (fun c5 => ?_)
    · have h := ok_t c5 h
      refine lv1e h (fun v6 ev6 h => ?_)
      refine e_iinc v6 dX5_bears_47 rfl ev6 (by decide) rfl ?_
      refine e_goto 17 dX5_bears_50 (by decide) ?_
      refine e_forget [some (.ref 0), some (.int a1), some (.int v6)] (leL_s (leL_s (leL_s leL_0))) ?_
      have h := ok_some h
      exact h
    · have h := ok_f c5 h
      refine e_iload_n dX5_bears_45 rfl ?_
      have h := ok_some h
      exact e_iret rfl dX5_bears_46 h
theorem elX5_bears_l17 {z : Zt} {Q : Option Value → Me → Prop} (a1 : Int32) (N : Nat) (s : Int32 × Me) (h : ok (lp (fpX5_bears_l17 a1) N s) (XX5_bears_17 z a1 Q)) : EX5_bears_17 z a1 Q s :=
  lp_ind (fun s h => ebX5_bears_l17s a1 s.1 s.2 h) N s h
def fpX5_bears (a1 : Int32) (M : Me) : Option (Int32 × Me) := (if (fpX5_notCarried a1 M) = 0 then
 (lp (fpX5_bears_l17 a1) FU ((9 : Int32), M)).bind fun r7 => Sum.elim (fun t8 =>
 (fpX5_finding (3 : Int32) t8).bind fun q10 =>
 some (q10.1, q10.2)) (fun u9 => some u9) r7
 else
 (fpX5_finding (0 : Int32) M).bind fun q11 =>
 some (q11.1, q11.2))
set_option maxRecDepth 20000 in
theorem ctX5_bears {z : Zt} {M : Me} {Q : Option Value → Me → Prop} (a1 : Int32)  (h : ok (fpX5_bears a1 M) (fun a => Q (some (.int a.1)) a.2)) : EvM (wX, z) mtX5_bears 6 143 [.ref 0, .int a1] M Q := by
  refine evm_of [some (.ref 0), some (.int a1), none] 1 (by decide +kernel) (Nat.le_of_ble_eq_true rfl) rfl ?_
  unfold fpX5_bears at h
  refine e_aload_n dX5_bears_0 rfl ?_
  refine e_iload_n dX5_bears_1 rfl ?_
  refine e_callV (f2 := 1) (l2 := 22) (ν := mtX5_notCarried) (as := [.int a1]) cv_RX5_133 is_X0 kc_1 ⟨Nat.le_of_ble_eq_true rfl, Nat.le_of_ble_eq_true rfl⟩ rfl rfl (Nat.le_of_ble_eq_true rfl) dX5_bears_2 ?_
  refine ctX5_notCarried a1 ?_
  show Ev (wX, z) mtX5_bears 6 143 5 [some (.ref 0), some (.int a1), none] [.int (fpX5_notCarried a1 M)] M Q
  refine e_if_eq 14 dX5_bears_5 (by decide) (fun c1 => ?_) (fun c1 => ?_)
  · have h := ok_t c1 h
    refine e_bipush (9 : Int32) dX5_bears_14 (by decide) ?_
    refine e_istore_n dX5_bears_16 (by decide) rfl ?_
    refine e_forget [some (.ref 0), some (.int a1), some (.int (9 : Int32))] (leL_s (leL_s (leL_s leL_0))) ?_
    refine elX5_bears_l17 a1 FU ((9 : Int32), M) (ok_bnd h (fun r7 h => ?_))
    rcases r7 with t8 | u9
    · show Ev (wX, z) mtX5_bears 6 143 53 [some (.ref 0), none, none] [] t8 Q
      refine e_aload_n dX5_bears_53 rfl ?_
      refine e_iconst (3 : Int32) dX5_bears_54 (by decide) ?_
      refine e_callV (f2 := 0) (l2 := 0) (ν := mtX5_finding) (as := [.int (3 : Int32)]) cv_RX5_55 is_X0 kc_1 ⟨Nat.le_of_ble_eq_true rfl, Nat.le_of_ble_eq_true rfl⟩ rfl rfl (Nat.le_of_ble_eq_true rfl) dX5_bears_55 ?_
      refine ctX5_finding (3 : Int32) (ok_bnd h (fun q10 h => ?_))
      show Ev (wX, z) mtX5_bears 6 143 58 [some (.ref 0), none, none] [.int q10.1] q10.2 Q
      have h := ok_some h
      exact e_iret rfl dX5_bears_58 h
    · have h := ok_some h
      exact h
  · have h := ok_f c1 h
    refine e_aload_n dX5_bears_8 rfl ?_
    refine e_iconst (0 : Int32) dX5_bears_9 (by decide) ?_
    refine e_callV (f2 := 0) (l2 := 0) (ν := mtX5_finding) (as := [.int (0 : Int32)]) cv_RX5_55 is_X0 kc_1 ⟨Nat.le_of_ble_eq_true rfl, Nat.le_of_ble_eq_true rfl⟩ rfl rfl (Nat.le_of_ble_eq_true rfl) dX5_bears_10 ?_
    refine ctX5_finding (0 : Int32) (ok_bnd h (fun q11 h => ?_))
    show Ev (wX, z) mtX5_bears 6 143 13 [some (.ref 0), some (.int a1), none] [.int q11.1] q11.2 Q
    have h := ok_some h
    exact e_iret rfl dX5_bears_13 h
def fpX5_odds (a1 : Int32) (a2 : Int32) (M : Me) : Option (Int64 × Me) := (if (fpX5_notCarried a1 M) = 0 then
 (if (fpX5_outside a2 (0 : Int32) (999 : Int32)) = 0 then
 (fpX0_lay 1 (M.1 1 8) M).bind fun q4 =>
 (fpX0_planBest a1 q4).bind fun q5 =>
 (fpX0_partsBringing a1 a2 q5).bind fun v6 =>
 some (v6, q5)
 else
 (fpX5_finding (0 : Int32) M).bind fun q7 =>
 some ((q7.1.toInt64), q7.2))
 else
 (fpX5_finding (0 : Int32) M).bind fun q2 =>
 some ((q2.1.toInt64), q2.2))
set_option maxRecDepth 20000 in
theorem ctX5_odds {z : Zt} {M : Me} {Q : Option Value → Me → Prop} (a1 : Int32) (a2 : Int32)  (h : ok (fpX5_odds a1 a2 M) (fun a => Q (some (.long a.1)) a.2)) : EvM (wX, z) mtX5_odds 7 170 [.ref 0, .int a1, .int a2] M Q := by
  refine evm_of [some (.ref 0), some (.int a1), some (.int a2)] 0 (by decide +kernel) (Nat.le_of_ble_eq_true rfl) rfl ?_
  unfold fpX5_odds at h
  refine e_aload_n dX5_odds_0 rfl ?_
  refine e_iload_n dX5_odds_1 rfl ?_
  refine e_callV (f2 := 1) (l2 := 22) (ν := mtX5_notCarried) (as := [.int a1]) cv_RX5_133 is_X0 kc_1 ⟨Nat.le_of_ble_eq_true rfl, Nat.le_of_ble_eq_true rfl⟩ rfl rfl (Nat.le_of_ble_eq_true rfl) dX5_odds_2 ?_
  refine ctX5_notCarried a1 ?_
  show Ev (wX, z) mtX5_odds 7 170 5 [some (.ref 0), some (.int a1), some (.int a2)] [.int (fpX5_notCarried a1 M)] M Q
  refine e_if_ne 19 dX5_odds_5 (by decide) (fun c1 => ?_) (fun c1 => ?_)
  · have h := ok_f c1 h
    refine e_aload_n dX5_odds_19 rfl ?_
    refine e_iconst (0 : Int32) dX5_odds_20 (by decide) ?_
    refine e_callV (f2 := 0) (l2 := 0) (ν := mtX5_finding) (as := [.int (0 : Int32)]) cv_RX5_55 is_X0 kc_1 ⟨Nat.le_of_ble_eq_true rfl, Nat.le_of_ble_eq_true rfl⟩ rfl rfl (Nat.le_of_ble_eq_true rfl) dX5_odds_21 ?_
    refine ctX5_finding (0 : Int32) (ok_bnd h (fun q2 h => ?_))
    show Ev (wX, z) mtX5_odds 7 170 24 [some (.ref 0), some (.int a1), some (.int a2)] [.int q2.1] q2.2 Q
    refine e_i2l dX5_odds_24 ?_
    have h := ok_some h
    exact e_lret rfl dX5_odds_25 h
  · have h := ok_t c1 h
    refine e_iload_n dX5_odds_8 rfl ?_
    refine e_iconst (0 : Int32) dX5_odds_9 (by decide) ?_
    refine e_sipush (999 : Int32) dX5_odds_10 (by decide) ?_
    refine e_callS (f2 := 0) (l2 := 0) (ν := mtX5_outside) (as := [.int a2, .int (0 : Int32), .int (999 : Int32)]) cs_RX5_51 ⟨Nat.le_of_ble_eq_true rfl, Nat.le_of_ble_eq_true rfl⟩ rfl rfl (Nat.le_of_ble_eq_true rfl) dX5_odds_13 ?_
    refine ctX5_outside a2 (0 : Int32) (999 : Int32) ?_
    show Ev (wX, z) mtX5_odds 7 170 16 [some (.ref 0), some (.int a1), some (.int a2)] [.int (fpX5_outside a2 (0 : Int32) (999 : Int32))] M Q
    refine e_if_eq 26 dX5_odds_16 (by decide) (fun c3 => ?_) (fun c3 => ?_)
    · have h := ok_t c3 h
      refine e_aload_n dX5_odds_26 rfl ?_
      refine e_getR fa_RX5_46 is_X0 rfl dX5_odds_27 ?_
      refine e_aload_n dX5_odds_30 rfl ?_
      refine e_getR fa_RX5_10 is_X0 rfl dX5_odds_31 ?_
      refine e_aload_n dX5_odds_34 rfl ?_
      refine e_getR fa_RX5_10 is_X0 rfl dX5_odds_35 ?_
      refine e_getI fa_RX5_123 is_X1 dX5_odds_38 ?_
      refine e_callV (f2 := 3) (l2 := 64) (ν := mtX0_lay) (as := [.ref 1, .int (M.1 1 8)]) cv_RX5_172 is_X46 kc_6 ⟨Nat.le_of_ble_eq_true rfl, Nat.le_of_ble_eq_true rfl⟩ rfl rfl (Nat.le_of_ble_eq_true rfl) dX5_odds_41 ?_
      refine ctX0_lay 1 (M.1 1 8) is_X1 (ok_bnd h (fun q4 h => ?_))
      show Ev (wX, z) mtX5_odds 7 170 44 [some (.ref 0), some (.int a1), some (.int a2)] [] q4 Q
      refine e_aload_n dX5_odds_44 rfl ?_
      refine e_getR fa_RX5_46 is_X0 rfl dX5_odds_45 ?_
      refine e_iload_n dX5_odds_48 rfl ?_
      refine e_callV (f2 := 6) (l2 := 143) (ν := mtX0_planBest) (as := [.int a1]) cv_RX5_186 is_X46 kc_6 ⟨Nat.le_of_ble_eq_true rfl, Nat.le_of_ble_eq_true rfl⟩ rfl rfl (Nat.le_of_ble_eq_true rfl) dX5_odds_49 ?_
      refine ctX0_planBest a1 (ok_bnd h (fun q5 h => ?_))
      show Ev (wX, z) mtX5_odds 7 170 52 [some (.ref 0), some (.int a1), some (.int a2)] [] q5 Q
      refine e_aload_n dX5_odds_52 rfl ?_
      refine e_getR fa_RX5_46 is_X0 rfl dX5_odds_53 ?_
      refine e_iload_n dX5_odds_56 rfl ?_
      refine e_iload_n dX5_odds_57 rfl ?_
      refine e_callV (f2 := 3) (l2 := 75) (ν := mtX0_partsBringing) (as := [.int a1, .int a2]) cv_RX5_222 is_X46 kc_6 ⟨Nat.le_of_ble_eq_true rfl, Nat.le_of_ble_eq_true rfl⟩ rfl rfl (Nat.le_of_ble_eq_true rfl) dX5_odds_58 ?_
      refine ctX0_partsBringing a1 a2 (ok_bnd h (fun v6 h => ?_))
      show Ev (wX, z) mtX5_odds 7 170 61 [some (.ref 0), some (.int a1), some (.int a2)] [.long v6] q5 Q
      have h := ok_some h
      exact e_lret rfl dX5_odds_61 h
    · have h := ok_f c3 h
      refine e_aload_n dX5_odds_19 rfl ?_
      refine e_iconst (0 : Int32) dX5_odds_20 (by decide) ?_
      refine e_callV (f2 := 0) (l2 := 0) (ν := mtX5_finding) (as := [.int (0 : Int32)]) cv_RX5_55 is_X0 kc_1 ⟨Nat.le_of_ble_eq_true rfl, Nat.le_of_ble_eq_true rfl⟩ rfl rfl (Nat.le_of_ble_eq_true rfl) dX5_odds_21 ?_
      refine ctX5_finding (0 : Int32) (ok_bnd h (fun q7 h => ?_))
      show Ev (wX, z) mtX5_odds 7 170 24 [some (.ref 0), some (.int a1), some (.int a2)] [.int q7.1] q7.2 Q
      refine e_i2l dX5_odds_24 ?_
      have h := ok_some h
      exact e_lret rfl dX5_odds_25 h
def fpX5_mean (a1 : Int32) (M : Me) : Option (Int64 × Me) := (if (fpX5_notCarried a1 M) = 0 then
 (fpX0_lay 1 (M.1 1 8) M).bind fun q2 =>
 (fpX0_planBest a1 q2).bind fun q3 =>
 (fpX0_sumBrought a1 q3).bind fun v4 =>
 some (v4, q3)
 else
 (fpX5_finding (0 : Int32) M).bind fun q5 =>
 some ((q5.1.toInt64), q5.2))
set_option maxRecDepth 20000 in
theorem ctX5_mean {z : Zt} {M : Me} {Q : Option Value → Me → Prop} (a1 : Int32)  (h : ok (fpX5_mean a1 M) (fun a => Q (some (.long a.1)) a.2)) : EvM (wX, z) mtX5_mean 7 170 [.ref 0, .int a1] M Q := by
  refine evm_of [some (.ref 0), some (.int a1)] 0 (by decide +kernel) (Nat.le_of_ble_eq_true rfl) rfl ?_
  unfold fpX5_mean at h
  refine e_aload_n dX5_mean_0 rfl ?_
  refine e_iload_n dX5_mean_1 rfl ?_
  refine e_callV (f2 := 1) (l2 := 22) (ν := mtX5_notCarried) (as := [.int a1]) cv_RX5_133 is_X0 kc_1 ⟨Nat.le_of_ble_eq_true rfl, Nat.le_of_ble_eq_true rfl⟩ rfl rfl (Nat.le_of_ble_eq_true rfl) dX5_mean_2 ?_
  refine ctX5_notCarried a1 ?_
  show Ev (wX, z) mtX5_mean 7 170 5 [some (.ref 0), some (.int a1)] [.int (fpX5_notCarried a1 M)] M Q
  refine e_if_eq 15 dX5_mean_5 (by decide) (fun c1 => ?_) (fun c1 => ?_)
  · have h := ok_t c1 h
    refine e_aload_n dX5_mean_15 rfl ?_
    refine e_getR fa_RX5_46 is_X0 rfl dX5_mean_16 ?_
    refine e_aload_n dX5_mean_19 rfl ?_
    refine e_getR fa_RX5_10 is_X0 rfl dX5_mean_20 ?_
    refine e_aload_n dX5_mean_23 rfl ?_
    refine e_getR fa_RX5_10 is_X0 rfl dX5_mean_24 ?_
    refine e_getI fa_RX5_123 is_X1 dX5_mean_27 ?_
    refine e_callV (f2 := 3) (l2 := 64) (ν := mtX0_lay) (as := [.ref 1, .int (M.1 1 8)]) cv_RX5_172 is_X46 kc_6 ⟨Nat.le_of_ble_eq_true rfl, Nat.le_of_ble_eq_true rfl⟩ rfl rfl (Nat.le_of_ble_eq_true rfl) dX5_mean_30 ?_
    refine ctX0_lay 1 (M.1 1 8) is_X1 (ok_bnd h (fun q2 h => ?_))
    show Ev (wX, z) mtX5_mean 7 170 33 [some (.ref 0), some (.int a1)] [] q2 Q
    refine e_aload_n dX5_mean_33 rfl ?_
    refine e_getR fa_RX5_46 is_X0 rfl dX5_mean_34 ?_
    refine e_iload_n dX5_mean_37 rfl ?_
    refine e_callV (f2 := 6) (l2 := 143) (ν := mtX0_planBest) (as := [.int a1]) cv_RX5_186 is_X46 kc_6 ⟨Nat.le_of_ble_eq_true rfl, Nat.le_of_ble_eq_true rfl⟩ rfl rfl (Nat.le_of_ble_eq_true rfl) dX5_mean_38 ?_
    refine ctX0_planBest a1 (ok_bnd h (fun q3 h => ?_))
    show Ev (wX, z) mtX5_mean 7 170 41 [some (.ref 0), some (.int a1)] [] q3 Q
    refine e_aload_n dX5_mean_41 rfl ?_
    refine e_getR fa_RX5_46 is_X0 rfl dX5_mean_42 ?_
    refine e_iload_n dX5_mean_45 rfl ?_
    refine e_callV (f2 := 4) (l2 := 100) (ν := mtX0_sumBrought) (as := [.int a1]) cv_RX5_226 is_X46 kc_6 ⟨Nat.le_of_ble_eq_true rfl, Nat.le_of_ble_eq_true rfl⟩ rfl rfl (Nat.le_of_ble_eq_true rfl) dX5_mean_46 ?_
    refine ctX0_sumBrought a1 (ok_bnd h (fun v4 h => ?_))
    show Ev (wX, z) mtX5_mean 7 170 49 [some (.ref 0), some (.int a1)] [.long v4] q3 Q
    have h := ok_some h
    exact e_lret rfl dX5_mean_49 h
  · have h := ok_f c1 h
    refine e_aload_n dX5_mean_8 rfl ?_
    refine e_iconst (0 : Int32) dX5_mean_9 (by decide) ?_
    refine e_callV (f2 := 0) (l2 := 0) (ν := mtX5_finding) (as := [.int (0 : Int32)]) cv_RX5_55 is_X0 kc_1 ⟨Nat.le_of_ble_eq_true rfl, Nat.le_of_ble_eq_true rfl⟩ rfl rfl (Nat.le_of_ble_eq_true rfl) dX5_mean_10 ?_
    refine ctX5_finding (0 : Int32) (ok_bnd h (fun q5 h => ?_))
    show Ev (wX, z) mtX5_mean 7 170 13 [some (.ref 0), some (.int a1)] [.int q5.1] q5.2 Q
    refine e_i2l dX5_mean_13 ?_
    have h := ok_some h
    exact e_lret rfl dX5_mean_14 h
def XX5_rust_34 (z : Zt) (a1 : Int32) (Q : Option Value → Me → Prop) : (Me) → Prop := fun t => Ev (wX, z) mtX5_rust 1 22 83 [some (.ref 0), none, none, none] [] t Q
def EX5_rust_34 (z : Zt) (a1 : Int32) (Q : Option Value → Me → Prop) : (Int32 × Me) → Prop := fun s => Ev (wX, z) mtX5_rust 1 22 34 [some (.ref 0), some (.int a1), some (.int s.1), none] [] s.2 Q
def GX5_rust_34 (z : Zt) (a1 : Int32) (Q : Option Value → Me → Prop) : (Int32 × Me) ⊕ (Me) → Prop := Sum.elim (EX5_rust_34 z a1 Q) (XX5_rust_34 z a1 Q)
def fpX5_rust_l34s (a1 : Int32) (a2 : Int32) (M : Me) : Option ((Int32 × Me) ⊕ (Me)) := (if a1 ≤ a2 then
 some (.inr M)
 else
 (fpX2_draw 1 M).bind fun q4 =>
 dvz (q4.2.1 1 2) <|
 letv (jrem q4.1 (q4.2.1 1 2)) fun v6 =>
 (inb v6 8).bind fun k7 =>
 (fpX2_draw 1 q4.2).bind fun q8 =>
 letv (wrM q8.2 (1 + 3 + k7) 3 (jrem q8.1 (12 : Int32))) fun M9 =>
 letv (a2 + (1 : Int32)) fun v10 =>
 some (.inl (v10, M9)))
def fpX5_rust_l34 (a1 : Int32) (s : Int32 × Me) : Option ((Int32 × Me) ⊕ (Me)) := fpX5_rust_l34s a1 s.1 s.2
set_option maxRecDepth 20000 in
theorem ebX5_rust_l34s {z : Zt} {Q : Option Value → Me → Prop} (a1 : Int32) (a2 : Int32) (M : Me) (h : ok (fpX5_rust_l34s a1 a2 M) (GX5_rust_34 z a1 Q)) : Ev (wX, z) mtX5_rust 1 22 34 [some (.ref 0), some (.int a1), some (.int a2), none] [] M Q := by
  unfold fpX5_rust_l34s at h
  refine e_iload_n dX5_rust_34 rfl ?_
  refine e_iload_n dX5_rust_35 rfl ?_
  refine e_icmp_ge 83 dX5_rust_36 (by decide) (fun c3 => ?_) (fun c3 => ?_)
  · have h := ok_t c3 h
    refine e_forget [some (.ref 0), none, none, none] (leL_s (leL_n (leL_n (leL_n leL_0)))) ?_
    have h := ok_some h
    exact h
  · have h := ok_f c3 h
    refine e_aload_n dX5_rust_39 rfl ?_
    refine e_getR fa_RX5_10 is_X0 rfl dX5_rust_40 ?_
    refine e_callV (f2 := 0) (l2 := 0) (ν := mtX2_draw) (as := []) cv_RX5_230 is_X1 kc_2 ⟨Nat.le_of_ble_eq_true rfl, Nat.le_of_ble_eq_true rfl⟩ rfl rfl (Nat.le_of_ble_eq_true rfl) dX5_rust_43 ?_
    refine ctX2_draw 1 is_X1 (ok_bnd h (fun q4 h => ?_))
    show Ev (wX, z) mtX5_rust 1 22 46 [some (.ref 0), some (.int a1), some (.int a2), none] [.int q4.1] q4.2 Q
    refine e_aload_n dX5_rust_46 rfl ?_
    refine e_getR fa_RX5_10 is_X0 rfl dX5_rust_47 ?_
    refine e_getI fa_RX5_67 is_X1 dX5_rust_50 ?_
    obtain ⟨z5, h⟩ := ok_dvz h
    refine e_irem dX5_rust_53 z5 ?_
    refine lv1 (P := fun v6 => Ev (wX, z) mtX5_rust 1 22 54 [some (.ref 0), some (.int a1), some (.int a2), none] [.int v6] q4.2 Q) h (fun v6 h => ?_)
    refine e_istore_n dX5_rust_54 (by decide) rfl ?_
    refine e_aload_n dX5_rust_55 rfl ?_
    refine e_getR fa_RX5_10 is_X0 rfl dX5_rust_56 ?_
    refine e_getR fa_RX5_75 is_X1 rfl dX5_rust_59 ?_
    refine e_iload_n dX5_rust_62 rfl ?_
    refine ok_inb h (fun k7 ek7 ik7 h => ?_)
    refine e_aaldK ra_X2 (r' := (1 + 3 + k7)) (Or.inl rfl) ik7 ek7 (by omega) dX5_rust_63 ?_
    refine e_aload_n dX5_rust_64 rfl ?_
    refine e_getR fa_RX5_10 is_X0 rfl dX5_rust_65 ?_
    refine e_callV (f2 := 0) (l2 := 0) (ν := mtX2_draw) (as := []) cv_RX5_230 is_X1 kc_2 ⟨Nat.le_of_ble_eq_true rfl, Nat.le_of_ble_eq_true rfl⟩ rfl rfl (Nat.le_of_ble_eq_true rfl) dX5_rust_68 ?_
    refine ctX2_draw 1 is_X1 (ok_bnd h (fun q8 h => ?_))
    show Ev (wX, z) mtX5_rust 1 22 71 [some (.ref 0), some (.int a1), some (.int a2), some (.int v6)] [.int q8.1, .ref (1 + 3 + k7)] q8.2 Q
    refine e_bipush (12 : Int32) dX5_rust_71 (by decide) ?_
    refine e_irem dX5_rust_73 (by decide) ?_
    refine e_putI fw_RX5_90 (pm_is is_X1 ik7 ek7) dX5_rust_74 ?_
    refine lv1 (P := fun M9 => Ev (wX, z) mtX5_rust 1 22 77 [some (.ref 0), some (.int a1), some (.int a2), some (.int v6)] [] M9 Q) h (fun M9 h => ?_)
    refine lv1e h (fun v10 ev10 h => ?_)
    refine e_iinc v10 dX5_rust_77 rfl ev10 (by decide) rfl ?_
    refine e_goto 34 dX5_rust_80 (by decide) ?_
    refine e_forget [some (.ref 0), some (.int a1), some (.int v10), none] (leL_s (leL_s (leL_s (leL_n leL_0)))) ?_
    have h := ok_some h
    exact h
theorem elX5_rust_l34 {z : Zt} {Q : Option Value → Me → Prop} (a1 : Int32) (N : Nat) (s : Int32 × Me) (h : ok (lp (fpX5_rust_l34 a1) N s) (XX5_rust_34 z a1 Q)) : EX5_rust_34 z a1 Q s :=
  lp_ind (fun s h => ebX5_rust_l34s a1 s.1 s.2 h) N s h
def XX5_rust_87 (z : Zt) (M : Me) (Q : Option Value → Me → Prop) : (Int32) → Prop := fun t => Ev (wX, z) mtX5_rust 1 22 122 [none, none, some (.int t), none] [] M Q
def EX5_rust_87 (z : Zt) (M : Me) (Q : Option Value → Me → Prop) : (Int32 × Int32) → Prop := fun s => Ev (wX, z) mtX5_rust 1 22 87 [some (.ref 0), none, some (.int s.1), some (.int s.2)] [] M Q
def GX5_rust_87 (z : Zt) (M : Me) (Q : Option Value → Me → Prop) : (Int32 × Int32) ⊕ (Int32) → Prop := Sum.elim (EX5_rust_87 z M Q) (XX5_rust_87 z M Q)
def fpX5_rust_l87s (a2 : Int32) (a3 : Int32) (M : Me) : Option ((Int32 × Int32) ⊕ (Int32)) := (if (M.1 1 2) ≤ a3 then
 some (.inr a2)
 else
 (inb a3 8).bind fun k13 =>
 (if (M.1 (1 + 3 + k13) 3) ≤ 0 then
 letv (a3 + (1 : Int32)) fun v15 =>
 some (.inl (a2, v15))
 else
 letv (a2 + (1 : Int32)) fun v16 =>
 letv (a3 + (1 : Int32)) fun v17 =>
 some (.inl (v16, v17))))
def fpX5_rust_l87 (M : Me) (s : Int32 × Int32) : Option ((Int32 × Int32) ⊕ (Int32)) := fpX5_rust_l87s s.1 s.2 M
set_option maxRecDepth 20000 in
theorem ebX5_rust_l87s {z : Zt} {Q : Option Value → Me → Prop} (a2 : Int32) (a3 : Int32) (M : Me) (h : ok (fpX5_rust_l87s a2 a3 M) (GX5_rust_87 z M Q)) : Ev (wX, z) mtX5_rust 1 22 87 [some (.ref 0), none, some (.int a2), some (.int a3)] [] M Q := by
  unfold fpX5_rust_l87s at h
  refine e_iload_n dX5_rust_87 rfl ?_
  refine e_aload_n dX5_rust_88 rfl ?_
  refine e_getR fa_RX5_10 is_X0 rfl dX5_rust_89 ?_
  refine e_getI fa_RX5_67 is_X1 dX5_rust_92 ?_
  refine e_icmp_ge 122 dX5_rust_95 (by decide) (fun c12 => ?_) (fun c12 => ?_)
  · have h := ok_t c12 h
    refine e_forget [none, none, some (.int a2), none] (leL_n (leL_n (leL_s (leL_n leL_0)))) ?_
    have h := ok_some h
    exact h
  · have h := ok_f c12 h
    refine e_aload_n dX5_rust_98 rfl ?_
    refine e_getR fa_RX5_10 is_X0 rfl dX5_rust_99 ?_
    refine e_getR fa_RX5_75 is_X1 rfl dX5_rust_102 ?_
    refine e_iload_n dX5_rust_105 rfl ?_
    refine ok_inb h (fun k13 ek13 ik13 h => ?_)
    refine e_aaldK ra_X2 (r' := (1 + 3 + k13)) (Or.inl rfl) ik13 ek13 (by omega) dX5_rust_106 ?_
    refine e_getI fa_RX5_90 (pm_is is_X1 ik13 ek13) dX5_rust_107 ?_
    refine e_if_le 116 dX5_rust_110 (by decide) (fun c14 => ?_) (fun c14 => ?_)
    · have h := ok_t c14 h
      refine lv1e h (fun v15 ev15 h => ?_)
      refine e_iinc v15 dX5_rust_116 rfl ev15 (by decide) rfl ?_
      refine e_goto 87 dX5_rust_119 (by decide) ?_
      refine e_forget [some (.ref 0), none, some (.int a2), some (.int v15)] (leL_s (leL_n (leL_s (leL_s leL_0)))) ?_
      have h := ok_some h
      exact h
    · have h := ok_f c14 h
      refine lv1e h (fun v16 ev16 h => ?_)
      refine e_iinc v16 dX5_rust_113 rfl ev16 (by decide) rfl ?_
      refine lv1e h (fun v17 ev17 h => ?_)
      refine e_iinc v17 dX5_rust_116 rfl ev17 (by decide) rfl ?_
      refine e_goto 87 dX5_rust_119 (by decide) ?_
      refine e_forget [some (.ref 0), none, some (.int v16), some (.int v17)] (leL_s (leL_n (leL_s (leL_s leL_0)))) ?_
      have h := ok_some h
      exact h
theorem elX5_rust_l87 {z : Zt} {Q : Option Value → Me → Prop} (M : Me) (N : Nat) (s : Int32 × Int32) (h : ok (lp (fpX5_rust_l87 M) N s) (XX5_rust_87 z M Q)) : EX5_rust_87 z M Q s :=
  lp_ind (fun s h => ebX5_rust_l87s s.1 s.2 M h) N s h
def fpX5_rust (a1 : Int32) (M : Me) : Option (Int32 × Me) := (if (fpX5_outside a1 (1 : Int32) (12 : Int32)) = 0 then
 (if (M.1 1 2) = 0 then
 (fpX5_finding (4 : Int32) M).bind fun q19 =>
 some (q19.1, q19.2)
 else
 (lp (fpX5_rust_l34 a1) FU ((0 : Int32), M)).bind fun r11 =>
 (lp (fpX5_rust_l87 r11) FU ((0 : Int32), (0 : Int32))).bind fun r18 =>
 some (r18, r11))
 else
 (fpX5_finding (0 : Int32) M).bind fun q20 =>
 some (q20.1, q20.2))
set_option maxRecDepth 20000 in
theorem ctX5_rust {z : Zt} {M : Me} {Q : Option Value → Me → Prop} (a1 : Int32)  (h : ok (fpX5_rust a1 M) (fun a => Q (some (.int a.1)) a.2)) : EvM (wX, z) mtX5_rust 1 22 [.ref 0, .int a1] M Q := by
  refine evm_of [some (.ref 0), some (.int a1), none, none] 2 (by decide +kernel) (Nat.le_of_ble_eq_true rfl) rfl ?_
  unfold fpX5_rust at h
  refine e_iload_n dX5_rust_0 rfl ?_
  refine e_iconst (1 : Int32) dX5_rust_1 (by decide) ?_
  refine e_bipush (12 : Int32) dX5_rust_2 (by decide) ?_
  refine e_callS (f2 := 0) (l2 := 0) (ν := mtX5_outside) (as := [.int a1, .int (1 : Int32), .int (12 : Int32)]) cs_RX5_51 ⟨Nat.le_of_ble_eq_true rfl, Nat.le_of_ble_eq_true rfl⟩ rfl rfl (Nat.le_of_ble_eq_true rfl) dX5_rust_4 ?_
  refine ctX5_outside a1 (1 : Int32) (12 : Int32) ?_
  show Ev (wX, z) mtX5_rust 1 22 7 [some (.ref 0), some (.int a1), none, none] [.int (fpX5_outside a1 (1 : Int32) (12 : Int32))] M Q
  refine e_if_eq 16 dX5_rust_7 (by decide) (fun c1 => ?_) (fun c1 => ?_)
  · have h := ok_t c1 h
    refine e_aload_n dX5_rust_16 rfl ?_
    refine e_getR fa_RX5_10 is_X0 rfl dX5_rust_17 ?_
    refine e_getI fa_RX5_67 is_X1 dX5_rust_20 ?_
    refine e_if_ne 32 dX5_rust_23 (by decide) (fun c2 => ?_) (fun c2 => ?_)
    · have h := ok_f c2 h
      refine e_iconst (0 : Int32) dX5_rust_32 (by decide) ?_
      refine e_istore_n dX5_rust_33 (by decide) rfl ?_
      refine e_forget [some (.ref 0), some (.int a1), some (.int (0 : Int32)), none] (leL_s (leL_s (leL_s (leL_n leL_0)))) ?_
      refine elX5_rust_l34 a1 FU ((0 : Int32), M) (ok_bnd h (fun r11 h => ?_))
      show Ev (wX, z) mtX5_rust 1 22 83 [some (.ref 0), none, none, none] [] r11 Q
      refine e_iconst (0 : Int32) dX5_rust_83 (by decide) ?_
      refine e_istore_n dX5_rust_84 (by decide) rfl ?_
      refine e_iconst (0 : Int32) dX5_rust_85 (by decide) ?_
      refine e_istore_n dX5_rust_86 (by decide) rfl ?_
      refine e_forget [some (.ref 0), none, some (.int (0 : Int32)), some (.int (0 : Int32))] (leL_s (leL_n (leL_s (leL_s leL_0)))) ?_
      refine elX5_rust_l87 r11 FU ((0 : Int32), (0 : Int32)) (ok_bnd h (fun r18 h => ?_))
      show Ev (wX, z) mtX5_rust 1 22 122 [none, none, some (.int r18), none] [] r11 Q
      refine e_iload_n dX5_rust_122 rfl ?_
      have h := ok_some h
      exact e_iret rfl dX5_rust_123 h
    · have h := ok_t c2 h
      refine e_aload_n dX5_rust_26 rfl ?_
      refine e_iconst (4 : Int32) dX5_rust_27 (by decide) ?_
      refine e_callV (f2 := 0) (l2 := 0) (ν := mtX5_finding) (as := [.int (4 : Int32)]) cv_RX5_55 is_X0 kc_1 ⟨Nat.le_of_ble_eq_true rfl, Nat.le_of_ble_eq_true rfl⟩ rfl rfl (Nat.le_of_ble_eq_true rfl) dX5_rust_28 ?_
      refine ctX5_finding (4 : Int32) (ok_bnd h (fun q19 h => ?_))
      show Ev (wX, z) mtX5_rust 1 22 31 [some (.ref 0), some (.int a1), none, none] [.int q19.1] q19.2 Q
      have h := ok_some h
      exact e_iret rfl dX5_rust_31 h
  · have h := ok_f c1 h
    refine e_aload_n dX5_rust_10 rfl ?_
    refine e_iconst (0 : Int32) dX5_rust_11 (by decide) ?_
    refine e_callV (f2 := 0) (l2 := 0) (ν := mtX5_finding) (as := [.int (0 : Int32)]) cv_RX5_55 is_X0 kc_1 ⟨Nat.le_of_ble_eq_true rfl, Nat.le_of_ble_eq_true rfl⟩ rfl rfl (Nat.le_of_ble_eq_true rfl) dX5_rust_12 ?_
    refine ctX5_finding (0 : Int32) (ok_bnd h (fun q20 h => ?_))
    show Ev (wX, z) mtX5_rust 1 22 15 [some (.ref 0), some (.int a1), none, none] [.int q20.1] q20.2 Q
    have h := ok_some h
    exact e_iret rfl dX5_rust_15 h
def fpX5_seed (a1 : Int32) (M : Me) : Option (Int32 × Me) := letv (M.1 1 13) fun v1 =>
 letv (wrM M 1 13 a1) fun M2 =>
 some (v1, M2)
set_option maxRecDepth 20000 in
theorem ctX5_seed {z : Zt} {M : Me} {Q : Option Value → Me → Prop} (a1 : Int32)  (h : ok (fpX5_seed a1 M) (fun a => Q (some (.int a.1)) a.2)) : EvM (wX, z) mtX5_seed 0 0 [.ref 0, .int a1] M Q := by
  refine evm_of [some (.ref 0), some (.int a1), none] 1 (by decide +kernel) (Nat.le_of_ble_eq_true rfl) rfl ?_
  unfold fpX5_seed at h
  refine e_aload_n dX5_seed_0 rfl ?_
  refine e_getR fa_RX5_10 is_X0 rfl dX5_seed_1 ?_
  refine e_getI fa_RX5_233 is_X1 dX5_seed_4 ?_
  refine lv1 (P := fun v1 => Ev (wX, z) mtX5_seed 0 0 7 [some (.ref 0), some (.int a1), none] [.int v1] M Q) h (fun v1 h => ?_)
  refine e_istore_n dX5_seed_7 (by decide) rfl ?_
  refine e_aload_n dX5_seed_8 rfl ?_
  refine e_getR fa_RX5_10 is_X0 rfl dX5_seed_9 ?_
  refine e_iload_n dX5_seed_12 rfl ?_
  refine e_putI fw_RX5_233 is_X1 dX5_seed_13 ?_
  refine lv1 (P := fun M2 => Ev (wX, z) mtX5_seed 0 0 16 [some (.ref 0), some (.int a1), some (.int v1)] [] M2 Q) h (fun M2 h => ?_)
  refine e_iload_n dX5_seed_16 rfl ?_
  have h := ok_some h
  exact e_iret rfl dX5_seed_17 h
def fpX5_noSuchSheet (a0 : Int32) : Int32 := (fpX5_outside a0 (0 : Int32) (3 : Int32))
theorem fpzX5_noSuchSheet (a0 : Int32) : fpX5_noSuchSheet a0 = 0 ∨ fpX5_noSuchSheet a0 = 1 := by
  unfold fpX5_noSuchSheet
  (repeat' split) <;> first | exact Or.inl rfl | exact Or.inr rfl | apply fpzX5_outside
set_option maxRecDepth 20000 in
theorem ctX5_noSuchSheet {z : Zt} {M : Me} {Q : Option Value → Me → Prop} (a0 : Int32)  (h : Q (some (.int (fpX5_noSuchSheet a0))) M) : EvM (wX, z) mtX5_noSuchSheet 1 22 [.int a0] M Q := by
  refine evm_of [some (.int a0)] 0 (by decide +kernel) (Nat.le_of_ble_eq_true rfl) rfl ?_
  refine e_iload_n dX5_noSuchSheet_0 rfl ?_
  refine e_iconst (0 : Int32) dX5_noSuchSheet_1 (by decide) ?_
  refine e_iconst (3 : Int32) dX5_noSuchSheet_2 (by decide) ?_
  refine e_callS (f2 := 0) (l2 := 0) (ν := mtX5_outside) (as := [.int a0, .int (0 : Int32), .int (3 : Int32)]) cs_RX5_51 ⟨Nat.le_of_ble_eq_true rfl, Nat.le_of_ble_eq_true rfl⟩ rfl rfl (Nat.le_of_ble_eq_true rfl) dX5_noSuchSheet_3 ?_
  refine ctX5_outside a0 (0 : Int32) (3 : Int32) ?_
  show Ev (wX, z) mtX5_noSuchSheet 1 22 6 [some (.int a0)] [.int (fpX5_outside a0 (0 : Int32) (3 : Int32))] M Q
  have e0 : fpX5_noSuchSheet a0 = (fpX5_outside a0 (0 : Int32) (3 : Int32)) := rfl
  rw [e0] at h
  exact e_zret rfl (fpzX5_outside a0 (0 : Int32) (3 : Int32)) dX5_noSuchSheet_6 h
def XX5_barrel_90 (z : Zt) (a2 : Int32) (M : Me) (Q : Option Value → Me → Prop) : ((Unit) ⊕ (Int32 × Me)) → Prop := Sum.elim (fun t => Ev (wX, z) mtX5_barrel 4 88 122 [some (.ref 0), none, none, none] [] M Q) (fun v => Q (some (.int v.1)) v.2)
def EX5_barrel_90 (z : Zt) (a2 : Int32) (M : Me) (Q : Option Value → Me → Prop) : (Int32) → Prop := fun s => Ev (wX, z) mtX5_barrel 4 88 90 [some (.ref 0), none, some (.int a2), some (.int s)] [] M Q
def GX5_barrel_90 (z : Zt) (a2 : Int32) (M : Me) (Q : Option Value → Me → Prop) : (Int32) ⊕ ((Unit) ⊕ (Int32 × Me)) → Prop := Sum.elim (EX5_barrel_90 z a2 M Q) (XX5_barrel_90 z a2 M Q)
def fpX5_barrel_l90s (a2 : Int32) (a3 : Int32) (M : Me) : Option ((Int32) ⊕ ((Unit) ⊕ (Int32 × Me))) := (if (M.1 1 6) < a3 then
 some (.inr (.inl ()))
 else
 (fpX0_planBrings a3 (-1 : Int32) M).bind fun v9 =>
 (if v9 = a2 then
 some (.inr (.inr (a3, M)))
 else
 letv (a3 + (1 : Int32)) fun v11 =>
 some (.inl v11)))
def fpX5_barrel_l90 (a2 : Int32) (M : Me) (s : Int32) : Option ((Int32) ⊕ ((Unit) ⊕ (Int32 × Me))) := fpX5_barrel_l90s a2 s M
set_option maxRecDepth 20000 in
theorem ebX5_barrel_l90s {z : Zt} {Q : Option Value → Me → Prop} (a2 : Int32) (a3 : Int32) (M : Me) (h : ok (fpX5_barrel_l90s a2 a3 M) (GX5_barrel_90 z a2 M Q)) : Ev (wX, z) mtX5_barrel 4 88 90 [some (.ref 0), none, some (.int a2), some (.int a3)] [] M Q := by
  unfold fpX5_barrel_l90s at h
  refine e_iload_n dX5_barrel_90 rfl ?_
  refine e_aload_n dX5_barrel_91 rfl ?_
  refine e_getR fa_RX5_10 is_X0 rfl dX5_barrel_92 ?_
  refine e_getI fa_RX5_117 is_X1 dX5_barrel_95 ?_
  refine e_icmp_gt 122 dX5_barrel_98 (by decide) (fun c8 => ?_) (fun c8 => ?_)
  · have h := ok_t c8 h
    refine e_forget [some (.ref 0), none, none, none] (leL_s (leL_n (leL_n (leL_n leL_0)))) ?_
    have h := ok_some h
    exact h
  · have h := ok_f c8 h
    refine e_aload_n dX5_barrel_101 rfl ?_
    refine e_getR fa_RX5_46 is_X0 rfl dX5_barrel_102 ?_
    refine e_iload_n dX5_barrel_105 rfl ?_
    refine e_iconst (-1 : Int32) dX5_barrel_106 (by decide) ?_
    refine e_callV (f2 := 2) (l2 := 44) (ν := mtX0_planBrings) (as := [.int a3, .int (-1 : Int32)]) cv_RX5_179 is_X46 kc_6 ⟨Nat.le_of_ble_eq_true rfl, Nat.le_of_ble_eq_true rfl⟩ rfl rfl (Nat.le_of_ble_eq_true rfl) dX5_barrel_107 ?_
    refine ctX0_planBrings a3 (-1 : Int32) (ok_bnd h (fun v9 h => ?_))
    show Ev (wX, z) mtX5_barrel 4 88 110 [some (.ref 0), none, some (.int a2), some (.int a3)] [.int v9] M Q
    refine e_iload_n dX5_barrel_110 rfl ?_
    refine e_icmp_ne 116 dX5_barrel_111 (by decide) (fun c10 => ?_) (fun c10 => ?_)
    · have h := ok_f c10 h
      refine lv1e h (fun v11 ev11 h => ?_)
      refine e_iinc v11 dX5_barrel_116 rfl ev11 (by decide) rfl ?_
      refine e_goto 90 dX5_barrel_119 (by decide) ?_
      refine e_forget [some (.ref 0), none, some (.int a2), some (.int v11)] (leL_s (leL_n (leL_s (leL_s leL_0)))) ?_
      have h := ok_some h
      exact h
    · have h := ok_t c10 h
      refine e_iload_n dX5_barrel_114 rfl ?_
      have h := ok_some h
      exact e_iret rfl dX5_barrel_115 h
theorem elX5_barrel_l90 {z : Zt} {Q : Option Value → Me → Prop} (a2 : Int32) (M : Me) (N : Nat) (s : Int32) (h : ok (lp (fpX5_barrel_l90 a2 M) N s) (XX5_barrel_90 z a2 M Q)) : EX5_barrel_90 z a2 M Q s :=
  lp_ind (fun s h => ebX5_barrel_l90s a2 s M h) N s h
def fpX5_barrel (a1 : Int32) (a2 : Int32) (M : Me) : Option (Int32 × Me) := (if (fpX5_noSuchSheet a1) = 0 then
 (inb a1 4).bind fun k2 =>
 (if (fpX3_isMissing (37 + 2 * k2) M) = 0 then
 (fpX0_lay 1 (M.1 1 8) M).bind fun q4 =>
 (fpX0_planFrom (37 + 2 * k2) q4).bind fun q5 =>
 (if q5.1 = 0 then
 (fpX5_finding (4 : Int32) q5.2).bind fun q17 =>
 some (q17.1, q17.2)
 else
 (if (fpX5_outside a2 (0 : Int32) (999 : Int32)) = 0 then
 (lp (fpX5_barrel_l90 a2 q5.2) FU (0 : Int32)).bind fun r12 => Sum.elim (fun t13 =>
 (fpX5_finding (3 : Int32) q5.2).bind fun q15 =>
 some (q15.1, q15.2)) (fun u14 => some u14) r12
 else
 (fpX5_finding (0 : Int32) q5.2).bind fun q16 =>
 some (q16.1, q16.2)))
 else
 (fpX5_finding (5 : Int32) M).bind fun q18 =>
 some (q18.1, q18.2))
 else
 (fpX5_finding (0 : Int32) M).bind fun q19 =>
 some (q19.1, q19.2))
set_option maxRecDepth 20000 in
theorem ctX5_barrel {z : Zt} {M : Me} {Q : Option Value → Me → Prop} (a1 : Int32) (a2 : Int32)  (h : ok (fpX5_barrel a1 a2 M) (fun a => Q (some (.int a.1)) a.2)) : EvM (wX, z) mtX5_barrel 4 88 [.ref 0, .int a1, .int a2] M Q := by
  refine evm_of [some (.ref 0), some (.int a1), some (.int a2), none] 1 (by decide +kernel) (Nat.le_of_ble_eq_true rfl) rfl ?_
  unfold fpX5_barrel at h
  refine e_iload_n dX5_barrel_0 rfl ?_
  refine e_callS (f2 := 1) (l2 := 22) (ν := mtX5_noSuchSheet) (as := [.int a1]) cs_RX5_236 ⟨Nat.le_of_ble_eq_true rfl, Nat.le_of_ble_eq_true rfl⟩ rfl rfl (Nat.le_of_ble_eq_true rfl) dX5_barrel_1 ?_
  refine ctX5_noSuchSheet a1 ?_
  show Ev (wX, z) mtX5_barrel 4 88 4 [some (.ref 0), some (.int a1), some (.int a2), none] [.int (fpX5_noSuchSheet a1)] M Q
  refine e_if_eq 13 dX5_barrel_4 (by decide) (fun c1 => ?_) (fun c1 => ?_)
  · have h := ok_t c1 h
    refine e_aload_n dX5_barrel_13 rfl ?_
    refine e_getR fa_RX5_35 is_X0 rfl dX5_barrel_14 ?_
    refine e_iload_n dX5_barrel_17 rfl ?_
    refine ok_inb h (fun k2 ek2 ik2 h => ?_)
    refine e_aaldK ra_X36 (r' := (37 + 2 * k2)) (Or.inr rfl) ik2 ek2 (by omega) dX5_barrel_18 ?_
    refine e_callV (f2 := 0) (l2 := 0) (ν := mtX3_isMissing) (as := []) cv_RX5_239 (st_is ik2 ek2) kc_5 ⟨Nat.le_of_ble_eq_true rfl, Nat.le_of_ble_eq_true rfl⟩ rfl rfl (Nat.le_of_ble_eq_true rfl) dX5_barrel_19 ?_
    refine ctX3_isMissing (37 + 2 * k2) (st_is ik2 ek2) ?_
    show Ev (wX, z) mtX5_barrel 4 88 22 [some (.ref 0), some (.int a1), some (.int a2), none] [.int (fpX3_isMissing (37 + 2 * k2) M)] M Q
    refine e_if_eq 31 dX5_barrel_22 (by decide) (fun c3 => ?_) (fun c3 => ?_)
    · have h := ok_t c3 h
      refine e_aload_n dX5_barrel_31 rfl ?_
      refine e_getR fa_RX5_46 is_X0 rfl dX5_barrel_32 ?_
      refine e_aload_n dX5_barrel_35 rfl ?_
      refine e_getR fa_RX5_10 is_X0 rfl dX5_barrel_36 ?_
      refine e_aload_n dX5_barrel_39 rfl ?_
      refine e_getR fa_RX5_10 is_X0 rfl dX5_barrel_40 ?_
      refine e_getI fa_RX5_123 is_X1 dX5_barrel_43 ?_
      refine e_callV (f2 := 3) (l2 := 64) (ν := mtX0_lay) (as := [.ref 1, .int (M.1 1 8)]) cv_RX5_172 is_X46 kc_6 ⟨Nat.le_of_ble_eq_true rfl, Nat.le_of_ble_eq_true rfl⟩ rfl rfl (Nat.le_of_ble_eq_true rfl) dX5_barrel_46 ?_
      refine ctX0_lay 1 (M.1 1 8) is_X1 (ok_bnd h (fun q4 h => ?_))
      show Ev (wX, z) mtX5_barrel 4 88 49 [some (.ref 0), some (.int a1), some (.int a2), none] [] q4 Q
      refine e_aload_n dX5_barrel_49 rfl ?_
      refine e_getR fa_RX5_46 is_X0 rfl dX5_barrel_50 ?_
      refine e_aload_n dX5_barrel_53 rfl ?_
      refine e_getR fa_RX5_35 is_X0 rfl dX5_barrel_54 ?_
      refine e_iload_n dX5_barrel_57 rfl ?_
      refine e_aaldK ra_X36 (r' := (37 + 2 * k2)) (Or.inr rfl) ik2 ek2 (by omega) dX5_barrel_58 ?_
      refine e_callV (f2 := 1) (l2 := 21) (ν := mtX0_planFrom) (as := [.ref (37 + 2 * k2)]) cv_RX5_242 is_X46 kc_6 ⟨Nat.le_of_ble_eq_true rfl, Nat.le_of_ble_eq_true rfl⟩ rfl rfl (Nat.le_of_ble_eq_true rfl) dX5_barrel_59 ?_
      refine ctX0_planFrom (37 + 2 * k2) (st_is ik2 ek2) (ok_bnd h (fun q5 h => ?_))
      show Ev (wX, z) mtX5_barrel 4 88 62 [some (.ref 0), some (.int a1), some (.int a2), none] [.int q5.1] q5.2 Q
      refine e_if_ne 71 dX5_barrel_62 (by decide) (fun c6 => ?_) (fun c6 => ?_)
      · have h := ok_f c6 h
        refine e_iload_n dX5_barrel_71 rfl ?_
        refine e_iconst (0 : Int32) dX5_barrel_72 (by decide) ?_
        refine e_sipush (999 : Int32) dX5_barrel_73 (by decide) ?_
        refine e_callS (f2 := 0) (l2 := 0) (ν := mtX5_outside) (as := [.int a2, .int (0 : Int32), .int (999 : Int32)]) cs_RX5_51 ⟨Nat.le_of_ble_eq_true rfl, Nat.le_of_ble_eq_true rfl⟩ rfl rfl (Nat.le_of_ble_eq_true rfl) dX5_barrel_76 ?_
        refine ctX5_outside a2 (0 : Int32) (999 : Int32) ?_
        show Ev (wX, z) mtX5_barrel 4 88 79 [some (.ref 0), some (.int a1), some (.int a2), none] [.int (fpX5_outside a2 (0 : Int32) (999 : Int32))] q5.2 Q
        refine e_if_eq 88 dX5_barrel_79 (by decide) (fun c7 => ?_) (fun c7 => ?_)
        · have h := ok_t c7 h
          refine e_iconst (0 : Int32) dX5_barrel_88 (by decide) ?_
          refine e_istore_n dX5_barrel_89 (by decide) rfl ?_
          refine e_forget [some (.ref 0), none, some (.int a2), some (.int (0 : Int32))] (leL_s (leL_n (leL_s (leL_s leL_0)))) ?_
          refine elX5_barrel_l90 a2 q5.2 FU (0 : Int32) (ok_bnd h (fun r12 h => ?_))
          rcases r12 with t13 | u14
          · show Ev (wX, z) mtX5_barrel 4 88 122 [some (.ref 0), none, none, none] [] q5.2 Q
            refine e_aload_n dX5_barrel_122 rfl ?_
            refine e_iconst (3 : Int32) dX5_barrel_123 (by decide) ?_
            refine e_callV (f2 := 0) (l2 := 0) (ν := mtX5_finding) (as := [.int (3 : Int32)]) cv_RX5_55 is_X0 kc_1 ⟨Nat.le_of_ble_eq_true rfl, Nat.le_of_ble_eq_true rfl⟩ rfl rfl (Nat.le_of_ble_eq_true rfl) dX5_barrel_124 ?_
            refine ctX5_finding (3 : Int32) (ok_bnd h (fun q15 h => ?_))
            show Ev (wX, z) mtX5_barrel 4 88 127 [some (.ref 0), none, none, none] [.int q15.1] q15.2 Q
            have h := ok_some h
            exact e_iret rfl dX5_barrel_127 h
          · have h := ok_some h
            exact h
        · have h := ok_f c7 h
          refine e_aload_n dX5_barrel_82 rfl ?_
          refine e_iconst (0 : Int32) dX5_barrel_83 (by decide) ?_
          refine e_callV (f2 := 0) (l2 := 0) (ν := mtX5_finding) (as := [.int (0 : Int32)]) cv_RX5_55 is_X0 kc_1 ⟨Nat.le_of_ble_eq_true rfl, Nat.le_of_ble_eq_true rfl⟩ rfl rfl (Nat.le_of_ble_eq_true rfl) dX5_barrel_84 ?_
          refine ctX5_finding (0 : Int32) (ok_bnd h (fun q16 h => ?_))
          show Ev (wX, z) mtX5_barrel 4 88 87 [some (.ref 0), some (.int a1), some (.int a2), none] [.int q16.1] q16.2 Q
          have h := ok_some h
          exact e_iret rfl dX5_barrel_87 h
      · have h := ok_t c6 h
        refine e_aload_n dX5_barrel_65 rfl ?_
        refine e_iconst (4 : Int32) dX5_barrel_66 (by decide) ?_
        refine e_callV (f2 := 0) (l2 := 0) (ν := mtX5_finding) (as := [.int (4 : Int32)]) cv_RX5_55 is_X0 kc_1 ⟨Nat.le_of_ble_eq_true rfl, Nat.le_of_ble_eq_true rfl⟩ rfl rfl (Nat.le_of_ble_eq_true rfl) dX5_barrel_67 ?_
        refine ctX5_finding (4 : Int32) (ok_bnd h (fun q17 h => ?_))
        show Ev (wX, z) mtX5_barrel 4 88 70 [some (.ref 0), some (.int a1), some (.int a2), none] [.int q17.1] q17.2 Q
        have h := ok_some h
        exact e_iret rfl dX5_barrel_70 h
    · have h := ok_f c3 h
      refine e_aload_n dX5_barrel_25 rfl ?_
      refine e_iconst (5 : Int32) dX5_barrel_26 (by decide) ?_
      refine e_callV (f2 := 0) (l2 := 0) (ν := mtX5_finding) (as := [.int (5 : Int32)]) cv_RX5_55 is_X0 kc_1 ⟨Nat.le_of_ble_eq_true rfl, Nat.le_of_ble_eq_true rfl⟩ rfl rfl (Nat.le_of_ble_eq_true rfl) dX5_barrel_27 ?_
      refine ctX5_finding (5 : Int32) (ok_bnd h (fun q18 h => ?_))
      show Ev (wX, z) mtX5_barrel 4 88 30 [some (.ref 0), some (.int a1), some (.int a2), none] [.int q18.1] q18.2 Q
      have h := ok_some h
      exact e_iret rfl dX5_barrel_30 h
  · have h := ok_f c1 h
    refine e_aload_n dX5_barrel_7 rfl ?_
    refine e_iconst (0 : Int32) dX5_barrel_8 (by decide) ?_
    refine e_callV (f2 := 0) (l2 := 0) (ν := mtX5_finding) (as := [.int (0 : Int32)]) cv_RX5_55 is_X0 kc_1 ⟨Nat.le_of_ble_eq_true rfl, Nat.le_of_ble_eq_true rfl⟩ rfl rfl (Nat.le_of_ble_eq_true rfl) dX5_barrel_9 ?_
    refine ctX5_finding (0 : Int32) (ok_bnd h (fun q19 h => ?_))
    show Ev (wX, z) mtX5_barrel 4 88 12 [some (.ref 0), some (.int a1), some (.int a2), none] [.int q19.1] q19.2 Q
    have h := ok_some h
    exact e_iret rfl dX5_barrel_12 h
def fpX5_judge (a1 : Int32) (a2 : Int32) (M : Me) : Option (Int32 × Me) := (if (fpX5_noSuchSheet a1) = 0 then
 (inb a1 4).bind fun k2 =>
 (if (fpX3_isMissing (37 + 2 * k2) M) = 0 then
 (if (fpX5_notCarried a2 M) = 0 then
 (fpX0_lay 1 (M.1 1 8) M).bind fun q5 =>
 (fpX0_runsInARow (37 + 2 * k2) a2 q5).bind fun v6 =>
 (if v6 = (q5.1 (37 + 2 * k2) 2) then
 some ((0 : Int32), q5)
 else
 some (((1 : Int32) + v6), q5))
 else
 (fpX5_finding (0 : Int32) M).bind fun q8 =>
 some (q8.1, q8.2))
 else
 (fpX5_finding (5 : Int32) M).bind fun q9 =>
 some (q9.1, q9.2))
 else
 (fpX5_finding (0 : Int32) M).bind fun q10 =>
 some (q10.1, q10.2))
set_option maxRecDepth 20000 in
theorem ctX5_judge {z : Zt} {M : Me} {Q : Option Value → Me → Prop} (a1 : Int32) (a2 : Int32)  (h : ok (fpX5_judge a1 a2 M) (fun a => Q (some (.int a.1)) a.2)) : EvM (wX, z) mtX5_judge 4 88 [.ref 0, .int a1, .int a2] M Q := by
  refine evm_of [some (.ref 0), some (.int a1), some (.int a2), none] 1 (by decide +kernel) (Nat.le_of_ble_eq_true rfl) rfl ?_
  unfold fpX5_judge at h
  refine e_iload_n dX5_judge_0 rfl ?_
  refine e_callS (f2 := 1) (l2 := 22) (ν := mtX5_noSuchSheet) (as := [.int a1]) cs_RX5_236 ⟨Nat.le_of_ble_eq_true rfl, Nat.le_of_ble_eq_true rfl⟩ rfl rfl (Nat.le_of_ble_eq_true rfl) dX5_judge_1 ?_
  refine ctX5_noSuchSheet a1 ?_
  show Ev (wX, z) mtX5_judge 4 88 4 [some (.ref 0), some (.int a1), some (.int a2), none] [.int (fpX5_noSuchSheet a1)] M Q
  refine e_if_eq 13 dX5_judge_4 (by decide) (fun c1 => ?_) (fun c1 => ?_)
  · have h := ok_t c1 h
    refine e_aload_n dX5_judge_13 rfl ?_
    refine e_getR fa_RX5_35 is_X0 rfl dX5_judge_14 ?_
    refine e_iload_n dX5_judge_17 rfl ?_
    refine ok_inb h (fun k2 ek2 ik2 h => ?_)
    refine e_aaldK ra_X36 (r' := (37 + 2 * k2)) (Or.inr rfl) ik2 ek2 (by omega) dX5_judge_18 ?_
    refine e_callV (f2 := 0) (l2 := 0) (ν := mtX3_isMissing) (as := []) cv_RX5_239 (st_is ik2 ek2) kc_5 ⟨Nat.le_of_ble_eq_true rfl, Nat.le_of_ble_eq_true rfl⟩ rfl rfl (Nat.le_of_ble_eq_true rfl) dX5_judge_19 ?_
    refine ctX3_isMissing (37 + 2 * k2) (st_is ik2 ek2) ?_
    show Ev (wX, z) mtX5_judge 4 88 22 [some (.ref 0), some (.int a1), some (.int a2), none] [.int (fpX3_isMissing (37 + 2 * k2) M)] M Q
    refine e_if_eq 31 dX5_judge_22 (by decide) (fun c3 => ?_) (fun c3 => ?_)
    · have h := ok_t c3 h
      refine e_aload_n dX5_judge_31 rfl ?_
      refine e_iload_n dX5_judge_32 rfl ?_
      refine e_callV (f2 := 1) (l2 := 22) (ν := mtX5_notCarried) (as := [.int a2]) cv_RX5_133 is_X0 kc_1 ⟨Nat.le_of_ble_eq_true rfl, Nat.le_of_ble_eq_true rfl⟩ rfl rfl (Nat.le_of_ble_eq_true rfl) dX5_judge_33 ?_
      refine ctX5_notCarried a2 ?_
      show Ev (wX, z) mtX5_judge 4 88 36 [some (.ref 0), some (.int a1), some (.int a2), none] [.int (fpX5_notCarried a2 M)] M Q
      refine e_if_eq 45 dX5_judge_36 (by decide) (fun c4 => ?_) (fun c4 => ?_)
      · have h := ok_t c4 h
        refine e_aload_n dX5_judge_45 rfl ?_
        refine e_getR fa_RX5_46 is_X0 rfl dX5_judge_46 ?_
        refine e_aload_n dX5_judge_49 rfl ?_
        refine e_getR fa_RX5_10 is_X0 rfl dX5_judge_50 ?_
        refine e_aload_n dX5_judge_53 rfl ?_
        refine e_getR fa_RX5_10 is_X0 rfl dX5_judge_54 ?_
        refine e_getI fa_RX5_123 is_X1 dX5_judge_57 ?_
        refine e_callV (f2 := 3) (l2 := 64) (ν := mtX0_lay) (as := [.ref 1, .int (M.1 1 8)]) cv_RX5_172 is_X46 kc_6 ⟨Nat.le_of_ble_eq_true rfl, Nat.le_of_ble_eq_true rfl⟩ rfl rfl (Nat.le_of_ble_eq_true rfl) dX5_judge_60 ?_
        refine ctX0_lay 1 (M.1 1 8) is_X1 (ok_bnd h (fun q5 h => ?_))
        show Ev (wX, z) mtX5_judge 4 88 63 [some (.ref 0), some (.int a1), some (.int a2), none] [] q5 Q
        refine e_aload_n dX5_judge_63 rfl ?_
        refine e_getR fa_RX5_46 is_X0 rfl dX5_judge_64 ?_
        refine e_aload_n dX5_judge_67 rfl ?_
        refine e_getR fa_RX5_35 is_X0 rfl dX5_judge_68 ?_
        refine e_iload_n dX5_judge_71 rfl ?_
        refine e_aaldK ra_X36 (r' := (37 + 2 * k2)) (Or.inr rfl) ik2 ek2 (by omega) dX5_judge_72 ?_
        refine e_iload_n dX5_judge_73 rfl ?_
        refine e_callV (f2 := 2) (l2 := 44) (ν := mtX0_runsInARow) (as := [.ref (37 + 2 * k2), .int a2]) cv_RX5_246 is_X46 kc_6 ⟨Nat.le_of_ble_eq_true rfl, Nat.le_of_ble_eq_true rfl⟩ rfl rfl (Nat.le_of_ble_eq_true rfl) dX5_judge_74 ?_
        refine ctX0_runsInARow (37 + 2 * k2) a2 (st_is ik2 ek2) (ok_bnd h (fun v6 h => ?_))
        show Ev (wX, z) mtX5_judge 4 88 77 [some (.ref 0), some (.int a1), some (.int a2), none] [.int v6] q5 Q
        refine e_istore_n dX5_judge_77 (by decide) rfl ?_
        refine e_iload_n dX5_judge_78 rfl ?_
        refine e_aload_n dX5_judge_79 rfl ?_
        refine e_getR fa_RX5_35 is_X0 rfl dX5_judge_80 ?_
        refine e_iload_n dX5_judge_83 rfl ?_
        refine e_aaldK ra_X36 (r' := (37 + 2 * k2)) (Or.inr rfl) ik2 ek2 (by omega) dX5_judge_84 ?_
        refine e_getI fa_RX5_250 (st_is ik2 ek2) dX5_judge_85 ?_
        refine e_icmp_ne 95 dX5_judge_88 (by decide) (fun c7 => ?_) (fun c7 => ?_)
        · have h := ok_f c7 h
          refine e_iconst (1 : Int32) dX5_judge_95 (by decide) ?_
          refine e_iload_n dX5_judge_96 rfl ?_
          refine e_iadd dX5_judge_97 ?_
          have h := ok_some h
          exact e_iret rfl dX5_judge_98 h
        · have h := ok_t c7 h
          refine e_iconst (0 : Int32) dX5_judge_91 (by decide) ?_
          refine e_goto 98 dX5_judge_92 (by decide) ?_
          have h := ok_some h
          exact e_iret rfl dX5_judge_98 h
      · have h := ok_f c4 h
        refine e_aload_n dX5_judge_39 rfl ?_
        refine e_iconst (0 : Int32) dX5_judge_40 (by decide) ?_
        refine e_callV (f2 := 0) (l2 := 0) (ν := mtX5_finding) (as := [.int (0 : Int32)]) cv_RX5_55 is_X0 kc_1 ⟨Nat.le_of_ble_eq_true rfl, Nat.le_of_ble_eq_true rfl⟩ rfl rfl (Nat.le_of_ble_eq_true rfl) dX5_judge_41 ?_
        refine ctX5_finding (0 : Int32) (ok_bnd h (fun q8 h => ?_))
        show Ev (wX, z) mtX5_judge 4 88 44 [some (.ref 0), some (.int a1), some (.int a2), none] [.int q8.1] q8.2 Q
        have h := ok_some h
        exact e_iret rfl dX5_judge_44 h
    · have h := ok_f c3 h
      refine e_aload_n dX5_judge_25 rfl ?_
      refine e_iconst (5 : Int32) dX5_judge_26 (by decide) ?_
      refine e_callV (f2 := 0) (l2 := 0) (ν := mtX5_finding) (as := [.int (5 : Int32)]) cv_RX5_55 is_X0 kc_1 ⟨Nat.le_of_ble_eq_true rfl, Nat.le_of_ble_eq_true rfl⟩ rfl rfl (Nat.le_of_ble_eq_true rfl) dX5_judge_27 ?_
      refine ctX5_finding (5 : Int32) (ok_bnd h (fun q9 h => ?_))
      show Ev (wX, z) mtX5_judge 4 88 30 [some (.ref 0), some (.int a1), some (.int a2), none] [.int q9.1] q9.2 Q
      have h := ok_some h
      exact e_iret rfl dX5_judge_30 h
  · have h := ok_f c1 h
    refine e_aload_n dX5_judge_7 rfl ?_
    refine e_iconst (0 : Int32) dX5_judge_8 (by decide) ?_
    refine e_callV (f2 := 0) (l2 := 0) (ν := mtX5_finding) (as := [.int (0 : Int32)]) cv_RX5_55 is_X0 kc_1 ⟨Nat.le_of_ble_eq_true rfl, Nat.le_of_ble_eq_true rfl⟩ rfl rfl (Nat.le_of_ble_eq_true rfl) dX5_judge_9 ?_
    refine ctX5_finding (0 : Int32) (ok_bnd h (fun q10 h => ?_))
    show Ev (wX, z) mtX5_judge 4 88 12 [some (.ref 0), some (.int a1), some (.int a2), none] [.int q10.1] q10.2 Q
    have h := ok_some h
    exact e_iret rfl dX5_judge_12 h
def XX5_feed_39 (z : Zt) (a1 : Int32) (Q : Option Value → Me → Prop) : (Me) → Prop := fun t => Ev (wX, z) mtX5_feed 1 22 62 [some (.ref 0), none, none, none] [] t Q
def EX5_feed_39 (z : Zt) (a1 : Int32) (Q : Option Value → Me → Prop) : (Int32 × Me) → Prop := fun s => Ev (wX, z) mtX5_feed 1 22 39 [some (.ref 0), some (.int a1), none, some (.int s.1)] [] s.2 Q
def GX5_feed_39 (z : Zt) (a1 : Int32) (Q : Option Value → Me → Prop) : (Int32 × Me) ⊕ (Me) → Prop := Sum.elim (EX5_feed_39 z a1 Q) (XX5_feed_39 z a1 Q)
def fpX5_feed_l39s (a1 : Int32) (a3 : Int32) (M : Me) : Option ((Int32 × Me) ⊕ (Me)) := (if a3 < 0 then
 some (.inr M)
 else
 (fpX4_add (jushr a1 ((8 : Int32) * a3)) M).bind fun q5 =>
 letv (a3 + (-1 : Int32)) fun v6 =>
 some (.inl (v6, q5)))
def fpX5_feed_l39 (a1 : Int32) (s : Int32 × Me) : Option ((Int32 × Me) ⊕ (Me)) := fpX5_feed_l39s a1 s.1 s.2
set_option maxRecDepth 20000 in
theorem ebX5_feed_l39s {z : Zt} {Q : Option Value → Me → Prop} (a1 : Int32) (a3 : Int32) (M : Me) (h : ok (fpX5_feed_l39s a1 a3 M) (GX5_feed_39 z a1 Q)) : Ev (wX, z) mtX5_feed 1 22 39 [some (.ref 0), some (.int a1), none, some (.int a3)] [] M Q := by
  unfold fpX5_feed_l39s at h
  refine e_iload_n dX5_feed_39 rfl ?_
  refine e_if_lt 62 dX5_feed_40 (by decide) (fun c4 => ?_) (fun c4 => ?_)
  · have h := ok_t c4 h
    refine e_forget [some (.ref 0), none, none, none] (leL_s (leL_n (leL_n (leL_n leL_0)))) ?_
    have h := ok_some h
    exact h
  · have h := ok_f c4 h
    refine e_aload_n dX5_feed_43 rfl ?_
    refine e_getR fa_RX5_29 is_X0 rfl dX5_feed_44 ?_
    refine e_iload_n dX5_feed_47 rfl ?_
    refine e_bipush (8 : Int32) dX5_feed_48 (by decide) ?_
    refine e_iload_n dX5_feed_50 rfl ?_
    refine e_imul dX5_feed_51 ?_
    refine e_iushr dX5_feed_52 ?_
    refine e_callV (f2 := 0) (l2 := 0) (ν := mtX4_add) (as := [.int (jushr a1 ((8 : Int32) * a3))]) cv_RX5_254 is_X34 kc_4 ⟨Nat.le_of_ble_eq_true rfl, Nat.le_of_ble_eq_true rfl⟩ rfl rfl (Nat.le_of_ble_eq_true rfl) dX5_feed_53 ?_
    refine ctX4_add (jushr a1 ((8 : Int32) * a3)) (ok_bnd h (fun q5 h => ?_))
    show Ev (wX, z) mtX5_feed 1 22 56 [some (.ref 0), some (.int a1), none, some (.int a3)] [] q5 Q
    refine lv1e h (fun v6 ev6 h => ?_)
    refine e_iinc v6 dX5_feed_56 rfl ev6 (by decide) rfl ?_
    refine e_goto 39 dX5_feed_59 (by decide) ?_
    refine e_forget [some (.ref 0), some (.int a1), none, some (.int v6)] (leL_s (leL_s (leL_n (leL_s leL_0)))) ?_
    have h := ok_some h
    exact h
theorem elX5_feed_l39 {z : Zt} {Q : Option Value → Me → Prop} (a1 : Int32) (N : Nat) (s : Int32 × Me) (h : ok (lp (fpX5_feed_l39 a1) N s) (XX5_feed_39 z a1 Q)) : EX5_feed_39 z a1 Q s :=
  lp_ind (fun s h => ebX5_feed_l39s a1 s.1 s.2 h) N s h
def fpX5_feed (a1 : Int32) (a2 : Int32) (M : Me) : Option (Int32 × Me) := (if (fpX5_outside a2 (1 : Int32) (4 : Int32)) = 0 then
 (if ((M.1 34 1) + a2) ≤ (120 : Int32) then
 letv (a2 - (1 : Int32)) fun v3 =>
 (lp (fpX5_feed_l39 a1) FU (v3, M)).bind fun r7 =>
 some ((r7.1 34 1), r7)
 else
 (fpX5_finding (1 : Int32) M).bind fun q8 =>
 some (q8.1, q8.2))
 else
 (fpX5_finding (0 : Int32) M).bind fun q9 =>
 some (q9.1, q9.2))
set_option maxRecDepth 20000 in
theorem ctX5_feed {z : Zt} {M : Me} {Q : Option Value → Me → Prop} (a1 : Int32) (a2 : Int32)  (h : ok (fpX5_feed a1 a2 M) (fun a => Q (some (.int a.1)) a.2)) : EvM (wX, z) mtX5_feed 1 22 [.ref 0, .int a1, .int a2] M Q := by
  refine evm_of [some (.ref 0), some (.int a1), some (.int a2), none] 1 (by decide +kernel) (Nat.le_of_ble_eq_true rfl) rfl ?_
  unfold fpX5_feed at h
  refine e_iload_n dX5_feed_0 rfl ?_
  refine e_iconst (1 : Int32) dX5_feed_1 (by decide) ?_
  refine e_iconst (4 : Int32) dX5_feed_2 (by decide) ?_
  refine e_callS (f2 := 0) (l2 := 0) (ν := mtX5_outside) (as := [.int a2, .int (1 : Int32), .int (4 : Int32)]) cs_RX5_51 ⟨Nat.le_of_ble_eq_true rfl, Nat.le_of_ble_eq_true rfl⟩ rfl rfl (Nat.le_of_ble_eq_true rfl) dX5_feed_3 ?_
  refine ctX5_outside a2 (1 : Int32) (4 : Int32) ?_
  show Ev (wX, z) mtX5_feed 1 22 6 [some (.ref 0), some (.int a1), some (.int a2), none] [.int (fpX5_outside a2 (1 : Int32) (4 : Int32))] M Q
  refine e_if_eq 15 dX5_feed_6 (by decide) (fun c1 => ?_) (fun c1 => ?_)
  · have h := ok_t c1 h
    refine e_aload_n dX5_feed_15 rfl ?_
    refine e_getR fa_RX5_29 is_X0 rfl dX5_feed_16 ?_
    refine e_getI fa_RX5_253 is_X34 dX5_feed_19 ?_
    refine e_iload_n dX5_feed_22 rfl ?_
    refine e_iadd dX5_feed_23 ?_
    refine e_bipush (120 : Int32) dX5_feed_24 (by decide) ?_
    refine e_icmp_le 35 dX5_feed_26 (by decide) (fun c2 => ?_) (fun c2 => ?_)
    · have h := ok_t c2 h
      refine e_iload_n dX5_feed_35 rfl ?_
      refine e_iconst (1 : Int32) dX5_feed_36 (by decide) ?_
      refine e_isub dX5_feed_37 ?_
      refine lv1 (P := fun v3 => Ev (wX, z) mtX5_feed 1 22 38 [some (.ref 0), some (.int a1), some (.int a2), none] [.int v3] M Q) h (fun v3 h => ?_)
      refine e_istore_n dX5_feed_38 (by decide) rfl ?_
      refine e_forget [some (.ref 0), some (.int a1), none, some (.int v3)] (leL_s (leL_s (leL_n (leL_s leL_0)))) ?_
      refine elX5_feed_l39 a1 FU (v3, M) (ok_bnd h (fun r7 h => ?_))
      show Ev (wX, z) mtX5_feed 1 22 62 [some (.ref 0), none, none, none] [] r7 Q
      refine e_aload_n dX5_feed_62 rfl ?_
      refine e_getR fa_RX5_29 is_X0 rfl dX5_feed_63 ?_
      refine e_getI fa_RX5_253 is_X34 dX5_feed_66 ?_
      have h := ok_some h
      exact e_iret rfl dX5_feed_69 h
    · have h := ok_f c2 h
      refine e_aload_n dX5_feed_29 rfl ?_
      refine e_iconst (1 : Int32) dX5_feed_30 (by decide) ?_
      refine e_callV (f2 := 0) (l2 := 0) (ν := mtX5_finding) (as := [.int (1 : Int32)]) cv_RX5_55 is_X0 kc_1 ⟨Nat.le_of_ble_eq_true rfl, Nat.le_of_ble_eq_true rfl⟩ rfl rfl (Nat.le_of_ble_eq_true rfl) dX5_feed_31 ?_
      refine ctX5_finding (1 : Int32) (ok_bnd h (fun q8 h => ?_))
      show Ev (wX, z) mtX5_feed 1 22 34 [some (.ref 0), some (.int a1), some (.int a2), none] [.int q8.1] q8.2 Q
      have h := ok_some h
      exact e_iret rfl dX5_feed_34 h
  · have h := ok_f c1 h
    refine e_aload_n dX5_feed_9 rfl ?_
    refine e_iconst (0 : Int32) dX5_feed_10 (by decide) ?_
    refine e_callV (f2 := 0) (l2 := 0) (ν := mtX5_finding) (as := [.int (0 : Int32)]) cv_RX5_55 is_X0 kc_1 ⟨Nat.le_of_ble_eq_true rfl, Nat.le_of_ble_eq_true rfl⟩ rfl rfl (Nat.le_of_ble_eq_true rfl) dX5_feed_11 ?_
    refine ctX5_finding (0 : Int32) (ok_bnd h (fun q9 h => ?_))
    show Ev (wX, z) mtX5_feed 1 22 14 [some (.ref 0), some (.int a1), some (.int a2), none] [.int q9.1] q9.2 Q
    have h := ok_some h
    exact e_iret rfl dX5_feed_14 h
def fpX5_wipe  (M : Me) : Option (Int32 × Me) := letv (M.1 34 1) fun v1 =>
 letv (wrM M 34 1 (0 : Int32)) fun M2 =>
 some (v1, M2)
set_option maxRecDepth 20000 in
theorem ctX5_wipe {z : Zt} {M : Me} {Q : Option Value → Me → Prop}   (h : ok (fpX5_wipe M) (fun a => Q (some (.int a.1)) a.2)) : EvM (wX, z) mtX5_wipe 0 0 [.ref 0] M Q := by
  refine evm_of [some (.ref 0), none] 1 (by decide +kernel) (Nat.le_of_ble_eq_true rfl) rfl ?_
  unfold fpX5_wipe at h
  refine e_aload_n dX5_wipe_0 rfl ?_
  refine e_getR fa_RX5_29 is_X0 rfl dX5_wipe_1 ?_
  refine e_getI fa_RX5_253 is_X34 dX5_wipe_4 ?_
  refine lv1 (P := fun v1 => Ev (wX, z) mtX5_wipe 0 0 7 [some (.ref 0), none] [.int v1] M Q) h (fun v1 h => ?_)
  refine e_istore_n dX5_wipe_7 (by decide) rfl ?_
  refine e_aload_n dX5_wipe_8 rfl ?_
  refine e_getR fa_RX5_29 is_X0 rfl dX5_wipe_9 ?_
  refine e_iconst (0 : Int32) dX5_wipe_12 (by decide) ?_
  refine e_putI fw_RX5_253 is_X34 dX5_wipe_13 ?_
  refine lv1 (P := fun M2 => Ev (wX, z) mtX5_wipe 0 0 16 [some (.ref 0), some (.int v1)] [] M2 Q) h (fun M2 h => ?_)
  refine e_iload_n dX5_wipe_16 rfl ?_
  have h := ok_some h
  exact e_iret rfl dX5_wipe_17 h
def fpX5_text  (M : Me) : Option (Int32 × Me) := (fpX2_take 23 1 M).bind fun q1 =>
 (fpX4_readOnto 23 q1).bind fun q2 =>
 letv (wrM q2.2 34 1 (0 : Int32)) fun M3 =>
 (if q2.1 < 0 then
 some (q2.1, M3)
 else
 (fpX2_take 1 23 M3).bind fun q5 =>
 some (q2.1, q5))
set_option maxRecDepth 20000 in
theorem ctX5_text {z : Zt} {M : Me} {Q : Option Value → Me → Prop}   (h : ok (fpX5_text M) (fun a => Q (some (.int a.1)) a.2)) : EvM (wX, z) mtX5_text 8 176 [.ref 0] M Q := by
  refine evm_of [some (.ref 0), none] 1 (by decide +kernel) (Nat.le_of_ble_eq_true rfl) rfl ?_
  unfold fpX5_text at h
  refine e_aload_n dX5_text_0 rfl ?_
  refine e_getR fa_RX5_19 is_X0 rfl dX5_text_1 ?_
  refine e_aload_n dX5_text_4 rfl ?_
  refine e_getR fa_RX5_10 is_X0 rfl dX5_text_5 ?_
  refine e_callV (f2 := 1) (l2 := 26) (ν := mtX2_take) (as := [.ref 1]) cv_RX5_256 is_X23 kc_2 ⟨Nat.le_of_ble_eq_true rfl, Nat.le_of_ble_eq_true rfl⟩ rfl rfl (Nat.le_of_ble_eq_true rfl) dX5_text_8 ?_
  refine ctX2_take 23 1 is_X23 is_X1 (ok_bnd h (fun q1 h => ?_))
  show Ev (wX, z) mtX5_text 8 176 11 [some (.ref 0), none] [] q1 Q
  refine e_aload_n dX5_text_11 rfl ?_
  refine e_getR fa_RX5_29 is_X0 rfl dX5_text_12 ?_
  refine e_aload_n dX5_text_15 rfl ?_
  refine e_getR fa_RX5_19 is_X0 rfl dX5_text_16 ?_
  refine e_callV (f2 := 7) (l2 := 154) (ν := mtX4_readOnto) (as := [.ref 23]) cv_RX5_260 is_X34 kc_4 ⟨Nat.le_of_ble_eq_true rfl, Nat.le_of_ble_eq_true rfl⟩ rfl rfl (Nat.le_of_ble_eq_true rfl) dX5_text_19 ?_
  refine ctX4_readOnto 23 is_X23 (ok_bnd h (fun q2 h => ?_))
  show Ev (wX, z) mtX5_text 8 176 22 [some (.ref 0), none] [.int q2.1] q2.2 Q
  refine e_istore_n dX5_text_22 (by decide) rfl ?_
  refine e_aload_n dX5_text_23 rfl ?_
  refine e_getR fa_RX5_29 is_X0 rfl dX5_text_24 ?_
  refine e_iconst (0 : Int32) dX5_text_27 (by decide) ?_
  refine e_putI fw_RX5_253 is_X34 dX5_text_28 ?_
  refine lv1 (P := fun M3 => Ev (wX, z) mtX5_text 8 176 31 [some (.ref 0), some (.int q2.1)] [] M3 Q) h (fun M3 h => ?_)
  refine e_iload_n dX5_text_31 rfl ?_
  refine e_if_lt 46 dX5_text_32 (by decide) (fun c4 => ?_) (fun c4 => ?_)
  · have h := ok_t c4 h
    refine e_iload_n dX5_text_46 rfl ?_
    have h := ok_some h
    exact e_iret rfl dX5_text_47 h
  · have h := ok_f c4 h
    refine e_aload_n dX5_text_35 rfl ?_
    refine e_getR fa_RX5_10 is_X0 rfl dX5_text_36 ?_
    refine e_aload_n dX5_text_39 rfl ?_
    refine e_getR fa_RX5_19 is_X0 rfl dX5_text_40 ?_
    refine e_callV (f2 := 1) (l2 := 26) (ν := mtX2_take) (as := [.ref 23]) cv_RX5_256 is_X1 kc_2 ⟨Nat.le_of_ble_eq_true rfl, Nat.le_of_ble_eq_true rfl⟩ rfl rfl (Nat.le_of_ble_eq_true rfl) dX5_text_43 ?_
    refine ctX2_take 1 23 is_X1 is_X23 (ok_bnd h (fun q5 h => ?_))
    show Ev (wX, z) mtX5_text 8 176 46 [some (.ref 0), some (.int q2.1)] [] q5 Q
    refine e_iload_n dX5_text_46 rfl ?_
    have h := ok_some h
    exact e_iret rfl dX5_text_47 h
def fpX5_hold_b32 (a1 : Int32) (a2 : Int32) (M : Me) : Option (Int32 × Me) := (inb a1 10).bind fun k4 =>
 letv (wrM M 3 k4 a2) fun M5 =>
 some ((1 : Int32), M5)
set_option maxRecDepth 20000 in
theorem ebX5_hold_b32 {z : Zt} {Q : Option Value → Me → Prop} (a1 : Int32) (a2 : Int32) (M : Me) (h : ok (fpX5_hold_b32 a1 a2 M) (fun a => Q (some (.int a.1)) a.2)) : Ev (wX, z) mtX5_hold 1 22 32 [some (.ref 0), some (.int a1), some (.int a2)] [] M Q := by
  unfold fpX5_hold_b32 at h
  refine e_aload_n dX5_hold_32 rfl ?_
  refine e_getR fa_RX5_10 is_X0 rfl dX5_hold_33 ?_
  refine e_getR fa_RX5_264 is_X1 rfl dX5_hold_36 ?_
  refine e_iload_n dX5_hold_39 rfl ?_
  refine e_iload_n dX5_hold_40 rfl ?_
  refine ok_inb h (fun k4 ek4 ik4 h => ?_)
  refine e_iastK ia_X3 ik4 ek4 dX5_hold_41 ?_
  refine lv1 (P := fun M5 => Ev (wX, z) mtX5_hold 1 22 42 [some (.ref 0), some (.int a1), some (.int a2)] [] M5 Q) h (fun M5 h => ?_)
  refine e_iconst (1 : Int32) dX5_hold_42 (by decide) ?_
  have h := ok_some h
  exact e_iret rfl dX5_hold_43 h
def fpX5_hold (a1 : Int32) (a2 : Int32) (M : Me) : Option (Int32 × Me) := (if (fpX5_outside a1 (0 : Int32) (9 : Int32)) = 0 then
 (if a2 = (-1 : Int32) then
 fpX5_hold_b32 a1 a2 M
 else
 (if (fpX2_has 1 a2 M) = 0 then
 (fpX5_finding (0 : Int32) M).bind fun q7 =>
 some (q7.1, q7.2)
 else
 fpX5_hold_b32 a1 a2 M))
 else
 (fpX5_finding (0 : Int32) M).bind fun q2 =>
 some (q2.1, q2.2))
set_option maxRecDepth 20000 in
theorem ctX5_hold {z : Zt} {M : Me} {Q : Option Value → Me → Prop} (a1 : Int32) (a2 : Int32)  (h : ok (fpX5_hold a1 a2 M) (fun a => Q (some (.int a.1)) a.2)) : EvM (wX, z) mtX5_hold 1 22 [.ref 0, .int a1, .int a2] M Q := by
  refine evm_of [some (.ref 0), some (.int a1), some (.int a2)] 0 (by decide +kernel) (Nat.le_of_ble_eq_true rfl) rfl ?_
  unfold fpX5_hold at h
  refine e_iload_n dX5_hold_0 rfl ?_
  refine e_iconst (0 : Int32) dX5_hold_1 (by decide) ?_
  refine e_bipush (9 : Int32) dX5_hold_2 (by decide) ?_
  refine e_callS (f2 := 0) (l2 := 0) (ν := mtX5_outside) (as := [.int a1, .int (0 : Int32), .int (9 : Int32)]) cs_RX5_51 ⟨Nat.le_of_ble_eq_true rfl, Nat.le_of_ble_eq_true rfl⟩ rfl rfl (Nat.le_of_ble_eq_true rfl) dX5_hold_4 ?_
  refine ctX5_outside a1 (0 : Int32) (9 : Int32) ?_
  show Ev (wX, z) mtX5_hold 1 22 7 [some (.ref 0), some (.int a1), some (.int a2)] [.int (fpX5_outside a1 (0 : Int32) (9 : Int32))] M Q
  refine e_if_ne 26 dX5_hold_7 (by decide) (fun c1 => ?_) (fun c1 => ?_)
  · have h := ok_f c1 h
    refine e_aload_n dX5_hold_26 rfl ?_
    refine e_iconst (0 : Int32) dX5_hold_27 (by decide) ?_
    refine e_callV (f2 := 0) (l2 := 0) (ν := mtX5_finding) (as := [.int (0 : Int32)]) cv_RX5_55 is_X0 kc_1 ⟨Nat.le_of_ble_eq_true rfl, Nat.le_of_ble_eq_true rfl⟩ rfl rfl (Nat.le_of_ble_eq_true rfl) dX5_hold_28 ?_
    refine ctX5_finding (0 : Int32) (ok_bnd h (fun q2 h => ?_))
    show Ev (wX, z) mtX5_hold 1 22 31 [some (.ref 0), some (.int a1), some (.int a2)] [.int q2.1] q2.2 Q
    have h := ok_some h
    exact e_iret rfl dX5_hold_31 h
  · have h := ok_t c1 h
    refine e_iload_n dX5_hold_10 rfl ?_
    refine e_iconst (-1 : Int32) dX5_hold_11 (by decide) ?_
    refine e_icmp_eq 32 dX5_hold_12 (by decide) (fun c3 => ?_) (fun c3 => ?_)
    · have h := ok_t c3 h
      refine e_forget [some (.ref 0), some (.int a1), some (.int a2)] (leL_s (leL_s (leL_s leL_0))) ?_
      exact ebX5_hold_b32 a1 a2 M h
    · have h := ok_f c3 h
      refine e_aload_n dX5_hold_15 rfl ?_
      refine e_getR fa_RX5_10 is_X0 rfl dX5_hold_16 ?_
      refine e_iload_n dX5_hold_19 rfl ?_
      refine e_callV (f2 := 0) (l2 := 0) (ν := mtX2_has) (as := [.int a2]) cv_RX5_71 is_X1 kc_2 ⟨Nat.le_of_ble_eq_true rfl, Nat.le_of_ble_eq_true rfl⟩ rfl rfl (Nat.le_of_ble_eq_true rfl) dX5_hold_20 ?_
      refine ctX2_has 1 a2 is_X1 ?_
      show Ev (wX, z) mtX5_hold 1 22 23 [some (.ref 0), some (.int a1), some (.int a2)] [.int (fpX2_has 1 a2 M)] M Q
      refine e_if_ne 32 dX5_hold_23 (by decide) (fun c6 => ?_) (fun c6 => ?_)
      · have h := ok_f c6 h
        refine e_forget [some (.ref 0), some (.int a1), some (.int a2)] (leL_s (leL_s (leL_s leL_0))) ?_
        exact ebX5_hold_b32 a1 a2 M h
      · have h := ok_t c6 h
        refine e_aload_n dX5_hold_26 rfl ?_
        refine e_iconst (0 : Int32) dX5_hold_27 (by decide) ?_
        refine e_callV (f2 := 0) (l2 := 0) (ν := mtX5_finding) (as := [.int (0 : Int32)]) cv_RX5_55 is_X0 kc_1 ⟨Nat.le_of_ble_eq_true rfl, Nat.le_of_ble_eq_true rfl⟩ rfl rfl (Nat.le_of_ble_eq_true rfl) dX5_hold_28 ?_
        refine ctX5_finding (0 : Int32) (ok_bnd h (fun q7 h => ?_))
        show Ev (wX, z) mtX5_hold 1 22 31 [some (.ref 0), some (.int a1), some (.int a2)] [.int q7.1] q7.2 Q
        have h := ok_some h
        exact e_iret rfl dX5_hold_31 h
def fpX5_as (a1 : Int32) (a2 : Int32) (M : Me) : Option (Int32 × Me) := (if (fpX5_outside a1 (0 : Int32) (9 : Int32)) = 0 then
 (if (fpX5_outside a2 (0 : Int32) (6 : Int32)) = 0 then
 (inb a1 10).bind fun k4 =>
 letv (M.1 3 k4) fun v5 =>
 (if (fpX2_has 1 v5 M) = 0 then
 (fpX5_finding (5 : Int32) M).bind fun q11 =>
 some (q11.1, q11.2)
 else
 (inb v5 8).bind fun k7 =>
 (fpX1_isOf (1 + 3 + k7) a2 M).bind fun v8 =>
 (if v8 = 0 then
 (fpX5_finding (2 : Int32) M).bind fun q10 =>
 some (q10.1, q10.2)
 else
 some (v5, M)))
 else
 (fpX5_finding (0 : Int32) M).bind fun q12 =>
 some (q12.1, q12.2))
 else
 (fpX5_finding (0 : Int32) M).bind fun q2 =>
 some (q2.1, q2.2))
set_option maxRecDepth 20000 in
theorem ctX5_as {z : Zt} {M : Me} {Q : Option Value → Me → Prop} (a1 : Int32) (a2 : Int32)  (h : ok (fpX5_as a1 a2 M) (fun a => Q (some (.int a.1)) a.2)) : EvM (wX, z) mtX5_as 1 23 [.ref 0, .int a1, .int a2] M Q := by
  refine evm_of [some (.ref 0), some (.int a1), some (.int a2), none] 1 (by decide +kernel) (Nat.le_of_ble_eq_true rfl) rfl ?_
  unfold fpX5_as at h
  refine e_iload_n dX5_as_0 rfl ?_
  refine e_iconst (0 : Int32) dX5_as_1 (by decide) ?_
  refine e_bipush (9 : Int32) dX5_as_2 (by decide) ?_
  refine e_callS (f2 := 0) (l2 := 0) (ν := mtX5_outside) (as := [.int a1, .int (0 : Int32), .int (9 : Int32)]) cs_RX5_51 ⟨Nat.le_of_ble_eq_true rfl, Nat.le_of_ble_eq_true rfl⟩ rfl rfl (Nat.le_of_ble_eq_true rfl) dX5_as_4 ?_
  refine ctX5_outside a1 (0 : Int32) (9 : Int32) ?_
  show Ev (wX, z) mtX5_as 1 23 7 [some (.ref 0), some (.int a1), some (.int a2), none] [.int (fpX5_outside a1 (0 : Int32) (9 : Int32))] M Q
  refine e_if_ne 20 dX5_as_7 (by decide) (fun c1 => ?_) (fun c1 => ?_)
  · have h := ok_f c1 h
    refine e_aload_n dX5_as_20 rfl ?_
    refine e_iconst (0 : Int32) dX5_as_21 (by decide) ?_
    refine e_callV (f2 := 0) (l2 := 0) (ν := mtX5_finding) (as := [.int (0 : Int32)]) cv_RX5_55 is_X0 kc_1 ⟨Nat.le_of_ble_eq_true rfl, Nat.le_of_ble_eq_true rfl⟩ rfl rfl (Nat.le_of_ble_eq_true rfl) dX5_as_22 ?_
    refine ctX5_finding (0 : Int32) (ok_bnd h (fun q2 h => ?_))
    show Ev (wX, z) mtX5_as 1 23 25 [some (.ref 0), some (.int a1), some (.int a2), none] [.int q2.1] q2.2 Q
    have h := ok_some h
    exact e_iret rfl dX5_as_25 h
  · have h := ok_t c1 h
    refine e_iload_n dX5_as_10 rfl ?_
    refine e_iconst (0 : Int32) dX5_as_11 (by decide) ?_
    refine e_bipush (6 : Int32) dX5_as_12 (by decide) ?_
    refine e_callS (f2 := 0) (l2 := 0) (ν := mtX5_outside) (as := [.int a2, .int (0 : Int32), .int (6 : Int32)]) cs_RX5_51 ⟨Nat.le_of_ble_eq_true rfl, Nat.le_of_ble_eq_true rfl⟩ rfl rfl (Nat.le_of_ble_eq_true rfl) dX5_as_14 ?_
    refine ctX5_outside a2 (0 : Int32) (6 : Int32) ?_
    show Ev (wX, z) mtX5_as 1 23 17 [some (.ref 0), some (.int a1), some (.int a2), none] [.int (fpX5_outside a2 (0 : Int32) (6 : Int32))] M Q
    refine e_if_eq 26 dX5_as_17 (by decide) (fun c3 => ?_) (fun c3 => ?_)
    · have h := ok_t c3 h
      refine e_aload_n dX5_as_26 rfl ?_
      refine e_getR fa_RX5_10 is_X0 rfl dX5_as_27 ?_
      refine e_getR fa_RX5_264 is_X1 rfl dX5_as_30 ?_
      refine e_iload_n dX5_as_33 rfl ?_
      refine ok_inb h (fun k4 ek4 ik4 h => ?_)
      refine e_ialdK ia_X3 ik4 ek4 dX5_as_34 ?_
      refine lv1 (P := fun v5 => Ev (wX, z) mtX5_as 1 23 35 [some (.ref 0), some (.int a1), some (.int a2), none] [.int v5] M Q) h (fun v5 h => ?_)
      refine e_istore_n dX5_as_35 (by decide) rfl ?_
      refine e_aload_n dX5_as_36 rfl ?_
      refine e_getR fa_RX5_10 is_X0 rfl dX5_as_37 ?_
      refine e_iload_n dX5_as_40 rfl ?_
      refine e_callV (f2 := 0) (l2 := 0) (ν := mtX2_has) (as := [.int v5]) cv_RX5_71 is_X1 kc_2 ⟨Nat.le_of_ble_eq_true rfl, Nat.le_of_ble_eq_true rfl⟩ rfl rfl (Nat.le_of_ble_eq_true rfl) dX5_as_41 ?_
      refine ctX2_has 1 v5 is_X1 ?_
      show Ev (wX, z) mtX5_as 1 23 44 [some (.ref 0), some (.int a1), some (.int a2), some (.int v5)] [.int (fpX2_has 1 v5 M)] M Q
      refine e_if_ne 53 dX5_as_44 (by decide) (fun c6 => ?_) (fun c6 => ?_)
      · have h := ok_f c6 h
        refine e_aload_n dX5_as_53 rfl ?_
        refine e_getR fa_RX5_10 is_X0 rfl dX5_as_54 ?_
        refine e_getR fa_RX5_75 is_X1 rfl dX5_as_57 ?_
        refine e_iload_n dX5_as_60 rfl ?_
        refine ok_inb h (fun k7 ek7 ik7 h => ?_)
        refine e_aaldK ra_X2 (r' := (1 + 3 + k7)) (Or.inl rfl) ik7 ek7 (by omega) dX5_as_61 ?_
        refine e_iload_n dX5_as_62 rfl ?_
        refine e_callV (f2 := 0) (l2 := 0) (ν := mtX1_isOf) (as := [.int a2]) cv_RX5_267 (pm_is is_X1 ik7 ek7) kc_3 ⟨Nat.le_of_ble_eq_true rfl, Nat.le_of_ble_eq_true rfl⟩ rfl rfl (Nat.le_of_ble_eq_true rfl) dX5_as_63 ?_
        refine ctX1_isOf (1 + 3 + k7) a2 (pm_is is_X1 ik7 ek7) (ok_bnd h (fun v8 h => ?_))
        show Ev (wX, z) mtX5_as 1 23 66 [some (.ref 0), some (.int a1), some (.int a2), some (.int v5)] [.int v8] M Q
        refine e_if_eq 73 dX5_as_66 (by decide) (fun c9 => ?_) (fun c9 => ?_)
        · have h := ok_t c9 h
          refine e_aload_n dX5_as_73 rfl ?_
          refine e_iconst (2 : Int32) dX5_as_74 (by decide) ?_
          refine e_callV (f2 := 0) (l2 := 0) (ν := mtX5_finding) (as := [.int (2 : Int32)]) cv_RX5_55 is_X0 kc_1 ⟨Nat.le_of_ble_eq_true rfl, Nat.le_of_ble_eq_true rfl⟩ rfl rfl (Nat.le_of_ble_eq_true rfl) dX5_as_75 ?_
          refine ctX5_finding (2 : Int32) (ok_bnd h (fun q10 h => ?_))
          show Ev (wX, z) mtX5_as 1 23 78 [some (.ref 0), some (.int a1), some (.int a2), some (.int v5)] [.int q10.1] q10.2 Q
          have h := ok_some h
          exact e_iret rfl dX5_as_78 h
        · have h := ok_f c9 h
          refine e_iload_n dX5_as_69 rfl ?_
          refine e_goto 78 dX5_as_70 (by decide) ?_
          have h := ok_some h
          exact e_iret rfl dX5_as_78 h
      · have h := ok_t c6 h
        refine e_aload_n dX5_as_47 rfl ?_
        refine e_iconst (5 : Int32) dX5_as_48 (by decide) ?_
        refine e_callV (f2 := 0) (l2 := 0) (ν := mtX5_finding) (as := [.int (5 : Int32)]) cv_RX5_55 is_X0 kc_1 ⟨Nat.le_of_ble_eq_true rfl, Nat.le_of_ble_eq_true rfl⟩ rfl rfl (Nat.le_of_ble_eq_true rfl) dX5_as_49 ?_
        refine ctX5_finding (5 : Int32) (ok_bnd h (fun q11 h => ?_))
        show Ev (wX, z) mtX5_as 1 23 52 [some (.ref 0), some (.int a1), some (.int a2), some (.int v5)] [.int q11.1] q11.2 Q
        have h := ok_some h
        exact e_iret rfl dX5_as_52 h
    · have h := ok_f c3 h
      refine e_aload_n dX5_as_20 rfl ?_
      refine e_iconst (0 : Int32) dX5_as_21 (by decide) ?_
      refine e_callV (f2 := 0) (l2 := 0) (ν := mtX5_finding) (as := [.int (0 : Int32)]) cv_RX5_55 is_X0 kc_1 ⟨Nat.le_of_ble_eq_true rfl, Nat.le_of_ble_eq_true rfl⟩ rfl rfl (Nat.le_of_ble_eq_true rfl) dX5_as_22 ?_
      refine ctX5_finding (0 : Int32) (ok_bnd h (fun q12 h => ?_))
      show Ev (wX, z) mtX5_as 1 23 25 [some (.ref 0), some (.int a1), some (.int a2), none] [.int q12.1] q12.2 Q
      have h := ok_some h
      exact e_iret rfl dX5_as_25 h
def fpX5_sheet_b74 (a1 : Int32) (t0 : Nat) (t1 : Int32) (t2 : Int32) (M : Me) : Option (Int32 × Me) := (fpX3_begin t0 t1 t2 M).bind fun q8 =>
 (inb a1 4).bind fun k9 =>
 some ((q8.1 (37 + 2 * k9) 2), q8)
set_option maxRecDepth 20000 in
theorem ebX5_sheet_b74 {z : Zt} {Q : Option Value → Me → Prop} (a1 : Int32) (t0 : Nat) (t1 : Int32) (t2 : Int32) (ht0 : Is (wX, z) t0 5) (M : Me) (h : ok (fpX5_sheet_b74 a1 t0 t1 t2 M) (fun a => Q (some (.int a.1)) a.2)) : Ev (wX, z) mtX5_sheet 2 42 74 [some (.ref 0), some (.int a1), none, none] [.int t2, .int t1, .ref t0] M Q := by
  unfold fpX5_sheet_b74 at h
  refine e_callV (f2 := 0) (l2 := 0) (ν := mtX3_begin) (as := [.int t1, .int t2]) cv_RX5_270 ht0 kc_5 ⟨Nat.le_of_ble_eq_true rfl, Nat.le_of_ble_eq_true rfl⟩ rfl rfl (Nat.le_of_ble_eq_true rfl) dX5_sheet_74 ?_
  refine ctX3_begin t0 t1 t2 ht0 (ok_bnd h (fun q8 h => ?_))
  show Ev (wX, z) mtX5_sheet 2 42 77 [some (.ref 0), some (.int a1), none, none] [] q8 Q
  refine e_aload_n dX5_sheet_77 rfl ?_
  refine e_getR fa_RX5_35 is_X0 rfl dX5_sheet_78 ?_
  refine e_iload_n dX5_sheet_81 rfl ?_
  refine ok_inb h (fun k9 ek9 ik9 h => ?_)
  refine e_aaldK ra_X36 (r' := (37 + 2 * k9)) (Or.inr rfl) ik9 ek9 (by omega) dX5_sheet_82 ?_
  refine e_getI fa_RX5_250 (st_is ik9 ek9) dX5_sheet_83 ?_
  have h := ok_some h
  exact e_iret rfl dX5_sheet_86 h
def fpX5_sheet_b35 (a1 : Int32) (a2 : Int32) (a3 : Int32) (M : Me) : Option (Int32 × Me) := (if 0 ≤ a3 then
 (if a3 ≤ (40 : Int32) then
 (inb a1 4).bind fun k6 =>
 (if a2 = 0 then
 fpX5_sheet_b74 a1 (37 + 2 * k6) a2 (0 : Int32) M
 else
 fpX5_sheet_b74 a1 (37 + 2 * k6) a2 a3 M)
 else
 (fpX5_finding (0 : Int32) M).bind fun q10 =>
 some (q10.1, q10.2))
 else
 (fpX5_finding (6 : Int32) M).bind fun q11 =>
 some (q11.1, q11.2))
set_option maxRecDepth 20000 in
theorem ebX5_sheet_b35 {z : Zt} {Q : Option Value → Me → Prop} (a1 : Int32) (a2 : Int32) (a3 : Int32) (M : Me) (h : ok (fpX5_sheet_b35 a1 a2 a3 M) (fun a => Q (some (.int a.1)) a.2)) : Ev (wX, z) mtX5_sheet 2 42 35 [some (.ref 0), some (.int a1), some (.int a2), some (.int a3)] [] M Q := by
  unfold fpX5_sheet_b35 at h
  refine e_iload_n dX5_sheet_35 rfl ?_
  refine e_if_ge 46 dX5_sheet_36 (by decide) (fun c4 => ?_) (fun c4 => ?_)
  · have h := ok_t c4 h
    refine e_iload_n dX5_sheet_46 rfl ?_
    refine e_bipush (40 : Int32) dX5_sheet_47 (by decide) ?_
    refine e_icmp_le 58 dX5_sheet_49 (by decide) (fun c5 => ?_) (fun c5 => ?_)
    · have h := ok_t c5 h
      refine e_aload_n dX5_sheet_58 rfl ?_
      refine e_getR fa_RX5_35 is_X0 rfl dX5_sheet_59 ?_
      refine e_iload_n dX5_sheet_62 rfl ?_
      refine ok_inb h (fun k6 ek6 ik6 h => ?_)
      refine e_aaldK ra_X36 (r' := (37 + 2 * k6)) (Or.inr rfl) ik6 ek6 (by omega) dX5_sheet_63 ?_
      refine e_iload_n dX5_sheet_64 rfl ?_
      refine e_iload_n dX5_sheet_65 rfl ?_
      refine e_if_ne 73 dX5_sheet_66 (by decide) (fun c7 => ?_) (fun c7 => ?_)
      · have h := ok_f c7 h
        refine e_iload_n dX5_sheet_73 rfl ?_
        refine e_forget [some (.ref 0), some (.int a1), none, none] (leL_s (leL_s (leL_n (leL_n leL_0)))) ?_
        exact ebX5_sheet_b74 a1 (37 + 2 * k6) a2 a3 (st_is ik6 ek6) M h
      · have h := ok_t c7 h
        refine e_iconst (0 : Int32) dX5_sheet_69 (by decide) ?_
        refine e_goto 74 dX5_sheet_70 (by decide) ?_
        refine e_forget [some (.ref 0), some (.int a1), none, none] (leL_s (leL_s (leL_n (leL_n leL_0)))) ?_
        exact ebX5_sheet_b74 a1 (37 + 2 * k6) a2 (0 : Int32) (st_is ik6 ek6) M h
    · have h := ok_f c5 h
      refine e_aload_n dX5_sheet_52 rfl ?_
      refine e_iconst (0 : Int32) dX5_sheet_53 (by decide) ?_
      refine e_callV (f2 := 0) (l2 := 0) (ν := mtX5_finding) (as := [.int (0 : Int32)]) cv_RX5_55 is_X0 kc_1 ⟨Nat.le_of_ble_eq_true rfl, Nat.le_of_ble_eq_true rfl⟩ rfl rfl (Nat.le_of_ble_eq_true rfl) dX5_sheet_54 ?_
      refine ctX5_finding (0 : Int32) (ok_bnd h (fun q10 h => ?_))
      show Ev (wX, z) mtX5_sheet 2 42 57 [some (.ref 0), some (.int a1), some (.int a2), some (.int a3)] [.int q10.1] q10.2 Q
      have h := ok_some h
      exact e_iret rfl dX5_sheet_57 h
  · have h := ok_f c4 h
    refine e_aload_n dX5_sheet_39 rfl ?_
    refine e_bipush (6 : Int32) dX5_sheet_40 (by decide) ?_
    refine e_callV (f2 := 0) (l2 := 0) (ν := mtX5_finding) (as := [.int (6 : Int32)]) cv_RX5_55 is_X0 kc_1 ⟨Nat.le_of_ble_eq_true rfl, Nat.le_of_ble_eq_true rfl⟩ rfl rfl (Nat.le_of_ble_eq_true rfl) dX5_sheet_42 ?_
    refine ctX5_finding (6 : Int32) (ok_bnd h (fun q11 h => ?_))
    show Ev (wX, z) mtX5_sheet 2 42 45 [some (.ref 0), some (.int a1), some (.int a2), some (.int a3)] [.int q11.1] q11.2 Q
    have h := ok_some h
    exact e_iret rfl dX5_sheet_45 h
def fpX5_sheet (a1 : Int32) (a2 : Int32) (a3 : Int32) (M : Me) : Option (Int32 × Me) := (if (fpX5_noSuchSheet a1) = 0 then
 (if a2 = 0 then
 fpX5_sheet_b35 a1 a2 a3 M
 else
 (if a2 = (8 : Int32) then
 fpX5_sheet_b35 a1 a2 a3 M
 else
 (if a2 = (16 : Int32) then
 fpX5_sheet_b35 a1 a2 a3 M
 else
 (if a2 = (32 : Int32) then
 fpX5_sheet_b35 a1 a2 a3 M
 else
 (fpX5_finding (0 : Int32) M).bind fun q15 =>
 some (q15.1, q15.2)))))
 else
 (fpX5_finding (0 : Int32) M).bind fun q2 =>
 some (q2.1, q2.2))
set_option maxRecDepth 20000 in
theorem ctX5_sheet {z : Zt} {M : Me} {Q : Option Value → Me → Prop} (a1 : Int32) (a2 : Int32) (a3 : Int32)  (h : ok (fpX5_sheet a1 a2 a3 M) (fun a => Q (some (.int a.1)) a.2)) : EvM (wX, z) mtX5_sheet 2 42 [.ref 0, .int a1, .int a2, .int a3] M Q := by
  refine evm_of [some (.ref 0), some (.int a1), some (.int a2), some (.int a3)] 0 (by decide +kernel) (Nat.le_of_ble_eq_true rfl) rfl ?_
  unfold fpX5_sheet at h
  refine e_iload_n dX5_sheet_0 rfl ?_
  refine e_callS (f2 := 1) (l2 := 22) (ν := mtX5_noSuchSheet) (as := [.int a1]) cs_RX5_236 ⟨Nat.le_of_ble_eq_true rfl, Nat.le_of_ble_eq_true rfl⟩ rfl rfl (Nat.le_of_ble_eq_true rfl) dX5_sheet_1 ?_
  refine ctX5_noSuchSheet a1 ?_
  show Ev (wX, z) mtX5_sheet 2 42 4 [some (.ref 0), some (.int a1), some (.int a2), some (.int a3)] [.int (fpX5_noSuchSheet a1)] M Q
  refine e_if_ne 29 dX5_sheet_4 (by decide) (fun c1 => ?_) (fun c1 => ?_)
  · have h := ok_f c1 h
    refine e_aload_n dX5_sheet_29 rfl ?_
    refine e_iconst (0 : Int32) dX5_sheet_30 (by decide) ?_
    refine e_callV (f2 := 0) (l2 := 0) (ν := mtX5_finding) (as := [.int (0 : Int32)]) cv_RX5_55 is_X0 kc_1 ⟨Nat.le_of_ble_eq_true rfl, Nat.le_of_ble_eq_true rfl⟩ rfl rfl (Nat.le_of_ble_eq_true rfl) dX5_sheet_31 ?_
    refine ctX5_finding (0 : Int32) (ok_bnd h (fun q2 h => ?_))
    show Ev (wX, z) mtX5_sheet 2 42 34 [some (.ref 0), some (.int a1), some (.int a2), some (.int a3)] [.int q2.1] q2.2 Q
    have h := ok_some h
    exact e_iret rfl dX5_sheet_34 h
  · have h := ok_t c1 h
    refine e_iload_n dX5_sheet_7 rfl ?_
    refine e_if_eq 35 dX5_sheet_8 (by decide) (fun c3 => ?_) (fun c3 => ?_)
    · have h := ok_t c3 h
      refine e_forget [some (.ref 0), some (.int a1), some (.int a2), some (.int a3)] (leL_s (leL_s (leL_s (leL_s leL_0)))) ?_
      exact ebX5_sheet_b35 a1 a2 a3 M h
    · have h := ok_f c3 h
      refine e_iload_n dX5_sheet_11 rfl ?_
      refine e_bipush (8 : Int32) dX5_sheet_12 (by decide) ?_
      refine e_icmp_eq 35 dX5_sheet_14 (by decide) (fun c12 => ?_) (fun c12 => ?_)
      · have h := ok_t c12 h
        refine e_forget [some (.ref 0), some (.int a1), some (.int a2), some (.int a3)] (leL_s (leL_s (leL_s (leL_s leL_0)))) ?_
        exact ebX5_sheet_b35 a1 a2 a3 M h
      · have h := ok_f c12 h
        refine e_iload_n dX5_sheet_17 rfl ?_
        refine e_bipush (16 : Int32) dX5_sheet_18 (by decide) ?_
        refine e_icmp_eq 35 dX5_sheet_20 (by decide) (fun c13 => ?_) (fun c13 => ?_)
        · have h := ok_t c13 h
          refine e_forget [some (.ref 0), some (.int a1), some (.int a2), some (.int a3)] (leL_s (leL_s (leL_s (leL_s leL_0)))) ?_
          exact ebX5_sheet_b35 a1 a2 a3 M h
        · have h := ok_f c13 h
          refine e_iload_n dX5_sheet_23 rfl ?_
          refine e_bipush (32 : Int32) dX5_sheet_24 (by decide) ?_
          refine e_icmp_eq 35 dX5_sheet_26 (by decide) (fun c14 => ?_) (fun c14 => ?_)
          · have h := ok_t c14 h
            refine e_forget [some (.ref 0), some (.int a1), some (.int a2), some (.int a3)] (leL_s (leL_s (leL_s (leL_s leL_0)))) ?_
            exact ebX5_sheet_b35 a1 a2 a3 M h
          · have h := ok_f c14 h
            refine e_aload_n dX5_sheet_29 rfl ?_
            refine e_iconst (0 : Int32) dX5_sheet_30 (by decide) ?_
            refine e_callV (f2 := 0) (l2 := 0) (ν := mtX5_finding) (as := [.int (0 : Int32)]) cv_RX5_55 is_X0 kc_1 ⟨Nat.le_of_ble_eq_true rfl, Nat.le_of_ble_eq_true rfl⟩ rfl rfl (Nat.le_of_ble_eq_true rfl) dX5_sheet_31 ?_
            refine ctX5_finding (0 : Int32) (ok_bnd h (fun q15 h => ?_))
            show Ev (wX, z) mtX5_sheet 2 42 34 [some (.ref 0), some (.int a1), some (.int a2), some (.int a3)] [.int q15.1] q15.2 Q
            have h := ok_some h
            exact e_iret rfl dX5_sheet_34 h
def fpX5_write (a1 : Int32) (a2 : Int32) (a3 : Int32) (M : Me) : Option (Int32 × Me) := (if (fpX5_noSuchSheet a1) = 0 then
 (inb a1 4).bind fun k2 =>
 (if (fpX3_isMissing (37 + 2 * k2) M) = 0 then
 (if (fpX5_outside a2 (0 : Int32) ((M.1 (37 + 2 * k2) 2) - (1 : Int32))) = 0 then
 (fpX3_put (37 + 2 * k2) a2 a3 M).bind fun q5 =>
 some ((1 : Int32), q5)
 else
 (fpX5_finding (0 : Int32) M).bind fun q6 =>
 some (q6.1, q6.2))
 else
 (fpX5_finding (5 : Int32) M).bind fun q7 =>
 some (q7.1, q7.2))
 else
 (fpX5_finding (0 : Int32) M).bind fun q8 =>
 some (q8.1, q8.2))
set_option maxRecDepth 20000 in
theorem ctX5_write {z : Zt} {M : Me} {Q : Option Value → Me → Prop} (a1 : Int32) (a2 : Int32) (a3 : Int32)  (h : ok (fpX5_write a1 a2 a3 M) (fun a => Q (some (.int a.1)) a.2)) : EvM (wX, z) mtX5_write 2 42 [.ref 0, .int a1, .int a2, .int a3] M Q := by
  refine evm_of [some (.ref 0), some (.int a1), some (.int a2), some (.int a3)] 0 (by decide +kernel) (Nat.le_of_ble_eq_true rfl) rfl ?_
  unfold fpX5_write at h
  refine e_iload_n dX5_write_0 rfl ?_
  refine e_callS (f2 := 1) (l2 := 22) (ν := mtX5_noSuchSheet) (as := [.int a1]) cs_RX5_236 ⟨Nat.le_of_ble_eq_true rfl, Nat.le_of_ble_eq_true rfl⟩ rfl rfl (Nat.le_of_ble_eq_true rfl) dX5_write_1 ?_
  refine ctX5_noSuchSheet a1 ?_
  show Ev (wX, z) mtX5_write 2 42 4 [some (.ref 0), some (.int a1), some (.int a2), some (.int a3)] [.int (fpX5_noSuchSheet a1)] M Q
  refine e_if_eq 13 dX5_write_4 (by decide) (fun c1 => ?_) (fun c1 => ?_)
  · have h := ok_t c1 h
    refine e_aload_n dX5_write_13 rfl ?_
    refine e_getR fa_RX5_35 is_X0 rfl dX5_write_14 ?_
    refine e_iload_n dX5_write_17 rfl ?_
    refine ok_inb h (fun k2 ek2 ik2 h => ?_)
    refine e_aaldK ra_X36 (r' := (37 + 2 * k2)) (Or.inr rfl) ik2 ek2 (by omega) dX5_write_18 ?_
    refine e_callV (f2 := 0) (l2 := 0) (ν := mtX3_isMissing) (as := []) cv_RX5_239 (st_is ik2 ek2) kc_5 ⟨Nat.le_of_ble_eq_true rfl, Nat.le_of_ble_eq_true rfl⟩ rfl rfl (Nat.le_of_ble_eq_true rfl) dX5_write_19 ?_
    refine ctX3_isMissing (37 + 2 * k2) (st_is ik2 ek2) ?_
    show Ev (wX, z) mtX5_write 2 42 22 [some (.ref 0), some (.int a1), some (.int a2), some (.int a3)] [.int (fpX3_isMissing (37 + 2 * k2) M)] M Q
    refine e_if_eq 31 dX5_write_22 (by decide) (fun c3 => ?_) (fun c3 => ?_)
    · have h := ok_t c3 h
      refine e_iload_n dX5_write_31 rfl ?_
      refine e_iconst (0 : Int32) dX5_write_32 (by decide) ?_
      refine e_aload_n dX5_write_33 rfl ?_
      refine e_getR fa_RX5_35 is_X0 rfl dX5_write_34 ?_
      refine e_iload_n dX5_write_37 rfl ?_
      refine e_aaldK ra_X36 (r' := (37 + 2 * k2)) (Or.inr rfl) ik2 ek2 (by omega) dX5_write_38 ?_
      refine e_getI fa_RX5_250 (st_is ik2 ek2) dX5_write_39 ?_
      refine e_iconst (1 : Int32) dX5_write_42 (by decide) ?_
      refine e_isub dX5_write_43 ?_
      refine e_callS (f2 := 0) (l2 := 0) (ν := mtX5_outside) (as := [.int a2, .int (0 : Int32), .int ((M.1 (37 + 2 * k2) 2) - (1 : Int32))]) cs_RX5_51 ⟨Nat.le_of_ble_eq_true rfl, Nat.le_of_ble_eq_true rfl⟩ rfl rfl (Nat.le_of_ble_eq_true rfl) dX5_write_44 ?_
      refine ctX5_outside a2 (0 : Int32) ((M.1 (37 + 2 * k2) 2) - (1 : Int32)) ?_
      show Ev (wX, z) mtX5_write 2 42 47 [some (.ref 0), some (.int a1), some (.int a2), some (.int a3)] [.int (fpX5_outside a2 (0 : Int32) ((M.1 (37 + 2 * k2) 2) - (1 : Int32)))] M Q
      refine e_if_eq 56 dX5_write_47 (by decide) (fun c4 => ?_) (fun c4 => ?_)
      · have h := ok_t c4 h
        refine e_aload_n dX5_write_56 rfl ?_
        refine e_getR fa_RX5_35 is_X0 rfl dX5_write_57 ?_
        refine e_iload_n dX5_write_60 rfl ?_
        refine e_aaldK ra_X36 (r' := (37 + 2 * k2)) (Or.inr rfl) ik2 ek2 (by omega) dX5_write_61 ?_
        refine e_iload_n dX5_write_62 rfl ?_
        refine e_iload_n dX5_write_63 rfl ?_
        refine e_callV (f2 := 0) (l2 := 0) (ν := mtX3_put) (as := [.int a2, .int a3]) cv_RX5_274 (st_is ik2 ek2) kc_5 ⟨Nat.le_of_ble_eq_true rfl, Nat.le_of_ble_eq_true rfl⟩ rfl rfl (Nat.le_of_ble_eq_true rfl) dX5_write_64 ?_
        refine ctX3_put (37 + 2 * k2) a2 a3 (st_is ik2 ek2) (ok_bnd h (fun q5 h => ?_))
        show Ev (wX, z) mtX5_write 2 42 67 [some (.ref 0), some (.int a1), some (.int a2), some (.int a3)] [] q5 Q
        refine e_iconst (1 : Int32) dX5_write_67 (by decide) ?_
        have h := ok_some h
        exact e_iret rfl dX5_write_68 h
      · have h := ok_f c4 h
        refine e_aload_n dX5_write_50 rfl ?_
        refine e_iconst (0 : Int32) dX5_write_51 (by decide) ?_
        refine e_callV (f2 := 0) (l2 := 0) (ν := mtX5_finding) (as := [.int (0 : Int32)]) cv_RX5_55 is_X0 kc_1 ⟨Nat.le_of_ble_eq_true rfl, Nat.le_of_ble_eq_true rfl⟩ rfl rfl (Nat.le_of_ble_eq_true rfl) dX5_write_52 ?_
        refine ctX5_finding (0 : Int32) (ok_bnd h (fun q6 h => ?_))
        show Ev (wX, z) mtX5_write 2 42 55 [some (.ref 0), some (.int a1), some (.int a2), some (.int a3)] [.int q6.1] q6.2 Q
        have h := ok_some h
        exact e_iret rfl dX5_write_55 h
    · have h := ok_f c3 h
      refine e_aload_n dX5_write_25 rfl ?_
      refine e_iconst (5 : Int32) dX5_write_26 (by decide) ?_
      refine e_callV (f2 := 0) (l2 := 0) (ν := mtX5_finding) (as := [.int (5 : Int32)]) cv_RX5_55 is_X0 kc_1 ⟨Nat.le_of_ble_eq_true rfl, Nat.le_of_ble_eq_true rfl⟩ rfl rfl (Nat.le_of_ble_eq_true rfl) dX5_write_27 ?_
      refine ctX5_finding (5 : Int32) (ok_bnd h (fun q7 h => ?_))
      show Ev (wX, z) mtX5_write 2 42 30 [some (.ref 0), some (.int a1), some (.int a2), some (.int a3)] [.int q7.1] q7.2 Q
      have h := ok_some h
      exact e_iret rfl dX5_write_30 h
  · have h := ok_f c1 h
    refine e_aload_n dX5_write_7 rfl ?_
    refine e_iconst (0 : Int32) dX5_write_8 (by decide) ?_
    refine e_callV (f2 := 0) (l2 := 0) (ν := mtX5_finding) (as := [.int (0 : Int32)]) cv_RX5_55 is_X0 kc_1 ⟨Nat.le_of_ble_eq_true rfl, Nat.le_of_ble_eq_true rfl⟩ rfl rfl (Nat.le_of_ble_eq_true rfl) dX5_write_9 ?_
    refine ctX5_finding (0 : Int32) (ok_bnd h (fun q8 h => ?_))
    show Ev (wX, z) mtX5_write 2 42 12 [some (.ref 0), some (.int a1), some (.int a2), some (.int a3)] [.int q8.1] q8.2 Q
    have h := ok_some h
    exact e_iret rfl dX5_write_12 h
def fpX5_copy (a1 : Int32) (a2 : Int32) (a3 : Int32) (a4 : Int32) (a5 : Int32) (M : Me) : Option (Int32 × Me) := (if (fpX5_noSuchSheet a1) = 0 then
 (if (fpX5_noSuchSheet a3) = 0 then
 (inb a1 4).bind fun k4 =>
 (if (fpX3_isMissing (37 + 2 * k4) M) = 0 then
 (inb a3 4).bind fun k7 =>
 (if (fpX3_isMissing (37 + 2 * k7) M) = 0 then
 (if (M.1 (37 + 2 * k4) 1) = (M.1 (37 + 2 * k7) 1) then
 (if (fpX3_hasRun (37 + 2 * k4) a2 a5 M) = 0 then
 (fpX5_finding (0 : Int32) M).bind fun q11 =>
 some (q11.1, q11.2)
 else
 (if (fpX3_hasRun (37 + 2 * k7) a4 a5 M) = 0 then
 (fpX5_finding (0 : Int32) M).bind fun q15 =>
 some (q15.1, q15.2)
 else
 cpyc a2 a4 a5 40 40 <|
 letv (wrA M ((37 + 2 * k7) + 1) (va_cpy (M.1 ((37 + 2 * k4) + 1)) (M.1 ((37 + 2 * k7) + 1)) a2.toNatClampNeg a4.toNatClampNeg a5.toNatClampNeg)) fun M14 =>
 some (a5, M14)))
 else
 (fpX5_finding (2 : Int32) M).bind fun q16 =>
 some (q16.1, q16.2))
 else
 (fpX5_finding (5 : Int32) M).bind fun q17 =>
 some (q17.1, q17.2))
 else
 (fpX5_finding (5 : Int32) M).bind fun q6 =>
 some (q6.1, q6.2))
 else
 (fpX5_finding (0 : Int32) M).bind fun q18 =>
 some (q18.1, q18.2))
 else
 (fpX5_finding (0 : Int32) M).bind fun q2 =>
 some (q2.1, q2.2))
set_option maxRecDepth 20000 in
theorem ctX5_copy {z : Zt} {M : Me} {Q : Option Value → Me → Prop} (a1 : Int32) (a2 : Int32) (a3 : Int32) (a4 : Int32) (a5 : Int32)  (h : ok (fpX5_copy a1 a2 a3 a4 a5 M) (fun a => Q (some (.int a.1)) a.2)) : EvM (wX, z) mtX5_copy 2 42 [.ref 0, .int a1, .int a2, .int a3, .int a4, .int a5] M Q := by
  refine evm_of [some (.ref 0), some (.int a1), some (.int a2), some (.int a3), some (.int a4), some (.int a5)] 0 (by decide +kernel) (Nat.le_of_ble_eq_true rfl) rfl ?_
  unfold fpX5_copy at h
  refine e_iload_n dX5_copy_0 rfl ?_
  refine e_callS (f2 := 1) (l2 := 22) (ν := mtX5_noSuchSheet) (as := [.int a1]) cs_RX5_236 ⟨Nat.le_of_ble_eq_true rfl, Nat.le_of_ble_eq_true rfl⟩ rfl rfl (Nat.le_of_ble_eq_true rfl) dX5_copy_1 ?_
  refine ctX5_noSuchSheet a1 ?_
  show Ev (wX, z) mtX5_copy 2 42 4 [some (.ref 0), some (.int a1), some (.int a2), some (.int a3), some (.int a4), some (.int a5)] [.int (fpX5_noSuchSheet a1)] M Q
  refine e_if_ne 14 dX5_copy_4 (by decide) (fun c1 => ?_) (fun c1 => ?_)
  · have h := ok_f c1 h
    refine e_aload_n dX5_copy_14 rfl ?_
    refine e_iconst (0 : Int32) dX5_copy_15 (by decide) ?_
    refine e_callV (f2 := 0) (l2 := 0) (ν := mtX5_finding) (as := [.int (0 : Int32)]) cv_RX5_55 is_X0 kc_1 ⟨Nat.le_of_ble_eq_true rfl, Nat.le_of_ble_eq_true rfl⟩ rfl rfl (Nat.le_of_ble_eq_true rfl) dX5_copy_16 ?_
    refine ctX5_finding (0 : Int32) (ok_bnd h (fun q2 h => ?_))
    show Ev (wX, z) mtX5_copy 2 42 19 [some (.ref 0), some (.int a1), some (.int a2), some (.int a3), some (.int a4), some (.int a5)] [.int q2.1] q2.2 Q
    have h := ok_some h
    exact e_iret rfl dX5_copy_19 h
  · have h := ok_t c1 h
    refine e_iload_n dX5_copy_7 rfl ?_
    refine e_callS (f2 := 1) (l2 := 22) (ν := mtX5_noSuchSheet) (as := [.int a3]) cs_RX5_236 ⟨Nat.le_of_ble_eq_true rfl, Nat.le_of_ble_eq_true rfl⟩ rfl rfl (Nat.le_of_ble_eq_true rfl) dX5_copy_8 ?_
    refine ctX5_noSuchSheet a3 ?_
    show Ev (wX, z) mtX5_copy 2 42 11 [some (.ref 0), some (.int a1), some (.int a2), some (.int a3), some (.int a4), some (.int a5)] [.int (fpX5_noSuchSheet a3)] M Q
    refine e_if_eq 20 dX5_copy_11 (by decide) (fun c3 => ?_) (fun c3 => ?_)
    · have h := ok_t c3 h
      refine e_aload_n dX5_copy_20 rfl ?_
      refine e_getR fa_RX5_35 is_X0 rfl dX5_copy_21 ?_
      refine e_iload_n dX5_copy_24 rfl ?_
      refine ok_inb h (fun k4 ek4 ik4 h => ?_)
      refine e_aaldK ra_X36 (r' := (37 + 2 * k4)) (Or.inr rfl) ik4 ek4 (by omega) dX5_copy_25 ?_
      refine e_callV (f2 := 0) (l2 := 0) (ν := mtX3_isMissing) (as := []) cv_RX5_239 (st_is ik4 ek4) kc_5 ⟨Nat.le_of_ble_eq_true rfl, Nat.le_of_ble_eq_true rfl⟩ rfl rfl (Nat.le_of_ble_eq_true rfl) dX5_copy_26 ?_
      refine ctX3_isMissing (37 + 2 * k4) (st_is ik4 ek4) ?_
      show Ev (wX, z) mtX5_copy 2 42 29 [some (.ref 0), some (.int a1), some (.int a2), some (.int a3), some (.int a4), some (.int a5)] [.int (fpX3_isMissing (37 + 2 * k4) M)] M Q
      refine e_if_ne 44 dX5_copy_29 (by decide) (fun c5 => ?_) (fun c5 => ?_)
      · have h := ok_f c5 h
        refine e_aload_n dX5_copy_44 rfl ?_
        refine e_iconst (5 : Int32) dX5_copy_45 (by decide) ?_
        refine e_callV (f2 := 0) (l2 := 0) (ν := mtX5_finding) (as := [.int (5 : Int32)]) cv_RX5_55 is_X0 kc_1 ⟨Nat.le_of_ble_eq_true rfl, Nat.le_of_ble_eq_true rfl⟩ rfl rfl (Nat.le_of_ble_eq_true rfl) dX5_copy_46 ?_
        refine ctX5_finding (5 : Int32) (ok_bnd h (fun q6 h => ?_))
        show Ev (wX, z) mtX5_copy 2 42 49 [some (.ref 0), some (.int a1), some (.int a2), some (.int a3), some (.int a4), some (.int a5)] [.int q6.1] q6.2 Q
        have h := ok_some h
        exact e_iret rfl dX5_copy_49 h
      · have h := ok_t c5 h
        refine e_aload_n dX5_copy_32 rfl ?_
        refine e_getR fa_RX5_35 is_X0 rfl dX5_copy_33 ?_
        refine e_iload_n dX5_copy_36 rfl ?_
        refine ok_inb h (fun k7 ek7 ik7 h => ?_)
        refine e_aaldK ra_X36 (r' := (37 + 2 * k7)) (Or.inr rfl) ik7 ek7 (by omega) dX5_copy_37 ?_
        refine e_callV (f2 := 0) (l2 := 0) (ν := mtX3_isMissing) (as := []) cv_RX5_239 (st_is ik7 ek7) kc_5 ⟨Nat.le_of_ble_eq_true rfl, Nat.le_of_ble_eq_true rfl⟩ rfl rfl (Nat.le_of_ble_eq_true rfl) dX5_copy_38 ?_
        refine ctX3_isMissing (37 + 2 * k7) (st_is ik7 ek7) ?_
        show Ev (wX, z) mtX5_copy 2 42 41 [some (.ref 0), some (.int a1), some (.int a2), some (.int a3), some (.int a4), some (.int a5)] [.int (fpX3_isMissing (37 + 2 * k7) M)] M Q
        refine e_if_eq 50 dX5_copy_41 (by decide) (fun c8 => ?_) (fun c8 => ?_)
        · have h := ok_t c8 h
          refine e_aload_n dX5_copy_50 rfl ?_
          refine e_getR fa_RX5_35 is_X0 rfl dX5_copy_51 ?_
          refine e_iload_n dX5_copy_54 rfl ?_
          refine e_aaldK ra_X36 (r' := (37 + 2 * k4)) (Or.inr rfl) ik4 ek4 (by omega) dX5_copy_55 ?_
          refine e_getI fa_RX5_277 (st_is ik4 ek4) dX5_copy_56 ?_
          refine e_aload_n dX5_copy_59 rfl ?_
          refine e_getR fa_RX5_35 is_X0 rfl dX5_copy_60 ?_
          refine e_iload_n dX5_copy_63 rfl ?_
          refine e_aaldK ra_X36 (r' := (37 + 2 * k7)) (Or.inr rfl) ik7 ek7 (by omega) dX5_copy_64 ?_
          refine e_getI fa_RX5_277 (st_is ik7 ek7) dX5_copy_65 ?_
          refine e_icmp_eq 77 dX5_copy_68 (by decide) (fun c9 => ?_) (fun c9 => ?_)
          · have h := ok_t c9 h
            refine e_aload_n dX5_copy_77 rfl ?_
            refine e_getR fa_RX5_35 is_X0 rfl dX5_copy_78 ?_
            refine e_iload_n dX5_copy_81 rfl ?_
            refine e_aaldK ra_X36 (r' := (37 + 2 * k4)) (Or.inr rfl) ik4 ek4 (by omega) dX5_copy_82 ?_
            refine e_iload_n dX5_copy_83 rfl ?_
            refine e_iload dX5_copy_84 rfl ?_
            refine e_callV (f2 := 0) (l2 := 0) (ν := mtX3_hasRun) (as := [.int a2, .int a5]) cv_RX5_280 (st_is ik4 ek4) kc_5 ⟨Nat.le_of_ble_eq_true rfl, Nat.le_of_ble_eq_true rfl⟩ rfl rfl (Nat.le_of_ble_eq_true rfl) dX5_copy_86 ?_
            refine ctX3_hasRun (37 + 2 * k4) a2 a5 (st_is ik4 ek4) ?_
            show Ev (wX, z) mtX5_copy 2 42 89 [some (.ref 0), some (.int a1), some (.int a2), some (.int a3), some (.int a4), some (.int a5)] [.int (fpX3_hasRun (37 + 2 * k4) a2 a5 M)] M Q
            refine e_if_eq 108 dX5_copy_89 (by decide) (fun c10 => ?_) (fun c10 => ?_)
            · have h := ok_t c10 h
              refine e_aload_n dX5_copy_108 rfl ?_
              refine e_iconst (0 : Int32) dX5_copy_109 (by decide) ?_
              refine e_callV (f2 := 0) (l2 := 0) (ν := mtX5_finding) (as := [.int (0 : Int32)]) cv_RX5_55 is_X0 kc_1 ⟨Nat.le_of_ble_eq_true rfl, Nat.le_of_ble_eq_true rfl⟩ rfl rfl (Nat.le_of_ble_eq_true rfl) dX5_copy_110 ?_
              refine ctX5_finding (0 : Int32) (ok_bnd h (fun q11 h => ?_))
              show Ev (wX, z) mtX5_copy 2 42 113 [some (.ref 0), some (.int a1), some (.int a2), some (.int a3), some (.int a4), some (.int a5)] [.int q11.1] q11.2 Q
              have h := ok_some h
              exact e_iret rfl dX5_copy_113 h
            · have h := ok_f c10 h
              refine e_aload_n dX5_copy_92 rfl ?_
              refine e_getR fa_RX5_35 is_X0 rfl dX5_copy_93 ?_
              refine e_iload_n dX5_copy_96 rfl ?_
              refine e_aaldK ra_X36 (r' := (37 + 2 * k7)) (Or.inr rfl) ik7 ek7 (by omega) dX5_copy_97 ?_
              refine e_iload dX5_copy_98 rfl ?_
              refine e_iload dX5_copy_100 rfl ?_
              refine e_callV (f2 := 0) (l2 := 0) (ν := mtX3_hasRun) (as := [.int a4, .int a5]) cv_RX5_280 (st_is ik7 ek7) kc_5 ⟨Nat.le_of_ble_eq_true rfl, Nat.le_of_ble_eq_true rfl⟩ rfl rfl (Nat.le_of_ble_eq_true rfl) dX5_copy_102 ?_
              refine ctX3_hasRun (37 + 2 * k7) a4 a5 (st_is ik7 ek7) ?_
              show Ev (wX, z) mtX5_copy 2 42 105 [some (.ref 0), some (.int a1), some (.int a2), some (.int a3), some (.int a4), some (.int a5)] [.int (fpX3_hasRun (37 + 2 * k7) a4 a5 M)] M Q
              refine e_if_ne 114 dX5_copy_105 (by decide) (fun c12 => ?_) (fun c12 => ?_)
              · have h := ok_f c12 h
                refine e_aload_n dX5_copy_114 rfl ?_
                refine e_getR fa_RX5_35 is_X0 rfl dX5_copy_115 ?_
                refine e_iload_n dX5_copy_118 rfl ?_
                refine e_aaldK ra_X36 (r' := (37 + 2 * k4)) (Or.inr rfl) ik4 ek4 (by omega) dX5_copy_119 ?_
                refine e_getR fa_RX5_284 (st_is ik4 ek4) rfl dX5_copy_120 ?_
                refine e_iload_n dX5_copy_123 rfl ?_
                refine e_aload_n dX5_copy_124 rfl ?_
                refine e_getR fa_RX5_35 is_X0 rfl dX5_copy_125 ?_
                refine e_iload_n dX5_copy_128 rfl ?_
                refine e_aaldK ra_X36 (r' := (37 + 2 * k7)) (Or.inr rfl) ik7 ek7 (by omega) dX5_copy_129 ?_
                refine e_getR fa_RX5_284 (st_is ik7 ek7) rfl dX5_copy_130 ?_
                refine e_iload dX5_copy_133 rfl ?_
                refine e_iload dX5_copy_135 rfl ?_
                obtain ⟨p13, q13, r13, s13, t13, h⟩ := ok_cpy h
                refine e_copy ⟨wl_RX5_287, wn_copy, ws_copy, wi_RJ10⟩ (sh_nums (st_is ik4 ek4)) (sh_nums (st_is ik7 ek7)) p13 q13 r13 s13 t13 (Nat.le_of_ble_eq_true rfl) (Nat.le_of_ble_eq_true rfl) dX5_copy_137 ?_
                refine lv1 (P := fun M14 => Ev (wX, z) mtX5_copy 2 42 140 [some (.ref 0), some (.int a1), some (.int a2), some (.int a3), some (.int a4), some (.int a5)] [] M14 Q) h (fun M14 h => ?_)
                refine e_iload dX5_copy_140 rfl ?_
                have h := ok_some h
                exact e_iret rfl dX5_copy_142 h
              · have h := ok_t c12 h
                refine e_aload_n dX5_copy_108 rfl ?_
                refine e_iconst (0 : Int32) dX5_copy_109 (by decide) ?_
                refine e_callV (f2 := 0) (l2 := 0) (ν := mtX5_finding) (as := [.int (0 : Int32)]) cv_RX5_55 is_X0 kc_1 ⟨Nat.le_of_ble_eq_true rfl, Nat.le_of_ble_eq_true rfl⟩ rfl rfl (Nat.le_of_ble_eq_true rfl) dX5_copy_110 ?_
                refine ctX5_finding (0 : Int32) (ok_bnd h (fun q15 h => ?_))
                show Ev (wX, z) mtX5_copy 2 42 113 [some (.ref 0), some (.int a1), some (.int a2), some (.int a3), some (.int a4), some (.int a5)] [.int q15.1] q15.2 Q
                have h := ok_some h
                exact e_iret rfl dX5_copy_113 h
          · have h := ok_f c9 h
            refine e_aload_n dX5_copy_71 rfl ?_
            refine e_iconst (2 : Int32) dX5_copy_72 (by decide) ?_
            refine e_callV (f2 := 0) (l2 := 0) (ν := mtX5_finding) (as := [.int (2 : Int32)]) cv_RX5_55 is_X0 kc_1 ⟨Nat.le_of_ble_eq_true rfl, Nat.le_of_ble_eq_true rfl⟩ rfl rfl (Nat.le_of_ble_eq_true rfl) dX5_copy_73 ?_
            refine ctX5_finding (2 : Int32) (ok_bnd h (fun q16 h => ?_))
            show Ev (wX, z) mtX5_copy 2 42 76 [some (.ref 0), some (.int a1), some (.int a2), some (.int a3), some (.int a4), some (.int a5)] [.int q16.1] q16.2 Q
            have h := ok_some h
            exact e_iret rfl dX5_copy_76 h
        · have h := ok_f c8 h
          refine e_aload_n dX5_copy_44 rfl ?_
          refine e_iconst (5 : Int32) dX5_copy_45 (by decide) ?_
          refine e_callV (f2 := 0) (l2 := 0) (ν := mtX5_finding) (as := [.int (5 : Int32)]) cv_RX5_55 is_X0 kc_1 ⟨Nat.le_of_ble_eq_true rfl, Nat.le_of_ble_eq_true rfl⟩ rfl rfl (Nat.le_of_ble_eq_true rfl) dX5_copy_46 ?_
          refine ctX5_finding (5 : Int32) (ok_bnd h (fun q17 h => ?_))
          show Ev (wX, z) mtX5_copy 2 42 49 [some (.ref 0), some (.int a1), some (.int a2), some (.int a3), some (.int a4), some (.int a5)] [.int q17.1] q17.2 Q
          have h := ok_some h
          exact e_iret rfl dX5_copy_49 h
    · have h := ok_f c3 h
      refine e_aload_n dX5_copy_14 rfl ?_
      refine e_iconst (0 : Int32) dX5_copy_15 (by decide) ?_
      refine e_callV (f2 := 0) (l2 := 0) (ν := mtX5_finding) (as := [.int (0 : Int32)]) cv_RX5_55 is_X0 kc_1 ⟨Nat.le_of_ble_eq_true rfl, Nat.le_of_ble_eq_true rfl⟩ rfl rfl (Nat.le_of_ble_eq_true rfl) dX5_copy_16 ?_
      refine ctX5_finding (0 : Int32) (ok_bnd h (fun q18 h => ?_))
      show Ev (wX, z) mtX5_copy 2 42 19 [some (.ref 0), some (.int a1), some (.int a2), some (.int a3), some (.int a4), some (.int a5)] [.int q18.1] q18.2 Q
      have h := ok_some h
      exact e_iret rfl dX5_copy_19 h
def XX5_load_56 (z : Zt) (a1 : Int32) (a3 : Int32) (Q : Option Value → Me → Prop) : (Int32 × Me) → Prop := fun t => Ev (wX, z) mtX5_load 2 42 117 [none, none, some (.int t.1), none, none] [] t.2 Q
def EX5_load_56 (z : Zt) (a1 : Int32) (a3 : Int32) (Q : Option Value → Me → Prop) : (Int32 × Int32 × Me) → Prop := fun s => Ev (wX, z) mtX5_load 2 42 56 [some (.ref 0), some (.int a1), some (.int s.1), some (.int a3), some (.int s.2.1)] [] s.2.2 Q
def GX5_load_56 (z : Zt) (a1 : Int32) (a3 : Int32) (Q : Option Value → Me → Prop) : (Int32 × Int32 × Me) ⊕ (Int32 × Me) → Prop := Sum.elim (EX5_load_56 z a1 a3 Q) (XX5_load_56 z a1 a3 Q)
def fpX5_load_l56s (a1 : Int32) (a3 : Int32) (a2 : Int32) (a4 : Int32) (M : Me) : Option ((Int32 × Int32 × Me) ⊕ (Int32 × Me)) := (if a3 ≤ a4 then
 some (.inr (a2, M))
 else
 (inb a1 4).bind fun k6 =>
 (inb a4 40).bind fun k7 =>
 (if (fpX5_outside (M.1 ((37 + 2 * k6) + 1) k7) (1 : Int32) (60 : Int32)) = 0 then
 (inb a4 8).bind fun k9 =>
 letv (wrM M (1 + 3 + k9) 2 (M.1 ((37 + 2 * k6) + 1) k7)) fun M10 =>
 letv (a2 + (1 : Int32)) fun v11 =>
 letv (a4 + (1 : Int32)) fun v12 =>
 some (.inl (v11, v12, M10))
 else
 some (.inr (a2, M))))
def fpX5_load_l56 (a1 : Int32) (a3 : Int32) (s : Int32 × Int32 × Me) : Option ((Int32 × Int32 × Me) ⊕ (Int32 × Me)) := fpX5_load_l56s a1 a3 s.1 s.2.1 s.2.2
set_option maxRecDepth 20000 in
theorem ebX5_load_l56s {z : Zt} {Q : Option Value → Me → Prop} (a1 : Int32) (a3 : Int32) (a2 : Int32) (a4 : Int32) (M : Me) (h : ok (fpX5_load_l56s a1 a3 a2 a4 M) (GX5_load_56 z a1 a3 Q)) : Ev (wX, z) mtX5_load 2 42 56 [some (.ref 0), some (.int a1), some (.int a2), some (.int a3), some (.int a4)] [] M Q := by
  unfold fpX5_load_l56s at h
  refine e_iload dX5_load_56 rfl ?_
  refine e_iload_n dX5_load_58 rfl ?_
  refine e_icmp_ge 117 dX5_load_59 (by decide) (fun c5 => ?_) (fun c5 => ?_)
  · have h := ok_t c5 h
    refine e_forget [none, none, some (.int a2), none, none] (leL_n (leL_n (leL_s (leL_n (leL_n leL_0))))) ?_
    have h := ok_some h
    exact h
  · have h := ok_f c5 h
    refine e_aload_n dX5_load_62 rfl ?_
    refine e_getR fa_RX5_35 is_X0 rfl dX5_load_63 ?_
    refine e_iload_n dX5_load_66 rfl ?_
    refine ok_inb h (fun k6 ek6 ik6 h => ?_)
    refine e_aaldK ra_X36 (r' := (37 + 2 * k6)) (Or.inr rfl) ik6 ek6 (by omega) dX5_load_67 ?_
    refine e_getR fa_RX5_284 (st_is ik6 ek6) rfl dX5_load_68 ?_
    refine e_iload dX5_load_71 rfl ?_
    refine ok_inb h (fun k7 ek7 ik7 h => ?_)
    refine e_ialdK (sh_nums (st_is ik6 ek6)) ik7 ek7 dX5_load_73 ?_
    refine e_iconst (1 : Int32) dX5_load_74 (by decide) ?_
    refine e_bipush (60 : Int32) dX5_load_75 (by decide) ?_
    refine e_callS (f2 := 0) (l2 := 0) (ν := mtX5_outside) (as := [.int (M.1 ((37 + 2 * k6) + 1) k7), .int (1 : Int32), .int (60 : Int32)]) cs_RX5_51 ⟨Nat.le_of_ble_eq_true rfl, Nat.le_of_ble_eq_true rfl⟩ rfl rfl (Nat.le_of_ble_eq_true rfl) dX5_load_77 ?_
    refine ctX5_outside (M.1 ((37 + 2 * k6) + 1) k7) (1 : Int32) (60 : Int32) ?_
    show Ev (wX, z) mtX5_load 2 42 80 [some (.ref 0), some (.int a1), some (.int a2), some (.int a3), some (.int a4)] [.int (fpX5_outside (M.1 ((37 + 2 * k6) + 1) k7) (1 : Int32) (60 : Int32))] M Q
    refine e_if_ne 117 dX5_load_80 (by decide) (fun c8 => ?_) (fun c8 => ?_)
    · have h := ok_f c8 h
      refine e_forget [none, none, some (.int a2), none, none] (leL_n (leL_n (leL_s (leL_n (leL_n leL_0))))) ?_
      have h := ok_some h
      exact h
    · have h := ok_t c8 h
      refine e_aload_n dX5_load_83 rfl ?_
      refine e_getR fa_RX5_10 is_X0 rfl dX5_load_84 ?_
      refine e_getR fa_RX5_75 is_X1 rfl dX5_load_87 ?_
      refine e_iload dX5_load_90 rfl ?_
      refine ok_inb h (fun k9 ek9 ik9 h => ?_)
      refine e_aaldK ra_X2 (r' := (1 + 3 + k9)) (Or.inl rfl) ik9 ek9 (by omega) dX5_load_92 ?_
      refine e_aload_n dX5_load_93 rfl ?_
      refine e_getR fa_RX5_35 is_X0 rfl dX5_load_94 ?_
      refine e_iload_n dX5_load_97 rfl ?_
      refine e_aaldK ra_X36 (r' := (37 + 2 * k6)) (Or.inr rfl) ik6 ek6 (by omega) dX5_load_98 ?_
      refine e_getR fa_RX5_284 (st_is ik6 ek6) rfl dX5_load_99 ?_
      refine e_iload dX5_load_102 rfl ?_
      refine e_ialdK (sh_nums (st_is ik6 ek6)) ik7 ek7 dX5_load_104 ?_
      refine e_putI fw_RX5_87 (pm_is is_X1 ik9 ek9) dX5_load_105 ?_
      refine lv1 (P := fun M10 => Ev (wX, z) mtX5_load 2 42 108 [some (.ref 0), some (.int a1), some (.int a2), some (.int a3), some (.int a4)] [] M10 Q) h (fun M10 h => ?_)
      refine lv1e h (fun v11 ev11 h => ?_)
      refine e_iinc v11 dX5_load_108 rfl ev11 (by decide) rfl ?_
      refine lv1e h (fun v12 ev12 h => ?_)
      refine e_iinc v12 dX5_load_111 rfl ev12 (by decide) rfl ?_
      refine e_goto 56 dX5_load_114 (by decide) ?_
      refine e_forget [some (.ref 0), some (.int a1), some (.int v11), some (.int a3), some (.int v12)] (leL_s (leL_s (leL_s (leL_s (leL_s leL_0))))) ?_
      have h := ok_some h
      exact h
theorem elX5_load_l56 {z : Zt} {Q : Option Value → Me → Prop} (a1 : Int32) (a3 : Int32) (N : Nat) (s : Int32 × Int32 × Me) (h : ok (lp (fpX5_load_l56 a1 a3) N s) (XX5_load_56 z a1 a3 Q)) : EX5_load_56 z a1 a3 Q s :=
  lp_ind (fun s h => ebX5_load_l56s a1 a3 s.1 s.2.1 s.2.2 h) N s h
def fpX5_load (a1 : Int32) (M : Me) : Option (Int32 × Me) := (if (fpX5_noSuchSheet a1) = 0 then
 (inb a1 4).bind fun k2 =>
 (if (fpX3_isMissing (37 + 2 * k2) M) = 0 then
 letv (fpJ9_min_7cf53 (M.1 (37 + 2 * k2) 2) (M.1 1 2)) fun v4 =>
 (lp (fpX5_load_l56 a1 v4) FU ((0 : Int32), (0 : Int32), M)).bind fun r13 =>
 some (r13.1, r13.2)
 else
 (fpX5_finding (5 : Int32) M).bind fun q14 =>
 some (q14.1, q14.2))
 else
 (fpX5_finding (0 : Int32) M).bind fun q15 =>
 some (q15.1, q15.2))
set_option maxRecDepth 20000 in
theorem ctX5_load {z : Zt} {M : Me} {Q : Option Value → Me → Prop} (a1 : Int32)  (h : ok (fpX5_load a1 M) (fun a => Q (some (.int a.1)) a.2)) : EvM (wX, z) mtX5_load 2 42 [.ref 0, .int a1] M Q := by
  refine evm_of [some (.ref 0), some (.int a1), none, none, none] 3 (by decide +kernel) (Nat.le_of_ble_eq_true rfl) rfl ?_
  unfold fpX5_load at h
  refine e_iload_n dX5_load_0 rfl ?_
  refine e_callS (f2 := 1) (l2 := 22) (ν := mtX5_noSuchSheet) (as := [.int a1]) cs_RX5_236 ⟨Nat.le_of_ble_eq_true rfl, Nat.le_of_ble_eq_true rfl⟩ rfl rfl (Nat.le_of_ble_eq_true rfl) dX5_load_1 ?_
  refine ctX5_noSuchSheet a1 ?_
  show Ev (wX, z) mtX5_load 2 42 4 [some (.ref 0), some (.int a1), none, none, none] [.int (fpX5_noSuchSheet a1)] M Q
  refine e_if_eq 13 dX5_load_4 (by decide) (fun c1 => ?_) (fun c1 => ?_)
  · have h := ok_t c1 h
    refine e_aload_n dX5_load_13 rfl ?_
    refine e_getR fa_RX5_35 is_X0 rfl dX5_load_14 ?_
    refine e_iload_n dX5_load_17 rfl ?_
    refine ok_inb h (fun k2 ek2 ik2 h => ?_)
    refine e_aaldK ra_X36 (r' := (37 + 2 * k2)) (Or.inr rfl) ik2 ek2 (by omega) dX5_load_18 ?_
    refine e_callV (f2 := 0) (l2 := 0) (ν := mtX3_isMissing) (as := []) cv_RX5_239 (st_is ik2 ek2) kc_5 ⟨Nat.le_of_ble_eq_true rfl, Nat.le_of_ble_eq_true rfl⟩ rfl rfl (Nat.le_of_ble_eq_true rfl) dX5_load_19 ?_
    refine ctX3_isMissing (37 + 2 * k2) (st_is ik2 ek2) ?_
    show Ev (wX, z) mtX5_load 2 42 22 [some (.ref 0), some (.int a1), none, none, none] [.int (fpX3_isMissing (37 + 2 * k2) M)] M Q
    refine e_if_eq 31 dX5_load_22 (by decide) (fun c3 => ?_) (fun c3 => ?_)
    · have h := ok_t c3 h
      refine e_iconst (0 : Int32) dX5_load_31 (by decide) ?_
      refine e_istore_n dX5_load_32 (by decide) rfl ?_
      refine e_aload_n dX5_load_33 rfl ?_
      refine e_getR fa_RX5_35 is_X0 rfl dX5_load_34 ?_
      refine e_iload_n dX5_load_37 rfl ?_
      refine e_aaldK ra_X36 (r' := (37 + 2 * k2)) (Or.inr rfl) ik2 ek2 (by omega) dX5_load_38 ?_
      refine e_getI fa_RX5_250 (st_is ik2 ek2) dX5_load_39 ?_
      refine e_aload_n dX5_load_42 rfl ?_
      refine e_getR fa_RX5_10 is_X0 rfl dX5_load_43 ?_
      refine e_getI fa_RX5_67 is_X1 dX5_load_46 ?_
      refine e_callS (f2 := 0) (l2 := 0) (ν := mtJ9_min_7cf53) (as := [.int (M.1 (37 + 2 * k2) 2), .int (M.1 1 2)]) cs_RX5_293 ⟨Nat.le_of_ble_eq_true rfl, Nat.le_of_ble_eq_true rfl⟩ rfl rfl (Nat.le_of_ble_eq_true rfl) dX5_load_49 ?_
      refine ctJ9_min_7cf53 (M.1 (37 + 2 * k2) 2) (M.1 1 2) ?_
      show Ev (wX, z) mtX5_load 2 42 52 [some (.ref 0), some (.int a1), some (.int (0 : Int32)), none, none] [.int (fpJ9_min_7cf53 (M.1 (37 + 2 * k2) 2) (M.1 1 2))] M Q
      refine lv1 (P := fun v4 => Ev (wX, z) mtX5_load 2 42 52 [some (.ref 0), some (.int a1), some (.int (0 : Int32)), none, none] [.int v4] M Q) h (fun v4 h => ?_)
      refine e_istore_n dX5_load_52 (by decide) rfl ?_
      refine e_iconst (0 : Int32) dX5_load_53 (by decide) ?_
      refine e_istore dX5_load_54 (by decide) rfl ?_
      refine e_forget [some (.ref 0), some (.int a1), some (.int (0 : Int32)), some (.int v4), some (.int (0 : Int32))] (leL_s (leL_s (leL_s (leL_s (leL_s leL_0))))) ?_
      refine elX5_load_l56 a1 v4 FU ((0 : Int32), (0 : Int32), M) (ok_bnd h (fun r13 h => ?_))
      show Ev (wX, z) mtX5_load 2 42 117 [none, none, some (.int r13.1), none, none] [] r13.2 Q
      refine e_iload_n dX5_load_117 rfl ?_
      have h := ok_some h
      exact e_iret rfl dX5_load_118 h
    · have h := ok_f c3 h
      refine e_aload_n dX5_load_25 rfl ?_
      refine e_iconst (5 : Int32) dX5_load_26 (by decide) ?_
      refine e_callV (f2 := 0) (l2 := 0) (ν := mtX5_finding) (as := [.int (5 : Int32)]) cv_RX5_55 is_X0 kc_1 ⟨Nat.le_of_ble_eq_true rfl, Nat.le_of_ble_eq_true rfl⟩ rfl rfl (Nat.le_of_ble_eq_true rfl) dX5_load_27 ?_
      refine ctX5_finding (5 : Int32) (ok_bnd h (fun q14 h => ?_))
      show Ev (wX, z) mtX5_load 2 42 30 [some (.ref 0), some (.int a1), none, none, none] [.int q14.1] q14.2 Q
      have h := ok_some h
      exact e_iret rfl dX5_load_30 h
  · have h := ok_f c1 h
    refine e_aload_n dX5_load_7 rfl ?_
    refine e_iconst (0 : Int32) dX5_load_8 (by decide) ?_
    refine e_callV (f2 := 0) (l2 := 0) (ν := mtX5_finding) (as := [.int (0 : Int32)]) cv_RX5_55 is_X0 kc_1 ⟨Nat.le_of_ble_eq_true rfl, Nat.le_of_ble_eq_true rfl⟩ rfl rfl (Nat.le_of_ble_eq_true rfl) dX5_load_9 ?_
    refine ctX5_finding (0 : Int32) (ok_bnd h (fun q15 h => ?_))
    show Ev (wX, z) mtX5_load 2 42 12 [some (.ref 0), some (.int a1), none, none, none] [.int q15.1] q15.2 Q
    have h := ok_some h
    exact e_iret rfl dX5_load_12 h
def fpX5_image  (M : Me) : Option (Int32 × Me) := (fpX2_take 12 1 M).bind fun q1 =>
 letv (wrM q1 0 3 (1 : Int32)) fun M2 =>
 some ((1 : Int32), M2)
set_option maxRecDepth 20000 in
theorem ctX5_image {z : Zt} {M : Me} {Q : Option Value → Me → Prop}   (h : ok (fpX5_image M) (fun a => Q (some (.int a.1)) a.2)) : EvM (wX, z) mtX5_image 2 48 [.ref 0] M Q := by
  refine evm_of [some (.ref 0)] 0 (by decide +kernel) (Nat.le_of_ble_eq_true rfl) rfl ?_
  unfold fpX5_image at h
  refine e_aload_n dX5_image_0 rfl ?_
  refine e_getR fa_RX5_16 is_X0 rfl dX5_image_1 ?_
  refine e_aload_n dX5_image_4 rfl ?_
  refine e_getR fa_RX5_10 is_X0 rfl dX5_image_5 ?_
  refine e_callV (f2 := 1) (l2 := 26) (ν := mtX2_take) (as := [.ref 1]) cv_RX5_256 is_X12 kc_2 ⟨Nat.le_of_ble_eq_true rfl, Nat.le_of_ble_eq_true rfl⟩ rfl rfl (Nat.le_of_ble_eq_true rfl) dX5_image_8 ?_
  refine ctX2_take 12 1 is_X12 is_X1 (ok_bnd h (fun q1 h => ?_))
  show Ev (wX, z) mtX5_image 2 48 11 [some (.ref 0)] [] q1 Q
  refine e_aload_n dX5_image_11 rfl ?_
  refine e_iconst (1 : Int32) dX5_image_12 (by decide) ?_
  refine e_putZ fw_RX5_22 is_X0 (Or.inr rfl) dX5_image_13 ?_
  refine lv1 (P := fun M2 => Ev (wX, z) mtX5_image 2 48 16 [some (.ref 0)] [] M2 Q) h (fun M2 h => ?_)
  refine e_iconst (1 : Int32) dX5_image_16 (by decide) ?_
  have h := ok_some h
  exact e_iret rfl dX5_image_17 h
def fpX5_undo  (M : Me) : Option (Int32 × Me) := (if (M.1 0 3) = 0 then
 (fpX5_finding (3 : Int32) M).bind fun q3 =>
 some (q3.1, q3.2)
 else
 (fpX2_take 1 12 M).bind fun q2 =>
 some ((q2.1 1 2), q2))
set_option maxRecDepth 20000 in
theorem ctX5_undo {z : Zt} {M : Me} {Q : Option Value → Me → Prop}   (h : ok (fpX5_undo M) (fun a => Q (some (.int a.1)) a.2)) : EvM (wX, z) mtX5_undo 2 48 [.ref 0] M Q := by
  refine evm_of [some (.ref 0)] 0 (by decide +kernel) (Nat.le_of_ble_eq_true rfl) rfl ?_
  unfold fpX5_undo at h
  refine e_aload_n dX5_undo_0 rfl ?_
  refine e_getI fa_RX5_22 is_X0 dX5_undo_1 ?_
  refine e_if_ne 13 dX5_undo_4 (by decide) (fun c1 => ?_) (fun c1 => ?_)
  · have h := ok_f c1 h
    refine e_aload_n dX5_undo_13 rfl ?_
    refine e_getR fa_RX5_10 is_X0 rfl dX5_undo_14 ?_
    refine e_aload_n dX5_undo_17 rfl ?_
    refine e_getR fa_RX5_16 is_X0 rfl dX5_undo_18 ?_
    refine e_callV (f2 := 1) (l2 := 26) (ν := mtX2_take) (as := [.ref 12]) cv_RX5_256 is_X1 kc_2 ⟨Nat.le_of_ble_eq_true rfl, Nat.le_of_ble_eq_true rfl⟩ rfl rfl (Nat.le_of_ble_eq_true rfl) dX5_undo_21 ?_
    refine ctX2_take 1 12 is_X1 is_X12 (ok_bnd h (fun q2 h => ?_))
    show Ev (wX, z) mtX5_undo 2 48 24 [some (.ref 0)] [] q2 Q
    refine e_aload_n dX5_undo_24 rfl ?_
    refine e_getR fa_RX5_10 is_X0 rfl dX5_undo_25 ?_
    refine e_getI fa_RX5_67 is_X1 dX5_undo_28 ?_
    have h := ok_some h
    exact e_iret rfl dX5_undo_31 h
  · have h := ok_t c1 h
    refine e_aload_n dX5_undo_7 rfl ?_
    refine e_iconst (3 : Int32) dX5_undo_8 (by decide) ?_
    refine e_callV (f2 := 0) (l2 := 0) (ν := mtX5_finding) (as := [.int (3 : Int32)]) cv_RX5_55 is_X0 kc_1 ⟨Nat.le_of_ble_eq_true rfl, Nat.le_of_ble_eq_true rfl⟩ rfl rfl (Nat.le_of_ble_eq_true rfl) dX5_undo_9 ?_
    refine ctX5_finding (3 : Int32) (ok_bnd h (fun q3 h => ?_))
    show Ev (wX, z) mtX5_undo 2 48 12 [some (.ref 0)] [.int q3.1] q3.2 Q
    have h := ok_some h
    exact e_iret rfl dX5_undo_12 h
def fpX5_tear_b12 (t0 : Int32) (M : Me) : Option (Int32 × Me) := letv (wrM M 0 3 (0 : Int32)) fun M2 =>
 some (t0, M2)
set_option maxRecDepth 20000 in
theorem ebX5_tear_b12 {z : Zt} {Q : Option Value → Me → Prop} (t0 : Int32) (M : Me) (h : ok (fpX5_tear_b12 t0 M) (fun a => Q (some (.int a.1)) a.2)) : Ev (wX, z) mtX5_tear 0 0 12 [some (.ref 0), none] [.int t0] M Q := by
  unfold fpX5_tear_b12 at h
  refine e_istore_n dX5_tear_12 (by decide) rfl ?_
  refine e_aload_n dX5_tear_13 rfl ?_
  refine e_iconst (0 : Int32) dX5_tear_14 (by decide) ?_
  refine e_putZ fw_RX5_22 is_X0 (Or.inl rfl) dX5_tear_15 ?_
  refine lv1 (P := fun M2 => Ev (wX, z) mtX5_tear 0 0 18 [some (.ref 0), some (.int t0)] [] M2 Q) h (fun M2 h => ?_)
  refine e_iload_n dX5_tear_18 rfl ?_
  have h := ok_some h
  exact e_iret rfl dX5_tear_19 h
def fpX5_tear  (M : Me) : Option (Int32 × Me) := (if (M.1 0 3) = 0 then
 fpX5_tear_b12 (0 : Int32) M
 else
 fpX5_tear_b12 (1 : Int32) M)
set_option maxRecDepth 20000 in
theorem ctX5_tear {z : Zt} {M : Me} {Q : Option Value → Me → Prop}   (h : ok (fpX5_tear M) (fun a => Q (some (.int a.1)) a.2)) : EvM (wX, z) mtX5_tear 0 0 [.ref 0] M Q := by
  refine evm_of [some (.ref 0), none] 1 (by decide +kernel) (Nat.le_of_ble_eq_true rfl) rfl ?_
  unfold fpX5_tear at h
  refine e_aload_n dX5_tear_0 rfl ?_
  refine e_getI fa_RX5_22 is_X0 dX5_tear_1 ?_
  refine e_if_eq 11 dX5_tear_4 (by decide) (fun c1 => ?_) (fun c1 => ?_)
  · have h := ok_t c1 h
    refine e_iconst (0 : Int32) dX5_tear_11 (by decide) ?_
    refine e_forget [some (.ref 0), none] (leL_s (leL_n leL_0)) ?_
    exact ebX5_tear_b12 (0 : Int32) M h
  · have h := ok_f c1 h
    refine e_iconst (1 : Int32) dX5_tear_7 (by decide) ?_
    refine e_goto 12 dX5_tear_8 (by decide) ?_
    refine e_forget [some (.ref 0), none] (leL_s (leL_n leL_0)) ?_
    exact ebX5_tear_b12 (1 : Int32) M h
