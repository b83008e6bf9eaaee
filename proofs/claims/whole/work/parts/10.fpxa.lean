def fpJ9_max_7cf53 (a0 : Int32) (a1 : Int32) : Int32 := (if a0 < a1 then a1 else a0)
set_option maxRecDepth 20000 in
theorem ctJ9_max_7cf53 {g : Gt} {M : Me} {Q : Option Value → Me → Prop} (a0 : Int32) (a1 : Int32)  (h : Q (some (.int (fpJ9_max_7cf53 a0 a1))) M) : EvM g mtJ9_max_7cf53 0 0 [.int a0, .int a1] M Q := by
  refine evm_ofF [some (.int a0), some (.int a1)] 0 (by decide +kernel) (Nat.le_of_ble_eq_true rfl) rfl ?_
  refine e_iload_n dJ9_max_7cf53_0 rfl ?_
  refine e_iload_n dJ9_max_7cf53_1 rfl ?_
  refine e_icmp_lt 9 dJ9_max_7cf53_2 (by decide) (fun c1 => ?_) (fun c1 => ?_)
  · refine e_iload_n dJ9_max_7cf53_9 rfl ?_
    have e0 : fpJ9_max_7cf53 a0 a1 = a1 := by
      unfold fpJ9_max_7cf53
      rw [if_pos c1]
    rw [e0] at h
    exact e_iret rfl dJ9_max_7cf53_10 h
  · refine e_iload_n dJ9_max_7cf53_5 rfl ?_
    refine e_goto 10 dJ9_max_7cf53_6 (by decide) ?_
    have e0 : fpJ9_max_7cf53 a0 a1 = a0 := by
      unfold fpJ9_max_7cf53
      rw [if_neg c1]
    rw [e0] at h
    exact e_iret rfl dJ9_max_7cf53_10 h
def fpJ9_abs_0f7a4 (a0 : Int32) : Int32 := (if 0 ≤ a0 then a0 else (-a0))
set_option maxRecDepth 20000 in
theorem ctJ9_abs_0f7a4 {g : Gt} {M : Me} {Q : Option Value → Me → Prop} (a0 : Int32)  (h : Q (some (.int (fpJ9_abs_0f7a4 a0))) M) : EvM g mtJ9_abs_0f7a4 0 0 [.int a0] M Q := by
  refine evm_ofF [some (.int a0)] 0 (by decide +kernel) (Nat.le_of_ble_eq_true rfl) rfl ?_
  refine e_iload_n dJ9_abs_0f7a4_0 rfl ?_
  refine e_if_ge 9 dJ9_abs_0f7a4_1 (by decide) (fun c1 => ?_) (fun c1 => ?_)
  · refine e_iload_n dJ9_abs_0f7a4_9 rfl ?_
    have e0 : fpJ9_abs_0f7a4 a0 = a0 := by
      unfold fpJ9_abs_0f7a4
      rw [if_pos c1]
    rw [e0] at h
    exact e_iret rfl dJ9_abs_0f7a4_10 h
  · refine e_iload_n dJ9_abs_0f7a4_4 rfl ?_
    refine e_ineg dJ9_abs_0f7a4_5 ?_
    refine e_goto 10 dJ9_abs_0f7a4_6 (by decide) ?_
    have e0 : fpJ9_abs_0f7a4 a0 = (-a0) := by
      unfold fpJ9_abs_0f7a4
      rw [if_neg c1]
    rw [e0] at h
    exact e_iret rfl dJ9_abs_0f7a4_10 h
def fpJ9_min_7cf53 (a0 : Int32) (a1 : Int32) : Int32 := (if a1 < a0 then a1 else a0)
set_option maxRecDepth 20000 in
theorem ctJ9_min_7cf53 {g : Gt} {M : Me} {Q : Option Value → Me → Prop} (a0 : Int32) (a1 : Int32)  (h : Q (some (.int (fpJ9_min_7cf53 a0 a1))) M) : EvM g mtJ9_min_7cf53 0 0 [.int a0, .int a1] M Q := by
  refine evm_ofF [some (.int a0), some (.int a1)] 0 (by decide +kernel) (Nat.le_of_ble_eq_true rfl) rfl ?_
  refine e_iload_n dJ9_min_7cf53_0 rfl ?_
  refine e_iload_n dJ9_min_7cf53_1 rfl ?_
  refine e_icmp_gt 9 dJ9_min_7cf53_2 (by decide) (fun c1 => ?_) (fun c1 => ?_)
  · refine e_iload_n dJ9_min_7cf53_9 rfl ?_
    have e0 : fpJ9_min_7cf53 a0 a1 = a1 := by
      unfold fpJ9_min_7cf53
      rw [if_pos c1]
    rw [e0] at h
    exact e_iret rfl dJ9_min_7cf53_10 h
  · refine e_iload_n dJ9_min_7cf53_5 rfl ?_
    refine e_goto 10 dJ9_min_7cf53_6 (by decide) ?_
    have e0 : fpJ9_min_7cf53 a0 a1 = a0 := by
      unfold fpJ9_min_7cf53
      rw [if_neg c1]
    rw [e0] at h
    exact e_iret rfl dJ9_min_7cf53_10 h
def fpJ6_bitCount_0f7a4 (a0 : Int32) : Int32 := ((((((((a0 - ((jushr a0 (1 : Int32)) &&& (1431655765 : Int32))) &&& (858993459 : Int32)) + ((jushr (a0 - ((jushr a0 (1 : Int32)) &&& (1431655765 : Int32))) (2 : Int32)) &&& (858993459 : Int32))) + (jushr (((a0 - ((jushr a0 (1 : Int32)) &&& (1431655765 : Int32))) &&& (858993459 : Int32)) + ((jushr (a0 - ((jushr a0 (1 : Int32)) &&& (1431655765 : Int32))) (2 : Int32)) &&& (858993459 : Int32))) (4 : Int32))) &&& (252645135 : Int32)) + (jushr (((((a0 - ((jushr a0 (1 : Int32)) &&& (1431655765 : Int32))) &&& (858993459 : Int32)) + ((jushr (a0 - ((jushr a0 (1 : Int32)) &&& (1431655765 : Int32))) (2 : Int32)) &&& (858993459 : Int32))) + (jushr (((a0 - ((jushr a0 (1 : Int32)) &&& (1431655765 : Int32))) &&& (858993459 : Int32)) + ((jushr (a0 - ((jushr a0 (1 : Int32)) &&& (1431655765 : Int32))) (2 : Int32)) &&& (858993459 : Int32))) (4 : Int32))) &&& (252645135 : Int32)) (8 : Int32))) + (jushr ((((((a0 - ((jushr a0 (1 : Int32)) &&& (1431655765 : Int32))) &&& (858993459 : Int32)) + ((jushr (a0 - ((jushr a0 (1 : Int32)) &&& (1431655765 : Int32))) (2 : Int32)) &&& (858993459 : Int32))) + (jushr (((a0 - ((jushr a0 (1 : Int32)) &&& (1431655765 : Int32))) &&& (858993459 : Int32)) + ((jushr (a0 - ((jushr a0 (1 : Int32)) &&& (1431655765 : Int32))) (2 : Int32)) &&& (858993459 : Int32))) (4 : Int32))) &&& (252645135 : Int32)) + (jushr (((((a0 - ((jushr a0 (1 : Int32)) &&& (1431655765 : Int32))) &&& (858993459 : Int32)) + ((jushr (a0 - ((jushr a0 (1 : Int32)) &&& (1431655765 : Int32))) (2 : Int32)) &&& (858993459 : Int32))) + (jushr (((a0 - ((jushr a0 (1 : Int32)) &&& (1431655765 : Int32))) &&& (858993459 : Int32)) + ((jushr (a0 - ((jushr a0 (1 : Int32)) &&& (1431655765 : Int32))) (2 : Int32)) &&& (858993459 : Int32))) (4 : Int32))) &&& (252645135 : Int32)) (8 : Int32))) (16 : Int32))) &&& (63 : Int32))
set_option maxRecDepth 20000 in
theorem ctJ6_bitCount_0f7a4 {g : Gt} {M : Me} {Q : Option Value → Me → Prop} (a0 : Int32)  (h : Q (some (.int (fpJ6_bitCount_0f7a4 a0))) M) : EvM g mtJ6_bitCount_0f7a4 0 0 [.int a0] M Q := by
  refine evm_ofF [some (.int a0)] 0 (by decide +kernel) (Nat.le_of_ble_eq_true rfl) rfl ?_
  refine e_iload_n dJ6_bitCount_0f7a4_0 rfl ?_
  refine e_iload_n dJ6_bitCount_0f7a4_1 rfl ?_
  refine e_iconst (1 : Int32) dJ6_bitCount_0f7a4_2 (by decide) ?_
  refine e_iushr dJ6_bitCount_0f7a4_3 ?_
  refine e_ldcw wk_RJ6_265 dJ6_bitCount_0f7a4_4 ?_
  refine e_iand dJ6_bitCount_0f7a4_7 ?_
  refine e_isub dJ6_bitCount_0f7a4_8 ?_
  refine e_istore_n dJ6_bitCount_0f7a4_9 (by decide) rfl ?_
  refine e_iload_n dJ6_bitCount_0f7a4_10 rfl ?_
  refine e_ldcw wk_RJ6_266 dJ6_bitCount_0f7a4_11 ?_
  refine e_iand dJ6_bitCount_0f7a4_14 ?_
  refine e_iload_n dJ6_bitCount_0f7a4_15 rfl ?_
  refine e_iconst (2 : Int32) dJ6_bitCount_0f7a4_16 (by decide) ?_
  refine e_iushr dJ6_bitCount_0f7a4_17 ?_
  refine e_ldcw wk_RJ6_266 dJ6_bitCount_0f7a4_18 ?_
  refine e_iand dJ6_bitCount_0f7a4_21 ?_
  refine e_iadd dJ6_bitCount_0f7a4_22 ?_
  refine e_istore_n dJ6_bitCount_0f7a4_23 (by decide) rfl ?_
  refine e_iload_n dJ6_bitCount_0f7a4_24 rfl ?_
  refine e_iload_n dJ6_bitCount_0f7a4_25 rfl ?_
  refine e_iconst (4 : Int32) dJ6_bitCount_0f7a4_26 (by decide) ?_
  refine e_iushr dJ6_bitCount_0f7a4_27 ?_
  refine e_iadd dJ6_bitCount_0f7a4_28 ?_
  refine e_ldcw wk_RJ6_267 dJ6_bitCount_0f7a4_29 ?_
  refine e_iand dJ6_bitCount_0f7a4_32 ?_
  refine e_istore_n dJ6_bitCount_0f7a4_33 (by decide) rfl ?_
  refine e_iload_n dJ6_bitCount_0f7a4_34 rfl ?_
  refine e_iload_n dJ6_bitCount_0f7a4_35 rfl ?_
  refine e_bipush (8 : Int32) dJ6_bitCount_0f7a4_36 (by decide) ?_
  refine e_iushr dJ6_bitCount_0f7a4_38 ?_
  refine e_iadd dJ6_bitCount_0f7a4_39 ?_
  refine e_istore_n dJ6_bitCount_0f7a4_40 (by decide) rfl ?_
  refine e_iload_n dJ6_bitCount_0f7a4_41 rfl ?_
  refine e_iload_n dJ6_bitCount_0f7a4_42 rfl ?_
  refine e_bipush (16 : Int32) dJ6_bitCount_0f7a4_43 (by decide) ?_
  refine e_iushr dJ6_bitCount_0f7a4_45 ?_
  refine e_iadd dJ6_bitCount_0f7a4_46 ?_
  refine e_istore_n dJ6_bitCount_0f7a4_47 (by decide) rfl ?_
  refine e_iload_n dJ6_bitCount_0f7a4_48 rfl ?_
  refine e_bipush (63 : Int32) dJ6_bitCount_0f7a4_49 (by decide) ?_
  refine e_iand dJ6_bitCount_0f7a4_51 ?_
  have e0 : fpJ6_bitCount_0f7a4 a0 = ((((((((a0 - ((jushr a0 (1 : Int32)) &&& (1431655765 : Int32))) &&& (858993459 : Int32)) + ((jushr (a0 - ((jushr a0 (1 : Int32)) &&& (1431655765 : Int32))) (2 : Int32)) &&& (858993459 : Int32))) + (jushr (((a0 - ((jushr a0 (1 : Int32)) &&& (1431655765 : Int32))) &&& (858993459 : Int32)) + ((jushr (a0 - ((jushr a0 (1 : Int32)) &&& (1431655765 : Int32))) (2 : Int32)) &&& (858993459 : Int32))) (4 : Int32))) &&& (252645135 : Int32)) + (jushr (((((a0 - ((jushr a0 (1 : Int32)) &&& (1431655765 : Int32))) &&& (858993459 : Int32)) + ((jushr (a0 - ((jushr a0 (1 : Int32)) &&& (1431655765 : Int32))) (2 : Int32)) &&& (858993459 : Int32))) + (jushr (((a0 - ((jushr a0 (1 : Int32)) &&& (1431655765 : Int32))) &&& (858993459 : Int32)) + ((jushr (a0 - ((jushr a0 (1 : Int32)) &&& (1431655765 : Int32))) (2 : Int32)) &&& (858993459 : Int32))) (4 : Int32))) &&& (252645135 : Int32)) (8 : Int32))) + (jushr ((((((a0 - ((jushr a0 (1 : Int32)) &&& (1431655765 : Int32))) &&& (858993459 : Int32)) + ((jushr (a0 - ((jushr a0 (1 : Int32)) &&& (1431655765 : Int32))) (2 : Int32)) &&& (858993459 : Int32))) + (jushr (((a0 - ((jushr a0 (1 : Int32)) &&& (1431655765 : Int32))) &&& (858993459 : Int32)) + ((jushr (a0 - ((jushr a0 (1 : Int32)) &&& (1431655765 : Int32))) (2 : Int32)) &&& (858993459 : Int32))) (4 : Int32))) &&& (252645135 : Int32)) + (jushr (((((a0 - ((jushr a0 (1 : Int32)) &&& (1431655765 : Int32))) &&& (858993459 : Int32)) + ((jushr (a0 - ((jushr a0 (1 : Int32)) &&& (1431655765 : Int32))) (2 : Int32)) &&& (858993459 : Int32))) + (jushr (((a0 - ((jushr a0 (1 : Int32)) &&& (1431655765 : Int32))) &&& (858993459 : Int32)) + ((jushr (a0 - ((jushr a0 (1 : Int32)) &&& (1431655765 : Int32))) (2 : Int32)) &&& (858993459 : Int32))) (4 : Int32))) &&& (252645135 : Int32)) (8 : Int32))) (16 : Int32))) &&& (63 : Int32)) := rfl
  rw [e0] at h
  exact e_iret rfl dJ6_bitCount_0f7a4_52 h
def fpX1_yieldsAt (a0 : Nat) (a1 : Int32) (a2 : Int32) (M : Me) : Int32 := (if (M.1 a0 0) = (2 : Int32) then (1 : Int32) else (if (M.1 a0 0) = (3 : Int32) then (fpJ9_max_7cf53 (0 : Int32) ((fpJ9_max_7cf53 (0 : Int32) ((M.1 a0 2) - a1)) - (M.1 a0 4))) else (if (M.1 a0 0) = (4 : Int32) then ((fpJ9_max_7cf53 (0 : Int32) ((M.1 a0 2) - a1)) / (2 : Int32)) else (if (M.1 a0 0) = (5 : Int32) then (if (9 : Int32) ≤ a2 then (fpJ9_max_7cf53 (0 : Int32) ((M.1 a0 2) - a1)) else ((fpJ9_max_7cf53 (0 : Int32) ((M.1 a0 2) - a1)) + (3 : Int32))) else (if (M.1 a0 0) = (6 : Int32) then (if a2 < (12 : Int32) then (fpJ9_max_7cf53 (0 : Int32) ((fpJ9_max_7cf53 (0 : Int32) ((M.1 a0 2) - a1)) - (M.1 a0 4))) else (0 : Int32)) else (fpJ9_max_7cf53 (0 : Int32) ((M.1 a0 2) - a1)))))))
set_option maxRecDepth 20000 in
theorem ctX1_yieldsAt {z : Zt} {M : Me} {Q : Option Value → Me → Prop} (a0 : Nat) (a1 : Int32) (a2 : Int32) (ha0 : Is (wX, z) a0 3) (h : Q (some (.int (fpX1_yieldsAt a0 a1 a2 M))) M) : EvM (wX, z) mtX1_yieldsAt 1 21 [.ref a0, .int a1, .int a2] M Q := by
  refine evm_of [some (.ref a0), some (.int a1), some (.int a2), none] 1 (by decide +kernel) (Nat.le_of_ble_eq_true rfl) rfl ?_
  refine e_iconst (0 : Int32) dX1_yieldsAt_0 (by decide) ?_
  refine e_aload_n dX1_yieldsAt_1 rfl ?_
  refine e_getI fa_RX1_18 ha0 dX1_yieldsAt_2 ?_
  refine e_iload_n dX1_yieldsAt_5 rfl ?_
  refine e_isub dX1_yieldsAt_6 ?_
  refine e_callS (f2 := 0) (l2 := 0) (ν := mtJ9_max_7cf53) (as := [.int (0 : Int32), .int ((M.1 a0 2) - a1)]) cs_RX1_31 ⟨Nat.le_of_ble_eq_true rfl, Nat.le_of_ble_eq_true rfl⟩ rfl rfl (Nat.le_of_ble_eq_true rfl) dX1_yieldsAt_7 ?_
  refine ctJ9_max_7cf53 (0 : Int32) ((M.1 a0 2) - a1) ?_
  show Ev (wX, z) mtX1_yieldsAt 1 21 10 [some (.ref a0), some (.int a1), some (.int a2), none] [.int (fpJ9_max_7cf53 (0 : Int32) ((M.1 a0 2) - a1))] M Q
  refine e_istore_n dX1_yieldsAt_10 (by decide) rfl ?_
  refine e_aload_n dX1_yieldsAt_11 rfl ?_
  refine e_getI fa_RX1_9 ha0 dX1_yieldsAt_12 ?_
  by_cases c1 : (M.1 a0 0) = (2 : Int32)
  · refine e_tswC (2 : Int32) 48 c1 dX1_yieldsAt_15 (by decide) (by decide) rfl (by decide) ?_
    refine e_iconst (1 : Int32) dX1_yieldsAt_48 (by decide) ?_
    have e0 : fpX1_yieldsAt a0 a1 a2 M = (1 : Int32) := by
      unfold fpX1_yieldsAt
      rw [if_pos c1]
    rw [e0] at h
    exact e_iret rfl dX1_yieldsAt_49 h
  · skip
    by_cases c2 : (M.1 a0 0) = (3 : Int32)
    · refine e_tswC (3 : Int32) 54 c2 dX1_yieldsAt_15 (by decide) (by decide) rfl (by decide) ?_
      refine e_iconst (0 : Int32) dX1_yieldsAt_54 (by decide) ?_
      refine e_iload_n dX1_yieldsAt_55 rfl ?_
      refine e_aload_n dX1_yieldsAt_56 rfl ?_
      refine e_getI fa_RX1_24 ha0 dX1_yieldsAt_57 ?_
      refine e_isub dX1_yieldsAt_60 ?_
      refine e_callS (f2 := 0) (l2 := 0) (ν := mtJ9_max_7cf53) (as := [.int (0 : Int32), .int ((fpJ9_max_7cf53 (0 : Int32) ((M.1 a0 2) - a1)) - (M.1 a0 4))]) cs_RX1_31 ⟨Nat.le_of_ble_eq_true rfl, Nat.le_of_ble_eq_true rfl⟩ rfl rfl (Nat.le_of_ble_eq_true rfl) dX1_yieldsAt_61 ?_
      refine ctJ9_max_7cf53 (0 : Int32) ((fpJ9_max_7cf53 (0 : Int32) ((M.1 a0 2) - a1)) - (M.1 a0 4)) ?_
      show Ev (wX, z) mtX1_yieldsAt 1 21 64 [some (.ref a0), some (.int a1), some (.int a2), some (.int (fpJ9_max_7cf53 (0 : Int32) ((M.1 a0 2) - a1)))] [.int (fpJ9_max_7cf53 (0 : Int32) ((fpJ9_max_7cf53 (0 : Int32) ((M.1 a0 2) - a1)) - (M.1 a0 4)))] M Q
      have e0 : fpX1_yieldsAt a0 a1 a2 M = (fpJ9_max_7cf53 (0 : Int32) ((fpJ9_max_7cf53 (0 : Int32) ((M.1 a0 2) - a1)) - (M.1 a0 4))) := by
        unfold fpX1_yieldsAt
        rw [if_neg c1, if_pos c2]
      rw [e0] at h
      exact e_iret rfl dX1_yieldsAt_64 h
    · skip
      by_cases c3 : (M.1 a0 0) = (4 : Int32)
      · refine e_tswC (4 : Int32) 50 c3 dX1_yieldsAt_15 (by decide) (by decide) rfl (by decide) ?_
        refine e_iload_n dX1_yieldsAt_50 rfl ?_
        refine e_iconst (2 : Int32) dX1_yieldsAt_51 (by decide) ?_
        refine e_idiv dX1_yieldsAt_52 (by decide) ?_
        have e0 : fpX1_yieldsAt a0 a1 a2 M = ((fpJ9_max_7cf53 (0 : Int32) ((M.1 a0 2) - a1)) / (2 : Int32)) := by
          unfold fpX1_yieldsAt
          rw [if_neg c1, if_neg c2, if_pos c3]
        rw [e0] at h
        exact e_iret rfl dX1_yieldsAt_53 h
      · skip
        by_cases c4 : (M.1 a0 0) = (5 : Int32)
        · refine e_tswC (5 : Int32) 86 c4 dX1_yieldsAt_15 (by decide) (by decide) rfl (by decide) ?_
          refine e_iload_n dX1_yieldsAt_86 rfl ?_
          refine e_bipush (9 : Int32) dX1_yieldsAt_87 (by decide) ?_
          refine e_icmp_ge 98 dX1_yieldsAt_89 (by decide) (fun c5 => ?_) (fun c5 => ?_)
          · refine e_iload_n dX1_yieldsAt_98 rfl ?_
            have e0 : fpX1_yieldsAt a0 a1 a2 M = (fpJ9_max_7cf53 (0 : Int32) ((M.1 a0 2) - a1)) := by
              unfold fpX1_yieldsAt
              rw [if_neg c1, if_neg c2, if_neg c3, if_pos c4, if_pos c5]
            rw [e0] at h
            exact e_iret rfl dX1_yieldsAt_99 h
          · refine e_iload_n dX1_yieldsAt_92 rfl ?_
            refine e_iconst (3 : Int32) dX1_yieldsAt_93 (by decide) ?_
            refine e_iadd dX1_yieldsAt_94 ?_
            refine e_goto 99 dX1_yieldsAt_95 (by decide) ?_
            have e0 : fpX1_yieldsAt a0 a1 a2 M = ((fpJ9_max_7cf53 (0 : Int32) ((M.1 a0 2) - a1)) + (3 : Int32)) := by
              unfold fpX1_yieldsAt
              rw [if_neg c1, if_neg c2, if_neg c3, if_pos c4, if_neg c5]
            rw [e0] at h
            exact e_iret rfl dX1_yieldsAt_99 h
        · skip
          by_cases c6 : (M.1 a0 0) = (6 : Int32)
          · refine e_tswC (6 : Int32) 65 c6 dX1_yieldsAt_15 (by decide) (by decide) rfl (by decide) ?_
            refine e_iload_n dX1_yieldsAt_65 rfl ?_
            refine e_bipush (12 : Int32) dX1_yieldsAt_66 (by decide) ?_
            refine e_icmp_lt 75 dX1_yieldsAt_68 (by decide) (fun c7 => ?_) (fun c7 => ?_)
            · refine e_iconst (0 : Int32) dX1_yieldsAt_75 (by decide) ?_
              refine e_iload_n dX1_yieldsAt_76 rfl ?_
              refine e_aload_n dX1_yieldsAt_77 rfl ?_
              refine e_getI fa_RX1_24 ha0 dX1_yieldsAt_78 ?_
              refine e_isub dX1_yieldsAt_81 ?_
              refine e_callS (f2 := 0) (l2 := 0) (ν := mtJ9_max_7cf53) (as := [.int (0 : Int32), .int ((fpJ9_max_7cf53 (0 : Int32) ((M.1 a0 2) - a1)) - (M.1 a0 4))]) cs_RX1_31 ⟨Nat.le_of_ble_eq_true rfl, Nat.le_of_ble_eq_true rfl⟩ rfl rfl (Nat.le_of_ble_eq_true rfl) dX1_yieldsAt_82 ?_
              refine ctJ9_max_7cf53 (0 : Int32) ((fpJ9_max_7cf53 (0 : Int32) ((M.1 a0 2) - a1)) - (M.1 a0 4)) ?_
              show Ev (wX, z) mtX1_yieldsAt 1 21 85 [some (.ref a0), some (.int a1), some (.int a2), some (.int (fpJ9_max_7cf53 (0 : Int32) ((M.1 a0 2) - a1)))] [.int (fpJ9_max_7cf53 (0 : Int32) ((fpJ9_max_7cf53 (0 : Int32) ((M.1 a0 2) - a1)) - (M.1 a0 4)))] M Q
              have e0 : fpX1_yieldsAt a0 a1 a2 M = (fpJ9_max_7cf53 (0 : Int32) ((fpJ9_max_7cf53 (0 : Int32) ((M.1 a0 2) - a1)) - (M.1 a0 4))) := by
                unfold fpX1_yieldsAt
                rw [if_neg c1, if_neg c2, if_neg c3, if_neg c4, if_pos c6, if_pos c7]
              rw [e0] at h
              exact e_iret rfl dX1_yieldsAt_85 h
            · refine e_iconst (0 : Int32) dX1_yieldsAt_71 (by decide) ?_
              refine e_goto 85 dX1_yieldsAt_72 (by decide) ?_
              have e0 : fpX1_yieldsAt a0 a1 a2 M = (0 : Int32) := by
                unfold fpX1_yieldsAt
                rw [if_neg c1, if_neg c2, if_neg c3, if_neg c4, if_pos c6, if_neg c7]
              rw [e0] at h
              exact e_iret rfl dX1_yieldsAt_85 h
          · skip
            refine e_tswD 100 dX1_yieldsAt_15 (by have q0 := lv_neT (a := 2) c1 rfl; have q1 := lv_neT (a := 3) c2 rfl; have q2 := lv_neT (a := 4) c3 rfl; have q3 := lv_neT (a := 5) c4 rfl; have q4 := lv_neT (a := 6) c6 rfl; omega) (by decide) ?_
            refine e_iload_n dX1_yieldsAt_100 rfl ?_
            have e0 : fpX1_yieldsAt a0 a1 a2 M = (fpJ9_max_7cf53 (0 : Int32) ((M.1 a0 2) - a1)) := by
              unfold fpX1_yieldsAt
              rw [if_neg c1, if_neg c2, if_neg c3, if_neg c4, if_neg c6]
            rw [e0] at h
            exact e_iret rfl dX1_yieldsAt_101 h
def fpX1_needsFor (a0 : Nat) (a1 : Int32) (M : Me) : Int32 := (if (M.1 a0 0) = (1 : Int32) then ((a1 + (1 : Int32)) / (2 : Int32)) else (if (M.1 a0 0) = (2 : Int32) then (0 : Int32) else (if (M.1 a0 0) = (4 : Int32) then ((a1 + (1 : Int32)) / (2 : Int32)) else (if (M.1 a0 0) = (6 : Int32) then (((a1 + (2 : Int32)) / (3 : Int32)) + (1 : Int32)) else ((a1 + (2 : Int32)) / (3 : Int32))))))
set_option maxRecDepth 20000 in
theorem ctX1_needsFor {z : Zt} {M : Me} {Q : Option Value → Me → Prop} (a0 : Nat) (a1 : Int32) (ha0 : Is (wX, z) a0 3) (h : Q (some (.int (fpX1_needsFor a0 a1 M))) M) : EvM (wX, z) mtX1_needsFor 0 0 [.ref a0, .int a1] M Q := by
  refine evm_of [some (.ref a0), some (.int a1)] 0 (by decide +kernel) (Nat.le_of_ble_eq_true rfl) rfl ?_
  refine e_aload_n dX1_needsFor_0 rfl ?_
  refine e_getI fa_RX1_9 ha0 dX1_needsFor_1 ?_
  by_cases c1 : (M.1 a0 0) = (1 : Int32)
  · refine e_tswC (1 : Int32) 46 c1 dX1_needsFor_4 (by decide) (by decide) rfl (by decide) ?_
    refine e_iload_n dX1_needsFor_46 rfl ?_
    refine e_iconst (1 : Int32) dX1_needsFor_47 (by decide) ?_
    refine e_iadd dX1_needsFor_48 ?_
    refine e_iconst (2 : Int32) dX1_needsFor_49 (by decide) ?_
    refine e_idiv dX1_needsFor_50 (by decide) ?_
    have e0 : fpX1_needsFor a0 a1 M = ((a1 + (1 : Int32)) / (2 : Int32)) := by
      unfold fpX1_needsFor
      rw [if_pos c1]
    rw [e0] at h
    exact e_iret rfl dX1_needsFor_51 h
  · skip
    by_cases c2 : (M.1 a0 0) = (2 : Int32)
    · refine e_tswC (2 : Int32) 44 c2 dX1_needsFor_4 (by decide) (by decide) rfl (by decide) ?_
      refine e_iconst (0 : Int32) dX1_needsFor_44 (by decide) ?_
      have e0 : fpX1_needsFor a0 a1 M = (0 : Int32) := by
        unfold fpX1_needsFor
        rw [if_neg c1, if_pos c2]
      rw [e0] at h
      exact e_iret rfl dX1_needsFor_45 h
    · skip
      by_cases c3 : (M.1 a0 0) = (4 : Int32)
      · refine e_tswC (4 : Int32) 46 c3 dX1_needsFor_4 (by decide) (by decide) rfl (by decide) ?_
        refine e_iload_n dX1_needsFor_46 rfl ?_
        refine e_iconst (1 : Int32) dX1_needsFor_47 (by decide) ?_
        refine e_iadd dX1_needsFor_48 ?_
        refine e_iconst (2 : Int32) dX1_needsFor_49 (by decide) ?_
        refine e_idiv dX1_needsFor_50 (by decide) ?_
        have e0 : fpX1_needsFor a0 a1 M = ((a1 + (1 : Int32)) / (2 : Int32)) := by
          unfold fpX1_needsFor
          rw [if_neg c1, if_neg c2, if_pos c3]
        rw [e0] at h
        exact e_iret rfl dX1_needsFor_51 h
      · skip
        by_cases c4 : (M.1 a0 0) = (6 : Int32)
        · refine e_tswC (6 : Int32) 52 c4 dX1_needsFor_4 (by decide) (by decide) rfl (by decide) ?_
          refine e_iload_n dX1_needsFor_52 rfl ?_
          refine e_iconst (2 : Int32) dX1_needsFor_53 (by decide) ?_
          refine e_iadd dX1_needsFor_54 ?_
          refine e_iconst (3 : Int32) dX1_needsFor_55 (by decide) ?_
          refine e_idiv dX1_needsFor_56 (by decide) ?_
          refine e_iconst (1 : Int32) dX1_needsFor_57 (by decide) ?_
          refine e_iadd dX1_needsFor_58 ?_
          have e0 : fpX1_needsFor a0 a1 M = (((a1 + (2 : Int32)) / (3 : Int32)) + (1 : Int32)) := by
            unfold fpX1_needsFor
            rw [if_neg c1, if_neg c2, if_neg c3, if_pos c4]
          rw [e0] at h
          exact e_iret rfl dX1_needsFor_59 h
        · skip
          have kd : Ev (wX, z) mtX1_needsFor 0 0 60 [some (.ref a0), some (.int a1)] [] M Q := by
            refine e_iload_n dX1_needsFor_60 rfl ?_
            refine e_iconst (2 : Int32) dX1_needsFor_61 (by decide) ?_
            refine e_iadd dX1_needsFor_62 ?_
            refine e_iconst (3 : Int32) dX1_needsFor_63 (by decide) ?_
            refine e_idiv dX1_needsFor_64 (by decide) ?_
            have e0 : fpX1_needsFor a0 a1 M = ((a1 + (2 : Int32)) / (3 : Int32)) := by
              unfold fpX1_needsFor
              rw [if_neg c1, if_neg c2, if_neg c3, if_neg c4]
            rw [e0] at h
            exact e_iret rfl dX1_needsFor_65 h
          by_cases c5 : (M.1 a0 0) = (3 : Int32)
          · exact e_tswC (3 : Int32) 60 c5 dX1_needsFor_4 (by decide) (by decide) rfl (by decide) kd
          by_cases c6 : (M.1 a0 0) = (5 : Int32)
          · exact e_tswC (5 : Int32) 60 c6 dX1_needsFor_4 (by decide) (by decide) rfl (by decide) kd
          exact e_tswD 60 dX1_needsFor_4 (by have q0 := lv_neT (a := 1) c1 rfl; have q1 := lv_neT (a := 2) c2 rfl; have q2 := lv_neT (a := 4) c3 rfl; have q3 := lv_neT (a := 6) c4 rfl; have q4 := lv_neT (a := 3) c5 rfl; have q5 := lv_neT (a := 5) c6 rfl; omega) (by decide) kd
def fpX5_spiltBetween (a0 : Int32) (a1 : Int32) (a2 : Int32) : Option (Int32) := (if a2 = 0 then
 some (0 : Int32)
 else
 dvz a2 <|
 some ((fpJ9_abs_0f7a4 (a0 - a1)) / a2))
set_option maxRecDepth 20000 in
theorem ctX5_spiltBetween {z : Zt} {M : Me} {Q : Option Value → Me → Prop} (a0 : Int32) (a1 : Int32) (a2 : Int32)  (h : ok (fpX5_spiltBetween a0 a1 a2) (fun a => Q (some (.int a)) M)) : EvM (wX, z) mtX5_spiltBetween 1 20 [.int a0, .int a1, .int a2] M Q := by
  refine evm_of [some (.int a0), some (.int a1), some (.int a2)] 0 (by decide +kernel) (Nat.le_of_ble_eq_true rfl) rfl ?_
  unfold fpX5_spiltBetween at h
  refine e_iload_n dX5_spiltBetween_0 rfl ?_
  refine e_if_ne 8 dX5_spiltBetween_1 (by decide) (fun c2 => ?_) (fun c2 => ?_)
  · have h := ok_f c2 h
    refine e_iload_n dX5_spiltBetween_8 rfl ?_
    refine e_iload_n dX5_spiltBetween_9 rfl ?_
    refine e_isub dX5_spiltBetween_10 ?_
    refine e_callS (f2 := 0) (l2 := 0) (ν := mtJ9_abs_0f7a4) (as := [.int (a0 - a1)]) cs_RX5_154 ⟨Nat.le_of_ble_eq_true rfl, Nat.le_of_ble_eq_true rfl⟩ rfl rfl (Nat.le_of_ble_eq_true rfl) dX5_spiltBetween_11 ?_
    refine ctJ9_abs_0f7a4 (a0 - a1) ?_
    show Ev (wX, z) mtX5_spiltBetween 1 20 14 [some (.int a0), some (.int a1), some (.int a2)] [.int (fpJ9_abs_0f7a4 (a0 - a1))] M Q
    refine e_iload_n dX5_spiltBetween_14 rfl ?_
    obtain ⟨z3, h⟩ := ok_dvz h
    refine e_idiv dX5_spiltBetween_15 z3 ?_
    have h := ok_some h
    exact e_iret rfl dX5_spiltBetween_16 h
  · have h := ok_t c2 h
    refine e_iconst (0 : Int32) dX5_spiltBetween_4 (by decide) ?_
    refine e_goto 16 dX5_spiltBetween_5 (by decide) ?_
    have h := ok_some h
    exact e_iret rfl dX5_spiltBetween_16 h
def XX0_measure_2 (z : Zt) (Q : Option Value → Me → Prop) : (Me) → Prop := fun t => Ev (wX, z) mtX0_measure 2 42 58 [none, none, none] [] t Q
def EX0_measure_2 (z : Zt) (Q : Option Value → Me → Prop) : (Int32 × Me) → Prop := fun s => Ev (wX, z) mtX0_measure 2 42 2 [some (.ref 46), some (.int s.1), none] [] s.2 Q
def GX0_measure_2 (z : Zt) (Q : Option Value → Me → Prop) : (Int32 × Me) ⊕ (Me) → Prop := Sum.elim (EX0_measure_2 z Q) (XX0_measure_2 z Q)
def XX0_measure_10 (z : Zt) (a1 : Int32) (Q : Option Value → Me → Prop) : (Me) → Prop := fun t => Ev (wX, z) mtX0_measure 2 42 52 [some (.ref 46), some (.int a1), none] [] t Q
def EX0_measure_10 (z : Zt) (a1 : Int32) (Q : Option Value → Me → Prop) : (Int32 × Me) → Prop := fun s => Ev (wX, z) mtX0_measure 2 42 10 [some (.ref 46), some (.int a1), some (.int s.1)] [] s.2 Q
def GX0_measure_10 (z : Zt) (a1 : Int32) (Q : Option Value → Me → Prop) : (Int32 × Me) ⊕ (Me) → Prop := Sum.elim (EX0_measure_10 z a1 Q) (XX0_measure_10 z a1 Q)
def fpX0_measure_l10s (a1 : Int32) (a2 : Int32) (M : Me) : Option ((Int32 × Me) ⊕ (Me)) := (if (10 : Int32) ≤ a2 then
 some (.inr M)
 else
 (inb a1 10).bind fun k3 =>
 (inb a2 10).bind fun k4 =>
 (fpX5_spiltBetween (M.1 48 k3) (M.1 48 k4) (M.1 46 5)).bind fun v5 =>
 (inb ((a1 * (10 : Int32)) + a2) 100).bind fun k6 =>
 letv (wrM M 49 k6 v5) fun M7 =>
 letv (a2 + (1 : Int32)) fun v8 =>
 some (.inl (v8, M7)))
def fpX0_measure_l10 (a1 : Int32) (s : Int32 × Me) : Option ((Int32 × Me) ⊕ (Me)) := fpX0_measure_l10s a1 s.1 s.2
set_option maxRecDepth 20000 in
theorem ebX0_measure_l10s {z : Zt} {Q : Option Value → Me → Prop} (a1 : Int32) (a2 : Int32) (M : Me) (h : ok (fpX0_measure_l10s a1 a2 M) (GX0_measure_10 z a1 Q)) : Ev (wX, z) mtX0_measure 2 42 10 [some (.ref 46), some (.int a1), some (.int a2)] [] M Q := by
  unfold fpX0_measure_l10s at h
  refine e_iload_n dX0_measure_10 rfl ?_
  refine e_bipush (10 : Int32) dX0_measure_11 (by decide) ?_
  refine e_icmp_ge 52 dX0_measure_13 (by decide) (fun c2 => ?_) (fun c2 => ?_)
  · have h := ok_t c2 h
    refine e_forget [some (.ref 46), some (.int a1), none] (leL_s (leL_s (leL_n leL_0))) ?_
    have h := ok_some h
    exact h
  · have h := ok_f c2 h
    refine e_aload_n dX0_measure_16 rfl ?_
    refine e_getR fa_RX0_34 is_X46 rfl dX0_measure_17 ?_
    refine e_iload_n dX0_measure_20 rfl ?_
    refine e_bipush (10 : Int32) dX0_measure_21 (by decide) ?_
    refine e_imul dX0_measure_23 ?_
    refine e_iload_n dX0_measure_24 rfl ?_
    refine e_iadd dX0_measure_25 ?_
    refine e_aload_n dX0_measure_26 rfl ?_
    refine e_getR fa_RX0_31 is_X46 rfl dX0_measure_27 ?_
    refine e_iload_n dX0_measure_30 rfl ?_
    refine ok_inb h (fun k3 ek3 ik3 h => ?_)
    refine e_ialdK ia_X48 ik3 ek3 dX0_measure_31 ?_
    refine e_aload_n dX0_measure_32 rfl ?_
    refine e_getR fa_RX0_31 is_X46 rfl dX0_measure_33 ?_
    refine e_iload_n dX0_measure_36 rfl ?_
    refine ok_inb h (fun k4 ek4 ik4 h => ?_)
    refine e_ialdK ia_X48 ik4 ek4 dX0_measure_37 ?_
    refine e_aload_n dX0_measure_38 rfl ?_
    refine e_getI fa_RX0_28 is_X46 dX0_measure_39 ?_
    refine e_callN (f2 := 1) (l2 := 20) (ν := mtX5_spiltBetween) (as := [.int (M.1 48 k3), .int (M.1 48 k4), .int (M.1 46 5)]) cn_RX0_89 ⟨Nat.le_of_ble_eq_true rfl, Nat.le_of_ble_eq_true rfl⟩ rfl rfl (Nat.le_of_ble_eq_true rfl) dX0_measure_42 ?_
    refine ctX5_spiltBetween (M.1 48 k3) (M.1 48 k4) (M.1 46 5) (ok_bnd h (fun v5 h => ?_))
    show Ev (wX, z) mtX0_measure 2 42 45 [some (.ref 46), some (.int a1), some (.int a2)] [.int v5, .int ((a1 * (10 : Int32)) + a2), .ref 49] M Q
    refine ok_inb h (fun k6 ek6 ik6 h => ?_)
    refine e_iastK ia_X49 ik6 ek6 dX0_measure_45 ?_
    refine lv1 (P := fun M7 => Ev (wX, z) mtX0_measure 2 42 46 [some (.ref 46), some (.int a1), some (.int a2)] [] M7 Q) h (fun M7 h => ?_)
    refine lv1e h (fun v8 ev8 h => ?_)
    refine e_iinc v8 dX0_measure_46 rfl ev8 (by decide) rfl ?_
    refine e_goto 10 dX0_measure_49 (by decide) ?_
    refine e_forget [some (.ref 46), some (.int a1), some (.int v8)] (leL_s (leL_s (leL_s leL_0))) ?_
    have h := ok_some h
    exact h
theorem elX0_measure_l10 {z : Zt} {Q : Option Value → Me → Prop} (a1 : Int32) (N : Nat) (s : Int32 × Me) (h : ok (lp (fpX0_measure_l10 a1) N s) (XX0_measure_10 z a1 Q)) : EX0_measure_10 z a1 Q s :=
  lp_ind (fun s h => ebX0_measure_l10s a1 s.1 s.2 h) N s h
def fpX0_measure_l2s (a1 : Int32) (M : Me) : Option ((Int32 × Me) ⊕ (Me)) := (if (10 : Int32) ≤ a1 then
 some (.inr M)
 else
 (lp (fpX0_measure_l10 a1) FU ((0 : Int32), M)).bind fun r9 =>
 letv (a1 + (1 : Int32)) fun v10 =>
 some (.inl (v10, r9)))
def fpX0_measure_l2 (s : Int32 × Me) : Option ((Int32 × Me) ⊕ (Me)) := fpX0_measure_l2s s.1 s.2
set_option maxRecDepth 20000 in
theorem ebX0_measure_l2s {z : Zt} {Q : Option Value → Me → Prop} (a1 : Int32) (M : Me) (h : ok (fpX0_measure_l2s a1 M) (GX0_measure_2 z Q)) : Ev (wX, z) mtX0_measure 2 42 2 [some (.ref 46), some (.int a1), none] [] M Q := by
  unfold fpX0_measure_l2s at h
  refine e_iload_n dX0_measure_2 rfl ?_
  refine e_bipush (10 : Int32) dX0_measure_3 (by decide) ?_
  refine e_icmp_ge 58 dX0_measure_5 (by decide) (fun c1 => ?_) (fun c1 => ?_)
  · have h := ok_t c1 h
    refine e_forget [none, none, none] (leL_n (leL_n (leL_n leL_0))) ?_
    have h := ok_some h
    exact h
  · have h := ok_f c1 h
    refine e_iconst (0 : Int32) dX0_measure_8 (by decide) ?_
    refine e_istore_n dX0_measure_9 (by decide) rfl ?_
    refine e_forget [some (.ref 46), some (.int a1), some (.int (0 : Int32))] (leL_s (leL_s (leL_s leL_0))) ?_
    refine elX0_measure_l10 a1 FU ((0 : Int32), M) (ok_bnd h (fun r9 h => ?_))
    show Ev (wX, z) mtX0_measure 2 42 52 [some (.ref 46), some (.int a1), none] [] r9 Q
    refine lv1e h (fun v10 ev10 h => ?_)
    refine e_iinc v10 dX0_measure_52 rfl ev10 (by decide) rfl ?_
    refine e_goto 2 dX0_measure_55 (by decide) ?_
    refine e_forget [some (.ref 46), some (.int v10), none] (leL_s (leL_s (leL_n leL_0))) ?_
    have h := ok_some h
    exact h
theorem elX0_measure_l2 {z : Zt} {Q : Option Value → Me → Prop} (N : Nat) (s : Int32 × Me) (h : ok (lp (fpX0_measure_l2) N s) (XX0_measure_2 z Q)) : EX0_measure_2 z Q s :=
  lp_ind (fun s h => ebX0_measure_l2s s.1 s.2 h) N s h
def fpX0_measure  (M : Me) : Option (Me) := (lp (fpX0_measure_l2) FU ((0 : Int32), M)).bind fun r11 =>
 some r11
set_option maxRecDepth 20000 in
theorem ctX0_measure {z : Zt} {M : Me} {Q : Option Value → Me → Prop}   (h : ok (fpX0_measure M) (fun a => Q none a)) : EvM (wX, z) mtX0_measure 2 42 [.ref 46] M Q := by
  refine evm_of [some (.ref 46), none, none] 2 (by decide +kernel) (Nat.le_of_ble_eq_true rfl) rfl ?_
  unfold fpX0_measure at h
  refine e_iconst (0 : Int32) dX0_measure_0 (by decide) ?_
  refine e_istore_n dX0_measure_1 (by decide) rfl ?_
  refine e_forget [some (.ref 46), some (.int (0 : Int32)), none] (leL_s (leL_s (leL_n leL_0))) ?_
  refine elX0_measure_l2 FU ((0 : Int32), M) (ok_bnd h (fun r11 h => ?_))
  show Ev (wX, z) mtX0_measure 2 42 58 [none, none, none] [] r11 Q
  have h := ok_some h
  exact e_vret rfl dX0_measure_58 h
def XX0_lay_23 (z : Zt) (a1 : Nat) (a2 : Int32) (Q : Option Value → Me → Prop) : (Me) → Prop := fun t => Ev (wX, z) mtX0_lay 3 64 129 [some (.ref 46), some (.ref a1), none, none, none] [] t Q
def EX0_lay_23 (z : Zt) (a1 : Nat) (a2 : Int32) (Q : Option Value → Me → Prop) : (Int32 × Me) → Prop := fun s => Ev (wX, z) mtX0_lay 3 64 23 [some (.ref 46), some (.ref a1), some (.int a2), some (.int s.1), none] [] s.2 Q
def GX0_lay_23 (z : Zt) (a1 : Nat) (a2 : Int32) (Q : Option Value → Me → Prop) : (Int32 × Me) ⊕ (Me) → Prop := Sum.elim (EX0_lay_23 z a1 a2 Q) (XX0_lay_23 z a1 a2 Q)
def fpX0_lay_l23s (a1 : Nat) (a2 : Int32) (a3 : Int32) (M : Me) : Option ((Int32 × Me) ⊕ (Me)) := (if (M.1 46 2) ≤ a3 then
 some (.inr M)
 else
 (inb a3 8).bind fun k5 =>
 (inb a3 10).bind fun k6 =>
 letv (wrM M 48 k6 (M.1 (a1 + 3 + k5) 1)) fun M7 =>
 letv (wrM M7 51 k5 (fpX1_yieldsAt (a1 + 3 + k5) a2 (M7.1 a1 9) M7)) fun M8 =>
 letv (wrM M8 50 k5 (fpX1_needsFor (a1 + 3 + k5) (M8.1 51 k5) M8)) fun M9 =>
 letv (wrM M9 52 k5 (M9.1 (a1 + 3 + k5) 3)) fun M10 =>
 (if (M10.1 (a1 + 3 + k5) 5) = 0 then
 (if (M10.1 51 k5) ≤ 0 then
 letv (a3 + (1 : Int32)) fun v14 =>
 some (.inl (v14, M10))
 else
 letv (wrM M10 46 3 ((M10.1 46 3) ||| ((1 : Int32) <<< (a3 &&& 31)))) fun M15 =>
 letv (a3 + (1 : Int32)) fun v16 =>
 some (.inl (v16, M15)))
 else
 letv (a3 + (1 : Int32)) fun v12 =>
 some (.inl (v12, M10))))
def fpX0_lay_l23 (a1 : Nat) (a2 : Int32) (s : Int32 × Me) : Option ((Int32 × Me) ⊕ (Me)) := fpX0_lay_l23s a1 a2 s.1 s.2
set_option maxRecDepth 20000 in
theorem ebX0_lay_l23s {z : Zt} {Q : Option Value → Me → Prop} (a1 : Nat) (a2 : Int32) (ha1 : Is (wX, z) a1 2) (a3 : Int32) (M : Me) (h : ok (fpX0_lay_l23s a1 a2 a3 M) (GX0_lay_23 z a1 a2 Q)) : Ev (wX, z) mtX0_lay 3 64 23 [some (.ref 46), some (.ref a1), some (.int a2), some (.int a3), none] [] M Q := by
  unfold fpX0_lay_l23s at h
  refine e_iload_n dX0_lay_23 rfl ?_
  refine e_aload_n dX0_lay_24 rfl ?_
  refine e_getI fa_RX0_19 is_X46 dX0_lay_25 ?_
  refine e_icmp_ge 129 dX0_lay_28 (by decide) (fun c4 => ?_) (fun c4 => ?_)
  · have h := ok_t c4 h
    refine e_forget [some (.ref 46), some (.ref a1), none, none, none] (leL_s (leL_s (leL_n (leL_n (leL_n leL_0))))) ?_
    have h := ok_some h
    exact h
  · have h := ok_f c4 h
    refine e_aload_n dX0_lay_31 rfl ?_
    refine e_getR fa_RX0_58 ha1 rfl dX0_lay_32 ?_
    refine e_iload_n dX0_lay_35 rfl ?_
    refine ok_inb h (fun k5 ek5 ik5 h => ?_)
    refine e_aaldK (rd_pumps ha1) (r' := (a1 + 3 + k5)) (Or.inl rfl) ik5 ek5 (by omega) dX0_lay_36 ?_
    refine e_astore dX0_lay_37 (by decide) rfl ?_
    refine e_aload_n dX0_lay_39 rfl ?_
    refine e_getR fa_RX0_31 is_X46 rfl dX0_lay_40 ?_
    refine e_iload_n dX0_lay_43 rfl ?_
    refine e_aload dX0_lay_44 rfl ?_
    refine e_getI fa_RX0_61 (pm_is ha1 ik5 ek5) dX0_lay_46 ?_
    refine ok_inb h (fun k6 ek6 ik6 h => ?_)
    refine e_iastK ia_X48 ik6 ek6 dX0_lay_49 ?_
    refine lv1 (P := fun M7 => Ev (wX, z) mtX0_lay 3 64 50 [some (.ref 46), some (.ref a1), some (.int a2), some (.int a3), some (.ref (a1 + 3 + k5))] [] M7 Q) h (fun M7 h => ?_)
    refine e_aload_n dX0_lay_50 rfl ?_
    refine e_getR fa_RX0_40 is_X46 rfl dX0_lay_51 ?_
    refine e_iload_n dX0_lay_54 rfl ?_
    refine e_aload dX0_lay_55 rfl ?_
    refine e_iload_n dX0_lay_57 rfl ?_
    refine e_aload_n dX0_lay_58 rfl ?_
    refine e_getI fa_RX0_65 ha1 dX0_lay_59 ?_
    refine e_callV (f2 := 1) (l2 := 21) (ν := mtX1_yieldsAt) (as := [.int a2, .int (M7.1 a1 9)]) cv_RX0_68 (pm_is ha1 ik5 ek5) kc_3 ⟨Nat.le_of_ble_eq_true rfl, Nat.le_of_ble_eq_true rfl⟩ rfl rfl (Nat.le_of_ble_eq_true rfl) dX0_lay_62 ?_
    refine ctX1_yieldsAt (a1 + 3 + k5) a2 (M7.1 a1 9) (pm_is ha1 ik5 ek5) ?_
    show Ev (wX, z) mtX0_lay 3 64 65 [some (.ref 46), some (.ref a1), some (.int a2), some (.int a3), some (.ref (a1 + 3 + k5))] [.int (fpX1_yieldsAt (a1 + 3 + k5) a2 (M7.1 a1 9) M7), .int a3, .ref 51] M7 Q
    refine e_iastK ia_X51 ik5 ek5 dX0_lay_65 ?_
    refine lv1 (P := fun M8 => Ev (wX, z) mtX0_lay 3 64 66 [some (.ref 46), some (.ref a1), some (.int a2), some (.int a3), some (.ref (a1 + 3 + k5))] [] M8 Q) h (fun M8 h => ?_)
    refine e_aload_n dX0_lay_66 rfl ?_
    refine e_getR fa_RX0_37 is_X46 rfl dX0_lay_67 ?_
    refine e_iload_n dX0_lay_70 rfl ?_
    refine e_aload dX0_lay_71 rfl ?_
    refine e_aload_n dX0_lay_73 rfl ?_
    refine e_getR fa_RX0_40 is_X46 rfl dX0_lay_74 ?_
    refine e_iload_n dX0_lay_77 rfl ?_
    refine e_ialdK ia_X51 ik5 ek5 dX0_lay_78 ?_
    refine e_callV (f2 := 0) (l2 := 0) (ν := mtX1_needsFor) (as := [.int (M8.1 51 k5)]) cv_RX0_72 (pm_is ha1 ik5 ek5) kc_3 ⟨Nat.le_of_ble_eq_true rfl, Nat.le_of_ble_eq_true rfl⟩ rfl rfl (Nat.le_of_ble_eq_true rfl) dX0_lay_79 ?_
    refine ctX1_needsFor (a1 + 3 + k5) (M8.1 51 k5) (pm_is ha1 ik5 ek5) ?_
    show Ev (wX, z) mtX0_lay 3 64 82 [some (.ref 46), some (.ref a1), some (.int a2), some (.int a3), some (.ref (a1 + 3 + k5))] [.int (fpX1_needsFor (a1 + 3 + k5) (M8.1 51 k5) M8), .int a3, .ref 50] M8 Q
    refine e_iastK ia_X50 ik5 ek5 dX0_lay_82 ?_
    refine lv1 (P := fun M9 => Ev (wX, z) mtX0_lay 3 64 83 [some (.ref 46), some (.ref a1), some (.int a2), some (.int a3), some (.ref (a1 + 3 + k5))] [] M9 Q) h (fun M9 h => ?_)
    refine e_aload_n dX0_lay_83 rfl ?_
    refine e_getR fa_RX0_43 is_X46 rfl dX0_lay_84 ?_
    refine e_iload_n dX0_lay_87 rfl ?_
    refine e_aload dX0_lay_88 rfl ?_
    refine e_getI fa_RX0_76 (pm_is ha1 ik5 ek5) dX0_lay_90 ?_
    refine e_iastK ia_X52 ik5 ek5 dX0_lay_93 ?_
    refine lv1 (P := fun M10 => Ev (wX, z) mtX0_lay 3 64 94 [some (.ref 46), some (.ref a1), some (.int a2), some (.int a3), some (.ref (a1 + 3 + k5))] [] M10 Q) h (fun M10 h => ?_)
    refine e_aload dX0_lay_94 rfl ?_
    refine e_getI fa_RX0_78 (pm_is ha1 ik5 ek5) dX0_lay_96 ?_
    refine e_if_ne 123 dX0_lay_99 (by decide) (fun c11 => ?_) (fun c11 => ?_)
    · have h := ok_f c11 h
      refine lv1e h (fun v12 ev12 h => ?_)
      refine e_iinc v12 dX0_lay_123 rfl ev12 (by decide) rfl ?_
      refine e_goto 23 dX0_lay_126 (by decide) ?_
      refine e_forget [some (.ref 46), some (.ref a1), some (.int a2), some (.int v12), none] (leL_s (leL_s (leL_s (leL_s (leL_n leL_0))))) ?_
      have h := ok_some h
      exact h
    · have h := ok_t c11 h
      refine e_aload_n dX0_lay_102 rfl ?_
      refine e_getR fa_RX0_40 is_X46 rfl dX0_lay_103 ?_
      refine e_iload_n dX0_lay_106 rfl ?_
      refine e_ialdK ia_X51 ik5 ek5 dX0_lay_107 ?_
      refine e_if_le 123 dX0_lay_108 (by decide) (fun c13 => ?_) (fun c13 => ?_)
      · have h := ok_t c13 h
        refine lv1e h (fun v14 ev14 h => ?_)
        refine e_iinc v14 dX0_lay_123 rfl ev14 (by decide) rfl ?_
        refine e_goto 23 dX0_lay_126 (by decide) ?_
        refine e_forget [some (.ref 46), some (.ref a1), some (.int a2), some (.int v14), none] (leL_s (leL_s (leL_s (leL_s (leL_n leL_0))))) ?_
        have h := ok_some h
        exact h
      · have h := ok_f c13 h
        refine e_aload_n dX0_lay_111 rfl ?_
        refine e_dup dX0_lay_112 rfl ?_
        refine e_getI fa_RX0_22 is_X46 dX0_lay_113 ?_
        refine e_iconst (1 : Int32) dX0_lay_116 (by decide) ?_
        refine e_iload_n dX0_lay_117 rfl ?_
        refine e_ishl dX0_lay_118 ?_
        refine e_ior dX0_lay_119 ?_
        refine e_putI fw_RX0_22 is_X46 dX0_lay_120 ?_
        refine lv1 (P := fun M15 => Ev (wX, z) mtX0_lay 3 64 123 [some (.ref 46), some (.ref a1), some (.int a2), some (.int a3), some (.ref (a1 + 3 + k5))] [] M15 Q) h (fun M15 h => ?_)
        refine lv1e h (fun v16 ev16 h => ?_)
        refine e_iinc v16 dX0_lay_123 rfl ev16 (by decide) rfl ?_
        refine e_goto 23 dX0_lay_126 (by decide) ?_
        refine e_forget [some (.ref 46), some (.ref a1), some (.int a2), some (.int v16), none] (leL_s (leL_s (leL_s (leL_s (leL_n leL_0))))) ?_
        have h := ok_some h
        exact h
theorem elX0_lay_l23 {z : Zt} {Q : Option Value → Me → Prop} (a1 : Nat) (a2 : Int32) (ha1 : Is (wX, z) a1 2) (N : Nat) (s : Int32 × Me) (h : ok (lp (fpX0_lay_l23 a1 a2) N s) (XX0_lay_23 z a1 a2 Q)) : EX0_lay_23 z a1 a2 Q s :=
  lp_ind (fun s h => ebX0_lay_l23s a1 a2 ha1 s.1 s.2 h) N s h
def fpX0_lay (a1 : Nat) (a2 : Int32) (M : Me) : Option (Me) := letv (wrM M 46 2 (M.1 a1 2)) fun M1 =>
 letv (wrM M1 46 4 (M1.1 a1 6)) fun M2 =>
 letv (wrM M2 46 3 (0 : Int32)) fun M3 =>
 (lp (fpX0_lay_l23 a1 a2) FU ((0 : Int32), M3)).bind fun r17 =>
 letv (wrM r17 48 8 (r17.1 a1 3)) fun M18 =>
 letv (wrM M18 48 9 (0 : Int32)) fun M19 =>
 letv (wrM M19 46 5 (M19.1 a1 7)) fun M20 =>
 (fpX0_measure M20).bind fun q21 =>
 some q21
set_option maxRecDepth 20000 in
theorem ctX0_lay {z : Zt} {M : Me} {Q : Option Value → Me → Prop} (a1 : Nat) (a2 : Int32) (ha1 : Is (wX, z) a1 2) (h : ok (fpX0_lay a1 a2 M) (fun a => Q none a)) : EvM (wX, z) mtX0_lay 3 64 [.ref 46, .ref a1, .int a2] M Q := by
  refine evm_of [some (.ref 46), some (.ref a1), some (.int a2), none, none] 2 (by decide +kernel) (Nat.le_of_ble_eq_true rfl) rfl ?_
  unfold fpX0_lay at h
  refine e_aload_n dX0_lay_0 rfl ?_
  refine e_aload_n dX0_lay_1 rfl ?_
  refine e_getI fa_RX0_52 ha1 dX0_lay_2 ?_
  refine e_putI fw_RX0_19 is_X46 dX0_lay_5 ?_
  refine lv1 (P := fun M1 => Ev (wX, z) mtX0_lay 3 64 8 [some (.ref 46), some (.ref a1), some (.int a2), none, none] [] M1 Q) h (fun M1 h => ?_)
  refine e_aload_n dX0_lay_8 rfl ?_
  refine e_aload_n dX0_lay_9 rfl ?_
  refine e_getI fa_RX0_57 ha1 dX0_lay_10 ?_
  refine e_putI fw_RX0_25 is_X46 dX0_lay_13 ?_
  refine lv1 (P := fun M2 => Ev (wX, z) mtX0_lay 3 64 16 [some (.ref 46), some (.ref a1), some (.int a2), none, none] [] M2 Q) h (fun M2 h => ?_)
  refine e_aload_n dX0_lay_16 rfl ?_
  refine e_iconst (0 : Int32) dX0_lay_17 (by decide) ?_
  refine e_putI fw_RX0_22 is_X46 dX0_lay_18 ?_
  refine lv1 (P := fun M3 => Ev (wX, z) mtX0_lay 3 64 21 [some (.ref 46), some (.ref a1), some (.int a2), none, none] [] M3 Q) h (fun M3 h => ?_)
  refine e_iconst (0 : Int32) dX0_lay_21 (by decide) ?_
  refine e_istore_n dX0_lay_22 (by decide) rfl ?_
  refine e_forget [some (.ref 46), some (.ref a1), some (.int a2), some (.int (0 : Int32)), none] (leL_s (leL_s (leL_s (leL_s (leL_n leL_0))))) ?_
  refine elX0_lay_l23 a1 a2 ha1 FU ((0 : Int32), M3) (ok_bnd h (fun r17 h => ?_))
  show Ev (wX, z) mtX0_lay 3 64 129 [some (.ref 46), some (.ref a1), none, none, none] [] r17 Q
  refine e_aload_n dX0_lay_129 rfl ?_
  refine e_getR fa_RX0_31 is_X46 rfl dX0_lay_130 ?_
  refine e_bipush (8 : Int32) dX0_lay_133 (by decide) ?_
  refine e_aload_n dX0_lay_135 rfl ?_
  refine e_getI fa_RX0_82 ha1 dX0_lay_136 ?_
  refine e_iastK ia_X48 (by unfold vp_in; decide) (q := 8) (by decide) dX0_lay_139 ?_
  refine lv1 (P := fun M18 => Ev (wX, z) mtX0_lay 3 64 140 [some (.ref 46), some (.ref a1), none, none, none] [] M18 Q) h (fun M18 h => ?_)
  refine e_aload_n dX0_lay_140 rfl ?_
  refine e_getR fa_RX0_31 is_X46 rfl dX0_lay_141 ?_
  refine e_bipush (9 : Int32) dX0_lay_144 (by decide) ?_
  refine e_iconst (0 : Int32) dX0_lay_146 (by decide) ?_
  refine e_iastK ia_X48 (by unfold vp_in; decide) (q := 9) (by decide) dX0_lay_147 ?_
  refine lv1 (P := fun M19 => Ev (wX, z) mtX0_lay 3 64 148 [some (.ref 46), some (.ref a1), none, none, none] [] M19 Q) h (fun M19 h => ?_)
  refine e_aload_n dX0_lay_148 rfl ?_
  refine e_aload_n dX0_lay_149 rfl ?_
  refine e_getI fa_RX0_85 ha1 dX0_lay_150 ?_
  refine e_putI fw_RX0_28 is_X46 dX0_lay_153 ?_
  refine lv1 (P := fun M20 => Ev (wX, z) mtX0_lay 3 64 156 [some (.ref 46), some (.ref a1), none, none, none] [] M20 Q) h (fun M20 h => ?_)
  refine e_aload_n dX0_lay_156 rfl ?_
  refine e_callV (f2 := 2) (l2 := 42) (ν := mtX0_measure) (as := []) cv_RX0_86 is_X46 kc_6 ⟨Nat.le_of_ble_eq_true rfl, Nat.le_of_ble_eq_true rfl⟩ rfl rfl (Nat.le_of_ble_eq_true rfl) dX0_lay_157 ?_
  refine ctX0_measure (ok_bnd h (fun q21 h => ?_))
  show Ev (wX, z) mtX0_lay 3 64 160 [some (.ref 46), some (.ref a1), none, none, none] [] q21 Q
  have h := ok_some h
  exact e_vret rfl dX0_lay_160 h
def fpX0_isIn (a0 : Int32) (a1 : Int32) : Int32 := (if ((a1 >>> (a0 &&& 31)) &&& (1 : Int32)) = (1 : Int32) then (1 : Int32) else (0 : Int32))
theorem fpzX0_isIn (a0 : Int32) (a1 : Int32) : fpX0_isIn a0 a1 = 0 ∨ fpX0_isIn a0 a1 = 1 := by
  unfold fpX0_isIn
  (repeat' split) <;> first | exact Or.inl rfl | exact Or.inr rfl
set_option maxRecDepth 20000 in
theorem ctX0_isIn {z : Zt} {M : Me} {Q : Option Value → Me → Prop} (a0 : Int32) (a1 : Int32)  (h : Q (some (.int (fpX0_isIn a0 a1))) M) : EvM (wX, z) mtX0_isIn 0 0 [.int a0, .int a1] M Q := by
  refine evm_of [some (.int a0), some (.int a1)] 0 (by decide +kernel) (Nat.le_of_ble_eq_true rfl) rfl ?_
  refine e_iload_n dX0_isIn_0 rfl ?_
  refine e_iload_n dX0_isIn_1 rfl ?_
  refine e_ishr dX0_isIn_2 ?_
  refine e_iconst (1 : Int32) dX0_isIn_3 (by decide) ?_
  refine e_iand dX0_isIn_4 ?_
  refine e_iconst (1 : Int32) dX0_isIn_5 (by decide) ?_
  refine e_icmp_ne 13 dX0_isIn_6 (by decide) (fun c1 => ?_) (fun c1 => ?_)
  · refine e_iconst (0 : Int32) dX0_isIn_13 (by decide) ?_
    have e0 : fpX0_isIn a0 a1 = (0 : Int32) := by
      unfold fpX0_isIn
      rw [if_neg c1]
    rw [e0] at h
    exact e_zret rfl (Or.inl rfl) dX0_isIn_14 h
  · refine e_iconst (1 : Int32) dX0_isIn_9 (by decide) ?_
    refine e_goto 14 dX0_isIn_10 (by decide) ?_
    have e0 : fpX0_isIn a0 a1 = (1 : Int32) := by
      unfold fpX0_isIn
      rw [if_pos c1]
    rw [e0] at h
    exact e_zret rfl (Or.inr rfl) dX0_isIn_14 h
def fpX0_carried (a1 : Int32) (a2 : Int32) (a3 : Int32) (M : Me) : Option (Int32) := (inb ((a2 * (10 : Int32)) + a3) 100).bind fun k1 =>
 some (fpJ9_max_7cf53 (0 : Int32) (a1 - (M.1 49 k1)))
set_option maxRecDepth 20000 in
theorem ctX0_carried {z : Zt} {M : Me} {Q : Option Value → Me → Prop} (a1 : Int32) (a2 : Int32) (a3 : Int32)  (h : ok (fpX0_carried a1 a2 a3 M) (fun a => Q (some (.int a)) M)) : EvM (wX, z) mtX0_carried 1 21 [.ref 46, .int a1, .int a2, .int a3] M Q := by
  refine evm_of [some (.ref 46), some (.int a1), some (.int a2), some (.int a3)] 0 (by decide +kernel) (Nat.le_of_ble_eq_true rfl) rfl ?_
  unfold fpX0_carried at h
  refine e_iconst (0 : Int32) dX0_carried_0 (by decide) ?_
  refine e_iload_n dX0_carried_1 rfl ?_
  refine e_aload_n dX0_carried_2 rfl ?_
  refine e_getR fa_RX0_34 is_X46 rfl dX0_carried_3 ?_
  refine e_iload_n dX0_carried_6 rfl ?_
  refine e_bipush (10 : Int32) dX0_carried_7 (by decide) ?_
  refine e_imul dX0_carried_9 ?_
  refine e_iload_n dX0_carried_10 rfl ?_
  refine e_iadd dX0_carried_11 ?_
  refine ok_inb h (fun k1 ek1 ik1 h => ?_)
  refine e_ialdK ia_X49 ik1 ek1 dX0_carried_12 ?_
  refine e_isub dX0_carried_13 ?_
  refine e_callS (f2 := 0) (l2 := 0) (ν := mtJ9_max_7cf53) (as := [.int (0 : Int32), .int (a1 - (M.1 49 k1))]) cs_RX0_93 ⟨Nat.le_of_ble_eq_true rfl, Nat.le_of_ble_eq_true rfl⟩ rfl rfl (Nat.le_of_ble_eq_true rfl) dX0_carried_14 ?_
  refine ctJ9_max_7cf53 (0 : Int32) (a1 - (M.1 49 k1)) ?_
  show Ev (wX, z) mtX0_carried 1 21 17 [some (.ref 46), some (.int a1), some (.int a2), some (.int a3)] [.int (fpJ9_max_7cf53 (0 : Int32) (a1 - (M.1 49 k1)))] M Q
  have h := ok_some h
  exact e_iret rfl dX0_carried_17 h
def fpX0_ran (a1 : Int32) (a2 : Int32) (M : Me) : Option (Int32) := (if (fpX0_isIn a1 (M.1 46 3)) = 0 then
 some (-1 : Int32)
 else
 (inb a1 8).bind fun k3 =>
 (if (M.1 50 k3) ≤ a2 then
 some (fpJ9_min_7cf53 (M.1 46 4) ((a2 - (M.1 50 k3)) + (M.1 51 k3)))
 else
 some (-1 : Int32)))
set_option maxRecDepth 20000 in
theorem ctX0_ran {z : Zt} {M : Me} {Q : Option Value → Me → Prop} (a1 : Int32) (a2 : Int32)  (h : ok (fpX0_ran a1 a2 M) (fun a => Q (some (.int a)) M)) : EvM (wX, z) mtX0_ran 1 21 [.ref 46, .int a1, .int a2] M Q := by
  refine evm_of [some (.ref 46), some (.int a1), some (.int a2)] 0 (by decide +kernel) (Nat.le_of_ble_eq_true rfl) rfl ?_
  unfold fpX0_ran at h
  refine e_iload_n dX0_ran_0 rfl ?_
  refine e_aload_n dX0_ran_1 rfl ?_
  refine e_getI fa_RX0_22 is_X46 dX0_ran_2 ?_
  refine e_callS (f2 := 0) (l2 := 0) (ν := mtX0_isIn) (as := [.int a1, .int (M.1 46 3)]) cs_RX0_98 ⟨Nat.le_of_ble_eq_true rfl, Nat.le_of_ble_eq_true rfl⟩ rfl rfl (Nat.le_of_ble_eq_true rfl) dX0_ran_5 ?_
  refine ctX0_isIn a1 (M.1 46 3) ?_
  show Ev (wX, z) mtX0_ran 1 21 8 [some (.ref 46), some (.int a1), some (.int a2)] [.int (fpX0_isIn a1 (M.1 46 3))] M Q
  refine e_if_eq 21 dX0_ran_8 (by decide) (fun c2 => ?_) (fun c2 => ?_)
  · have h := ok_t c2 h
    refine e_iconst (-1 : Int32) dX0_ran_21 (by decide) ?_
    have h := ok_some h
    exact e_iret rfl dX0_ran_22 h
  · have h := ok_f c2 h
    refine e_iload_n dX0_ran_11 rfl ?_
    refine e_aload_n dX0_ran_12 rfl ?_
    refine e_getR fa_RX0_37 is_X46 rfl dX0_ran_13 ?_
    refine e_iload_n dX0_ran_16 rfl ?_
    refine ok_inb h (fun k3 ek3 ik3 h => ?_)
    refine e_ialdK ia_X50 ik3 ek3 dX0_ran_17 ?_
    refine e_icmp_ge 23 dX0_ran_18 (by decide) (fun c4 => ?_) (fun c4 => ?_)
    · have h := ok_t c4 h
      refine e_aload_n dX0_ran_23 rfl ?_
      refine e_getI fa_RX0_25 is_X46 dX0_ran_24 ?_
      refine e_iload_n dX0_ran_27 rfl ?_
      refine e_aload_n dX0_ran_28 rfl ?_
      refine e_getR fa_RX0_37 is_X46 rfl dX0_ran_29 ?_
      refine e_iload_n dX0_ran_32 rfl ?_
      refine e_ialdK ia_X50 ik3 ek3 dX0_ran_33 ?_
      refine e_isub dX0_ran_34 ?_
      refine e_aload_n dX0_ran_35 rfl ?_
      refine e_getR fa_RX0_40 is_X46 rfl dX0_ran_36 ?_
      refine e_iload_n dX0_ran_39 rfl ?_
      refine e_ialdK ia_X51 ik3 ek3 dX0_ran_40 ?_
      refine e_iadd dX0_ran_41 ?_
      refine e_callS (f2 := 0) (l2 := 0) (ν := mtJ9_min_7cf53) (as := [.int (M.1 46 4), .int ((a2 - (M.1 50 k3)) + (M.1 51 k3))]) cs_RX0_102 ⟨Nat.le_of_ble_eq_true rfl, Nat.le_of_ble_eq_true rfl⟩ rfl rfl (Nat.le_of_ble_eq_true rfl) dX0_ran_42 ?_
      refine ctJ9_min_7cf53 (M.1 46 4) ((a2 - (M.1 50 k3)) + (M.1 51 k3)) ?_
      show Ev (wX, z) mtX0_ran 1 21 45 [some (.ref 46), some (.int a1), some (.int a2)] [.int (fpJ9_min_7cf53 (M.1 46 4) ((a2 - (M.1 50 k3)) + (M.1 51 k3)))] M Q
      have h := ok_some h
      exact e_iret rfl dX0_ran_45 h
    · have h := ok_f c4 h
      refine e_iconst (-1 : Int32) dX0_ran_21 (by decide) ?_
      have h := ok_some h
      exact e_iret rfl dX0_ran_22 h
def XX0_planAll_2 (z : Zt) (Q : Option Value → Me → Prop) : (Me) → Prop := fun t => Ev (wX, z) mtX0_planAll 0 0 23 [some (.ref 46), none] [] t Q
def EX0_planAll_2 (z : Zt) (Q : Option Value → Me → Prop) : (Int32 × Me) → Prop := fun s => Ev (wX, z) mtX0_planAll 0 0 2 [some (.ref 46), some (.int s.1)] [] s.2 Q
def GX0_planAll_2 (z : Zt) (Q : Option Value → Me → Prop) : (Int32 × Me) ⊕ (Me) → Prop := Sum.elim (EX0_planAll_2 z Q) (XX0_planAll_2 z Q)
def fpX0_planAll_l2s (a1 : Int32) (M : Me) : Option ((Int32 × Me) ⊕ (Me)) := (if (M.1 46 2) ≤ a1 then
 some (.inr M)
 else
 (inb a1 8).bind fun k2 =>
 letv (wrM M 47 k2 a1) fun M3 =>
 letv (a1 + (1 : Int32)) fun v4 =>
 some (.inl (v4, M3)))
def fpX0_planAll_l2 (s : Int32 × Me) : Option ((Int32 × Me) ⊕ (Me)) := fpX0_planAll_l2s s.1 s.2
set_option maxRecDepth 20000 in
theorem ebX0_planAll_l2s {z : Zt} {Q : Option Value → Me → Prop} (a1 : Int32) (M : Me) (h : ok (fpX0_planAll_l2s a1 M) (GX0_planAll_2 z Q)) : Ev (wX, z) mtX0_planAll 0 0 2 [some (.ref 46), some (.int a1)] [] M Q := by
  unfold fpX0_planAll_l2s at h
  refine e_iload_n dX0_planAll_2 rfl ?_
  refine e_aload_n dX0_planAll_3 rfl ?_
  refine e_getI fa_RX0_19 is_X46 dX0_planAll_4 ?_
  refine e_icmp_ge 23 dX0_planAll_7 (by decide) (fun c1 => ?_) (fun c1 => ?_)
  · have h := ok_t c1 h
    refine e_forget [some (.ref 46), none] (leL_s (leL_n leL_0)) ?_
    have h := ok_some h
    exact h
  · have h := ok_f c1 h
    refine e_aload_n dX0_planAll_10 rfl ?_
    refine e_getR fa_RX0_9 is_X46 rfl dX0_planAll_11 ?_
    refine e_iload_n dX0_planAll_14 rfl ?_
    refine e_iload_n dX0_planAll_15 rfl ?_
    refine ok_inb h (fun k2 ek2 ik2 h => ?_)
    refine e_iastK ia_X47 ik2 ek2 dX0_planAll_16 ?_
    refine lv1 (P := fun M3 => Ev (wX, z) mtX0_planAll 0 0 17 [some (.ref 46), some (.int a1)] [] M3 Q) h (fun M3 h => ?_)
    refine lv1e h (fun v4 ev4 h => ?_)
    refine e_iinc v4 dX0_planAll_17 rfl ev4 (by decide) rfl ?_
    refine e_goto 2 dX0_planAll_20 (by decide) ?_
    refine e_forget [some (.ref 46), some (.int v4)] (leL_s (leL_s leL_0)) ?_
    have h := ok_some h
    exact h
theorem elX0_planAll_l2 {z : Zt} {Q : Option Value → Me → Prop} (N : Nat) (s : Int32 × Me) (h : ok (lp (fpX0_planAll_l2) N s) (XX0_planAll_2 z Q)) : EX0_planAll_2 z Q s :=
  lp_ind (fun s h => ebX0_planAll_l2s s.1 s.2 h) N s h
def fpX0_planAll  (M : Me) : Option (Me) := (lp (fpX0_planAll_l2) FU ((0 : Int32), M)).bind fun r5 =>
 letv (wrM r5 46 1 (r5.1 46 2)) fun M6 =>
 some M6
set_option maxRecDepth 20000 in
theorem ctX0_planAll {z : Zt} {M : Me} {Q : Option Value → Me → Prop}   (h : ok (fpX0_planAll M) (fun a => Q none a)) : EvM (wX, z) mtX0_planAll 0 0 [.ref 46] M Q := by
  refine evm_of [some (.ref 46), none] 1 (by decide +kernel) (Nat.le_of_ble_eq_true rfl) rfl ?_
  unfold fpX0_planAll at h
  refine e_iconst (0 : Int32) dX0_planAll_0 (by decide) ?_
  refine e_istore_n dX0_planAll_1 (by decide) rfl ?_
  refine e_forget [some (.ref 46), some (.int (0 : Int32))] (leL_s (leL_s leL_0)) ?_
  refine elX0_planAll_l2 FU ((0 : Int32), M) (ok_bnd h (fun r5 h => ?_))
  show Ev (wX, z) mtX0_planAll 0 0 23 [some (.ref 46), none] [] r5 Q
  refine e_aload_n dX0_planAll_23 rfl ?_
  refine e_aload_n dX0_planAll_24 rfl ?_
  refine e_getI fa_RX0_19 is_X46 dX0_planAll_25 ?_
  refine e_putI fw_RX0_15 is_X46 dX0_planAll_28 ?_
  refine lv1 (P := fun M6 => Ev (wX, z) mtX0_planAll 0 0 31 [some (.ref 46), none] [] M6 Q) h (fun M6 h => ?_)
  have h := ok_some h
  exact e_vret rfl dX0_planAll_31 h
def XX0_planFrom_9 (z : Zt) (a1 : Nat) (Q : Option Value → Me → Prop) : ((Me) ⊕ (Int32 × Me)) → Prop := Sum.elim (fun t => Ev (wX, z) mtX0_planFrom 1 21 84 [none, none, none, none, none] [] t Q) (fun v => Q (some (.int v.1)) v.2)
def EX0_planFrom_9 (z : Zt) (a1 : Nat) (Q : Option Value → Me → Prop) : (Int32 × Int32 × Me) → Prop := fun s => Ev (wX, z) mtX0_planFrom 1 21 9 [some (.ref 46), some (.ref a1), some (.int s.1), some (.int s.2.1), none] [] s.2.2 Q
def GX0_planFrom_9 (z : Zt) (a1 : Nat) (Q : Option Value → Me → Prop) : (Int32 × Int32 × Me) ⊕ ((Me) ⊕ (Int32 × Me)) → Prop := Sum.elim (EX0_planFrom_9 z a1 Q) (XX0_planFrom_9 z a1 Q)
def fpX0_planFrom_l9s (a1 : Nat) (a2 : Int32) (a3 : Int32) (M : Me) : Option ((Int32 × Int32 × Me) ⊕ ((Me) ⊕ (Int32 × Me))) := (if (M.1 a1 2) ≤ a3 then
 some (.inr (.inl M))
 else
 (inb a3 40).bind fun k3 =>
 letv (M.1 (a1 + 1) k3) fun v4 =>
 (if v4 < 0 then
 some (.inr (.inr ((0 : Int32), M)))
 else
 (if (M.1 46 2) ≤ v4 then
 some (.inr (.inr ((0 : Int32), M)))
 else
 (if (fpX0_isIn v4 a2) = 0 then
 letv (a2 ||| ((1 : Int32) <<< (v4 &&& 31))) fun v8 =>
 (inb (M.1 46 1) 8).bind fun k9 =>
 letv (wrM M 47 k9 v4) fun M10 =>
 letv (wrM M10 46 1 ((M10.1 46 1) + (1 : Int32))) fun M11 =>
 letv (a3 + (1 : Int32)) fun v12 =>
 some (.inl (v8, v12, M11))
 else
 some (.inr (.inr ((0 : Int32), M)))))))
def fpX0_planFrom_l9 (a1 : Nat) (s : Int32 × Int32 × Me) : Option ((Int32 × Int32 × Me) ⊕ ((Me) ⊕ (Int32 × Me))) := fpX0_planFrom_l9s a1 s.1 s.2.1 s.2.2
set_option maxRecDepth 20000 in
theorem ebX0_planFrom_l9s {z : Zt} {Q : Option Value → Me → Prop} (a1 : Nat) (ha1 : Is (wX, z) a1 5) (a2 : Int32) (a3 : Int32) (M : Me) (h : ok (fpX0_planFrom_l9s a1 a2 a3 M) (GX0_planFrom_9 z a1 Q)) : Ev (wX, z) mtX0_planFrom 1 21 9 [some (.ref 46), some (.ref a1), some (.int a2), some (.int a3), none] [] M Q := by
  unfold fpX0_planFrom_l9s at h
  refine e_iload_n dX0_planFrom_9 rfl ?_
  refine e_aload_n dX0_planFrom_10 rfl ?_
  refine e_getI fa_RX0_105 ha1 dX0_planFrom_11 ?_
  refine e_icmp_ge 84 dX0_planFrom_14 (by decide) (fun c2 => ?_) (fun c2 => ?_)
  · have h := ok_t c2 h
    refine e_forget [none, none, none, none, none] (leL_n (leL_n (leL_n (leL_n (leL_n leL_0))))) ?_
    have h := ok_some h
    exact h
  · have h := ok_f c2 h
    refine e_aload_n dX0_planFrom_17 rfl ?_
    refine e_getR fa_RX0_110 ha1 rfl dX0_planFrom_18 ?_
    refine e_iload_n dX0_planFrom_21 rfl ?_
    refine ok_inb h (fun k3 ek3 ik3 h => ?_)
    refine e_ialdK (sh_nums ha1) ik3 ek3 dX0_planFrom_22 ?_
    refine lv1 (P := fun v4 => Ev (wX, z) mtX0_planFrom 1 21 23 [some (.ref 46), some (.ref a1), some (.int a2), some (.int a3), none] [.int v4] M Q) h (fun v4 h => ?_)
    refine e_istore dX0_planFrom_23 (by decide) rfl ?_
    refine e_iload dX0_planFrom_25 rfl ?_
    refine e_if_lt 48 dX0_planFrom_27 (by decide) (fun c5 => ?_) (fun c5 => ?_)
    · have h := ok_t c5 h
      refine e_iconst (0 : Int32) dX0_planFrom_48 (by decide) ?_
      have h := ok_some h
      exact e_zret rfl (Or.inl rfl) dX0_planFrom_49 h
    · have h := ok_f c5 h
      refine e_iload dX0_planFrom_30 rfl ?_
      refine e_aload_n dX0_planFrom_32 rfl ?_
      refine e_getI fa_RX0_19 is_X46 dX0_planFrom_33 ?_
      refine e_icmp_ge 48 dX0_planFrom_36 (by decide) (fun c6 => ?_) (fun c6 => ?_)
      · have h := ok_t c6 h
        refine e_iconst (0 : Int32) dX0_planFrom_48 (by decide) ?_
        have h := ok_some h
        exact e_zret rfl (Or.inl rfl) dX0_planFrom_49 h
      · have h := ok_f c6 h
        refine e_iload dX0_planFrom_39 rfl ?_
        refine e_iload_n dX0_planFrom_41 rfl ?_
        refine e_callS (f2 := 0) (l2 := 0) (ν := mtX0_isIn) (as := [.int v4, .int a2]) cs_RX0_98 ⟨Nat.le_of_ble_eq_true rfl, Nat.le_of_ble_eq_true rfl⟩ rfl rfl (Nat.le_of_ble_eq_true rfl) dX0_planFrom_42 ?_
        refine ctX0_isIn v4 a2 ?_
        show Ev (wX, z) mtX0_planFrom 1 21 45 [some (.ref 46), some (.ref a1), some (.int a2), some (.int a3), some (.int v4)] [.int (fpX0_isIn v4 a2)] M Q
        refine e_if_eq 50 dX0_planFrom_45 (by decide) (fun c7 => ?_) (fun c7 => ?_)
        · have h := ok_t c7 h
          refine e_iload_n dX0_planFrom_50 rfl ?_
          refine e_iconst (1 : Int32) dX0_planFrom_51 (by decide) ?_
          refine e_iload dX0_planFrom_52 rfl ?_
          refine e_ishl dX0_planFrom_54 ?_
          refine e_ior dX0_planFrom_55 ?_
          refine lv1 (P := fun v8 => Ev (wX, z) mtX0_planFrom 1 21 56 [some (.ref 46), some (.ref a1), some (.int a2), some (.int a3), some (.int v4)] [.int v8] M Q) h (fun v8 h => ?_)
          refine e_istore_n dX0_planFrom_56 (by decide) rfl ?_
          refine e_aload_n dX0_planFrom_57 rfl ?_
          refine e_getR fa_RX0_9 is_X46 rfl dX0_planFrom_58 ?_
          refine e_aload_n dX0_planFrom_61 rfl ?_
          refine e_getI fa_RX0_15 is_X46 dX0_planFrom_62 ?_
          refine e_iload dX0_planFrom_65 rfl ?_
          refine ok_inb h (fun k9 ek9 ik9 h => ?_)
          refine e_iastK ia_X47 ik9 ek9 dX0_planFrom_67 ?_
          refine lv1 (P := fun M10 => Ev (wX, z) mtX0_planFrom 1 21 68 [some (.ref 46), some (.ref a1), some (.int v8), some (.int a3), some (.int v4)] [] M10 Q) h (fun M10 h => ?_)
          refine e_aload_n dX0_planFrom_68 rfl ?_
          refine e_dup dX0_planFrom_69 rfl ?_
          refine e_getI fa_RX0_15 is_X46 dX0_planFrom_70 ?_
          refine e_iconst (1 : Int32) dX0_planFrom_73 (by decide) ?_
          refine e_iadd dX0_planFrom_74 ?_
          refine e_putI fw_RX0_15 is_X46 dX0_planFrom_75 ?_
          refine lv1 (P := fun M11 => Ev (wX, z) mtX0_planFrom 1 21 78 [some (.ref 46), some (.ref a1), some (.int v8), some (.int a3), some (.int v4)] [] M11 Q) h (fun M11 h => ?_)
          refine lv1e h (fun v12 ev12 h => ?_)
          refine e_iinc v12 dX0_planFrom_78 rfl ev12 (by decide) rfl ?_
          refine e_goto 9 dX0_planFrom_81 (by decide) ?_
          refine e_forget [some (.ref 46), some (.ref a1), some (.int v8), some (.int v12), none] (leL_s (leL_s (leL_s (leL_s (leL_n leL_0))))) ?_
          have h := ok_some h
          exact h
        · have h := ok_f c7 h
          refine e_iconst (0 : Int32) dX0_planFrom_48 (by decide) ?_
          have h := ok_some h
          exact e_zret rfl (Or.inl rfl) dX0_planFrom_49 h
theorem elX0_planFrom_l9 {z : Zt} {Q : Option Value → Me → Prop} (a1 : Nat) (ha1 : Is (wX, z) a1 5) (N : Nat) (s : Int32 × Int32 × Me) (h : ok (lp (fpX0_planFrom_l9 a1) N s) (XX0_planFrom_9 z a1 Q)) : EX0_planFrom_9 z a1 Q s :=
  lp_ind (fun s h => ebX0_planFrom_l9s a1 ha1 s.1 s.2.1 s.2.2 h) N s h
def fpX0_planFrom (a1 : Nat) (M : Me) : Option (Int32 × Me) := letv (wrM M 46 1 (0 : Int32)) fun M1 =>
 (lp (fpX0_planFrom_l9 a1) FU ((0 : Int32), (0 : Int32), M1)).bind fun r13 => Sum.elim (fun t14 =>
 some ((1 : Int32), t14)) (fun u15 => some u15) r13
set_option maxRecDepth 20000 in
theorem ctX0_planFrom {z : Zt} {M : Me} {Q : Option Value → Me → Prop} (a1 : Nat) (ha1 : Is (wX, z) a1 5) (h : ok (fpX0_planFrom a1 M) (fun a => Q (some (.int a.1)) a.2)) : EvM (wX, z) mtX0_planFrom 1 21 [.ref 46, .ref a1] M Q := by
  refine evm_of [some (.ref 46), some (.ref a1), none, none, none] 3 (by decide +kernel) (Nat.le_of_ble_eq_true rfl) rfl ?_
  unfold fpX0_planFrom at h
  refine e_iconst (0 : Int32) dX0_planFrom_0 (by decide) ?_
  refine e_istore_n dX0_planFrom_1 (by decide) rfl ?_
  refine e_aload_n dX0_planFrom_2 rfl ?_
  refine e_iconst (0 : Int32) dX0_planFrom_3 (by decide) ?_
  refine e_putI fw_RX0_15 is_X46 dX0_planFrom_4 ?_
  refine lv1 (P := fun M1 => Ev (wX, z) mtX0_planFrom 1 21 7 [some (.ref 46), some (.ref a1), some (.int (0 : Int32)), none, none] [] M1 Q) h (fun M1 h => ?_)
  refine e_iconst (0 : Int32) dX0_planFrom_7 (by decide) ?_
  refine e_istore_n dX0_planFrom_8 (by decide) rfl ?_
  refine e_forget [some (.ref 46), some (.ref a1), some (.int (0 : Int32)), some (.int (0 : Int32)), none] (leL_s (leL_s (leL_s (leL_s (leL_n leL_0))))) ?_
  refine elX0_planFrom_l9 a1 ha1 FU ((0 : Int32), (0 : Int32), M1) (ok_bnd h (fun r13 h => ?_))
  rcases r13 with t14 | u15
  · show Ev (wX, z) mtX0_planFrom 1 21 84 [none, none, none, none, none] [] t14 Q
    refine e_iconst (1 : Int32) dX0_planFrom_84 (by decide) ?_
    have h := ok_some h
    exact e_zret rfl (Or.inr rfl) dX0_planFrom_85 h
  · have h := ok_some h
    exact h
def XX0_planBrings_9 (z : Zt) (a2 : Int32) (M : Me) (Q : Option Value → Me → Prop) : (Int32 × Int32) → Prop := fun t => Ev (wX, z) mtX0_planBrings 2 44 78 [some (.ref 46), none, none, some (.int t.1), some (.int t.2), none, none, none] [] M Q
def EX0_planBrings_9 (z : Zt) (a2 : Int32) (M : Me) (Q : Option Value → Me → Prop) : (Int32 × Int32 × Int32) → Prop := fun s => Ev (wX, z) mtX0_planBrings 2 44 9 [some (.ref 46), none, some (.int a2), some (.int s.1), some (.int s.2.1), some (.int s.2.2), none, none] [] M Q
def GX0_planBrings_9 (z : Zt) (a2 : Int32) (M : Me) (Q : Option Value → Me → Prop) : (Int32 × Int32 × Int32) ⊕ (Int32 × Int32) → Prop := Sum.elim (EX0_planBrings_9 z a2 M Q) (XX0_planBrings_9 z a2 M Q)
def fpX0_planBrings_l9s (a2 : Int32) (a3 : Int32) (a4 : Int32) (a5 : Int32) (M : Me) : Option ((Int32 × Int32 × Int32) ⊕ (Int32 × Int32)) := (if (M.1 46 1) ≤ a5 then
 some (.inr (a3, a4))
 else
 (if a5 = a2 then
 letv (a5 + (1 : Int32)) fun v3 =>
 some (.inl (a3, a4, v3))
 else
 (inb a5 8).bind fun k4 =>
 letv (M.1 47 k4) fun v5 =>
 (fpX0_carried a4 a3 v5 M).bind fun v6 =>
 (fpX0_ran v5 v6 M).bind fun v7 =>
 (if v7 = (-1 : Int32) then
 letv (a5 + (1 : Int32)) fun v10 =>
 some (.inl (v5, v6, v10))
 else
 letv (a5 + (1 : Int32)) fun v9 =>
 some (.inl (v5, v7, v9)))))
def fpX0_planBrings_l9 (a2 : Int32) (M : Me) (s : Int32 × Int32 × Int32) : Option ((Int32 × Int32 × Int32) ⊕ (Int32 × Int32)) := fpX0_planBrings_l9s a2 s.1 s.2.1 s.2.2 M
set_option maxRecDepth 20000 in
theorem ebX0_planBrings_l9s {z : Zt} {Q : Option Value → Me → Prop} (a2 : Int32) (a3 : Int32) (a4 : Int32) (a5 : Int32) (M : Me) (h : ok (fpX0_planBrings_l9s a2 a3 a4 a5 M) (GX0_planBrings_9 z a2 M Q)) : Ev (wX, z) mtX0_planBrings 2 44 9 [some (.ref 46), none, some (.int a2), some (.int a3), some (.int a4), some (.int a5), none, none] [] M Q := by
  unfold fpX0_planBrings_l9s at h
  refine e_iload dX0_planBrings_9 rfl ?_
  refine e_aload_n dX0_planBrings_11 rfl ?_
  refine e_getI fa_RX0_15 is_X46 dX0_planBrings_12 ?_
  refine e_icmp_ge 78 dX0_planBrings_15 (by decide) (fun c1 => ?_) (fun c1 => ?_)
  · have h := ok_t c1 h
    refine e_forget [some (.ref 46), none, none, some (.int a3), some (.int a4), none, none, none] (leL_s (leL_n (leL_n (leL_s (leL_s (leL_n (leL_n (leL_n leL_0)))))))) ?_
    have h := ok_some h
    exact h
  · have h := ok_f c1 h
    refine e_iload dX0_planBrings_18 rfl ?_
    refine e_iload_n dX0_planBrings_20 rfl ?_
    refine e_icmp_eq 72 dX0_planBrings_21 (by decide) (fun c2 => ?_) (fun c2 => ?_)
    · have h := ok_t c2 h
      refine lv1e h (fun v3 ev3 h => ?_)
      refine e_iinc v3 dX0_planBrings_72 rfl ev3 (by decide) rfl ?_
      refine e_goto 9 dX0_planBrings_75 (by decide) ?_
      refine e_forget [some (.ref 46), none, some (.int a2), some (.int a3), some (.int a4), some (.int v3), none, none] (leL_s (leL_n (leL_s (leL_s (leL_s (leL_s (leL_n (leL_n leL_0)))))))) ?_
      have h := ok_some h
      exact h
    · have h := ok_f c2 h
      refine e_aload_n dX0_planBrings_24 rfl ?_
      refine e_getR fa_RX0_9 is_X46 rfl dX0_planBrings_25 ?_
      refine e_iload dX0_planBrings_28 rfl ?_
      refine ok_inb h (fun k4 ek4 ik4 h => ?_)
      refine e_ialdK ia_X47 ik4 ek4 dX0_planBrings_30 ?_
      refine lv1 (P := fun v5 => Ev (wX, z) mtX0_planBrings 2 44 31 [some (.ref 46), none, some (.int a2), some (.int a3), some (.int a4), some (.int a5), none, none] [.int v5] M Q) h (fun v5 h => ?_)
      refine e_istore dX0_planBrings_31 (by decide) rfl ?_
      refine e_aload_n dX0_planBrings_33 rfl ?_
      refine e_iload dX0_planBrings_34 rfl ?_
      refine e_iload_n dX0_planBrings_36 rfl ?_
      refine e_iload dX0_planBrings_37 rfl ?_
      refine e_callV (f2 := 1) (l2 := 21) (ν := mtX0_carried) (as := [.int a4, .int a3, .int v5]) cv_RX0_113 is_X46 kc_6 ⟨Nat.le_of_ble_eq_true rfl, Nat.le_of_ble_eq_true rfl⟩ rfl rfl (Nat.le_of_ble_eq_true rfl) dX0_planBrings_39 ?_
      refine ctX0_carried a4 a3 v5 (ok_bnd h (fun v6 h => ?_))
      show Ev (wX, z) mtX0_planBrings 2 44 42 [some (.ref 46), none, some (.int a2), some (.int a3), some (.int a4), some (.int a5), some (.int v5), none] [.int v6] M Q
      refine e_istore dX0_planBrings_42 (by decide) rfl ?_
      refine e_aload_n dX0_planBrings_44 rfl ?_
      refine e_iload dX0_planBrings_45 rfl ?_
      refine e_iload dX0_planBrings_47 rfl ?_
      refine e_callV (f2 := 1) (l2 := 21) (ν := mtX0_ran) (as := [.int v5, .int v6]) cv_RX0_116 is_X46 kc_6 ⟨Nat.le_of_ble_eq_true rfl, Nat.le_of_ble_eq_true rfl⟩ rfl rfl (Nat.le_of_ble_eq_true rfl) dX0_planBrings_49 ?_
      refine ctX0_ran v5 v6 (ok_bnd h (fun v7 h => ?_))
      show Ev (wX, z) mtX0_planBrings 2 44 52 [some (.ref 46), none, some (.int a2), some (.int a3), some (.int v6), some (.int a5), some (.int v5), none] [.int v7] M Q
      refine e_istore dX0_planBrings_52 (by decide) rfl ?_
      refine e_iload dX0_planBrings_54 rfl ?_
      refine e_iconst (-1 : Int32) dX0_planBrings_56 (by decide) ?_
      refine e_icmp_ne 65 dX0_planBrings_57 (by decide) (fun c8 => ?_) (fun c8 => ?_)
      · have h := ok_f c8 h
        refine e_iload dX0_planBrings_65 rfl ?_
        refine e_istore dX0_planBrings_67 (by decide) rfl ?_
        refine e_iload dX0_planBrings_69 rfl ?_
        refine e_istore_n dX0_planBrings_71 (by decide) rfl ?_
        refine lv1e h (fun v9 ev9 h => ?_)
        refine e_iinc v9 dX0_planBrings_72 rfl ev9 (by decide) rfl ?_
        refine e_goto 9 dX0_planBrings_75 (by decide) ?_
        refine e_forget [some (.ref 46), none, some (.int a2), some (.int v5), some (.int v7), some (.int v9), none, none] (leL_s (leL_n (leL_s (leL_s (leL_s (leL_s (leL_n (leL_n leL_0)))))))) ?_
        have h := ok_some h
        exact h
      · have h := ok_t c8 h
        refine e_iload dX0_planBrings_60 rfl ?_
        refine e_goto 67 dX0_planBrings_62 (by decide) ?_
        refine e_istore dX0_planBrings_67 (by decide) rfl ?_
        refine e_iload dX0_planBrings_69 rfl ?_
        refine e_istore_n dX0_planBrings_71 (by decide) rfl ?_
        refine lv1e h (fun v10 ev10 h => ?_)
        refine e_iinc v10 dX0_planBrings_72 rfl ev10 (by decide) rfl ?_
        refine e_goto 9 dX0_planBrings_75 (by decide) ?_
        refine e_forget [some (.ref 46), none, some (.int a2), some (.int v5), some (.int v6), some (.int v10), none, none] (leL_s (leL_n (leL_s (leL_s (leL_s (leL_s (leL_n (leL_n leL_0)))))))) ?_
        have h := ok_some h
        exact h
theorem elX0_planBrings_l9 {z : Zt} {Q : Option Value → Me → Prop} (a2 : Int32) (M : Me) (N : Nat) (s : Int32 × Int32 × Int32) (h : ok (lp (fpX0_planBrings_l9 a2 M) N s) (XX0_planBrings_9 z a2 M Q)) : EX0_planBrings_9 z a2 M Q s :=
  lp_ind (fun s h => ebX0_planBrings_l9s a2 s.1 s.2.1 s.2.2 M h) N s h
def fpX0_planBrings (a1 : Int32) (a2 : Int32) (M : Me) : Option (Int32) := (lp (fpX0_planBrings_l9 a2 M) FU ((8 : Int32), a1, (0 : Int32))).bind fun r11 =>
 (fpX0_carried r11.2 r11.1 (9 : Int32) M).bind fun v12 =>
 some v12
set_option maxRecDepth 20000 in
theorem ctX0_planBrings {z : Zt} {M : Me} {Q : Option Value → Me → Prop} (a1 : Int32) (a2 : Int32)  (h : ok (fpX0_planBrings a1 a2 M) (fun a => Q (some (.int a)) M)) : EvM (wX, z) mtX0_planBrings 2 44 [.ref 46, .int a1, .int a2] M Q := by
  refine evm_of [some (.ref 46), some (.int a1), some (.int a2), none, none, none, none, none] 5 (by decide +kernel) (Nat.le_of_ble_eq_true rfl) rfl ?_
  unfold fpX0_planBrings at h
  refine e_bipush (8 : Int32) dX0_planBrings_0 (by decide) ?_
  refine e_istore_n dX0_planBrings_2 (by decide) rfl ?_
  refine e_iload_n dX0_planBrings_3 rfl ?_
  refine e_istore dX0_planBrings_4 (by decide) rfl ?_
  refine e_iconst (0 : Int32) dX0_planBrings_6 (by decide) ?_
  refine e_istore dX0_planBrings_7 (by decide) rfl ?_
  refine e_forget [some (.ref 46), none, some (.int a2), some (.int (8 : Int32)), some (.int a1), some (.int (0 : Int32)), none, none] (leL_s (leL_n (leL_s (leL_s (leL_s (leL_s (leL_n (leL_n leL_0)))))))) ?_
  refine elX0_planBrings_l9 a2 M FU ((8 : Int32), a1, (0 : Int32)) (ok_bnd h (fun r11 h => ?_))
  show Ev (wX, z) mtX0_planBrings 2 44 78 [some (.ref 46), none, none, some (.int r11.1), some (.int r11.2), none, none, none] [] M Q
  refine e_aload_n dX0_planBrings_78 rfl ?_
  refine e_iload dX0_planBrings_79 rfl ?_
  refine e_iload_n dX0_planBrings_81 rfl ?_
  refine e_bipush (9 : Int32) dX0_planBrings_82 (by decide) ?_
  refine e_callV (f2 := 1) (l2 := 21) (ν := mtX0_carried) (as := [.int r11.2, .int r11.1, .int (9 : Int32)]) cv_RX0_113 is_X46 kc_6 ⟨Nat.le_of_ble_eq_true rfl, Nat.le_of_ble_eq_true rfl⟩ rfl rfl (Nat.le_of_ble_eq_true rfl) dX0_planBrings_84 ?_
  refine ctX0_carried r11.2 r11.1 (9 : Int32) (ok_bnd h (fun v12 h => ?_))
  show Ev (wX, z) mtX0_planBrings 2 44 87 [some (.ref 46), none, none, some (.int r11.1), some (.int r11.2), none, none, none] [.int v12] M Q
  have h := ok_some h
  exact e_iret rfl dX0_planBrings_87 h
def XX0_runsInARow_12 (z : Zt) (a1 : Nat) (M : Me) (Q : Option Value → Me → Prop) : ((Unit) ⊕ (Int32)) → Prop := Sum.elim (fun t => Ev (wX, z) mtX0_runsInARow 2 44 100 [none, some (.ref a1), none, none, none, none, none, none] [] M Q) (fun v => Q (some (.int v)) M)
def EX0_runsInARow_12 (z : Zt) (a1 : Nat) (M : Me) (Q : Option Value → Me → Prop) : (Int32 × Int32 × Int32 × Int32) → Prop := fun s => Ev (wX, z) mtX0_runsInARow 2 44 12 [some (.ref 46), some (.ref a1), none, some (.int s.1), some (.int s.2.1), some (.int s.2.2.1), some (.int s.2.2.2), none] [] M Q
def GX0_runsInARow_12 (z : Zt) (a1 : Nat) (M : Me) (Q : Option Value → Me → Prop) : (Int32 × Int32 × Int32 × Int32) ⊕ ((Unit) ⊕ (Int32)) → Prop := Sum.elim (EX0_runsInARow_12 z a1 M Q) (XX0_runsInARow_12 z a1 M Q)
def fpX0_runsInARow_l12s (a1 : Nat) (a3 : Int32) (a4 : Int32) (a5 : Int32) (a6 : Int32) (M : Me) : Option ((Int32 × Int32 × Int32 × Int32) ⊕ ((Unit) ⊕ (Int32))) := (if (M.1 a1 2) ≤ a6 then
 some (.inr (.inl ()))
 else
 (inb a6 40).bind fun k2 =>
 letv (M.1 (a1 + 1) k2) fun v3 =>
 (if v3 < 0 then
 some (.inr (.inr a6))
 else
 (if (M.1 46 2) ≤ v3 then
 some (.inr (.inr a6))
 else
 (if (fpX0_isIn v3 a3) = 0 then
 (fpX0_carried a5 a4 v3 M).bind fun v7 =>
 (fpX0_ran v3 v7 M).bind fun v8 =>
 (if v8 = (-1 : Int32) then
 some (.inr (.inr a6))
 else
 letv (a3 ||| ((1 : Int32) <<< (v3 &&& 31))) fun v10 =>
 letv (a6 + (1 : Int32)) fun v11 =>
 some (.inl (v10, v3, v8, v11)))
 else
 some (.inr (.inr a6))))))
def fpX0_runsInARow_l12 (a1 : Nat) (M : Me) (s : Int32 × Int32 × Int32 × Int32) : Option ((Int32 × Int32 × Int32 × Int32) ⊕ ((Unit) ⊕ (Int32))) := fpX0_runsInARow_l12s a1 s.1 s.2.1 s.2.2.1 s.2.2.2 M
set_option maxRecDepth 20000 in
theorem ebX0_runsInARow_l12s {z : Zt} {Q : Option Value → Me → Prop} (a1 : Nat) (ha1 : Is (wX, z) a1 5) (a3 : Int32) (a4 : Int32) (a5 : Int32) (a6 : Int32) (M : Me) (h : ok (fpX0_runsInARow_l12s a1 a3 a4 a5 a6 M) (GX0_runsInARow_12 z a1 M Q)) : Ev (wX, z) mtX0_runsInARow 2 44 12 [some (.ref 46), some (.ref a1), none, some (.int a3), some (.int a4), some (.int a5), some (.int a6), none] [] M Q := by
  unfold fpX0_runsInARow_l12s at h
  refine e_iload dX0_runsInARow_12 rfl ?_
  refine e_aload_n dX0_runsInARow_14 rfl ?_
  refine e_getI fa_RX0_105 ha1 dX0_runsInARow_15 ?_
  refine e_icmp_ge 100 dX0_runsInARow_18 (by decide) (fun c1 => ?_) (fun c1 => ?_)
  · have h := ok_t c1 h
    refine e_forget [none, some (.ref a1), none, none, none, none, none, none] (leL_n (leL_s (leL_n (leL_n (leL_n (leL_n (leL_n (leL_n leL_0)))))))) ?_
    have h := ok_some h
    exact h
  · have h := ok_f c1 h
    refine e_aload_n dX0_runsInARow_21 rfl ?_
    refine e_getR fa_RX0_110 ha1 rfl dX0_runsInARow_22 ?_
    refine e_iload dX0_runsInARow_25 rfl ?_
    refine ok_inb h (fun k2 ek2 ik2 h => ?_)
    refine e_ialdK (sh_nums ha1) ik2 ek2 dX0_runsInARow_27 ?_
    refine lv1 (P := fun v3 => Ev (wX, z) mtX0_runsInARow 2 44 28 [some (.ref 46), some (.ref a1), none, some (.int a3), some (.int a4), some (.int a5), some (.int a6), none] [.int v3] M Q) h (fun v3 h => ?_)
    refine e_istore dX0_runsInARow_28 (by decide) rfl ?_
    refine e_iload dX0_runsInARow_30 rfl ?_
    refine e_if_lt 53 dX0_runsInARow_32 (by decide) (fun c4 => ?_) (fun c4 => ?_)
    · have h := ok_t c4 h
      refine e_iload dX0_runsInARow_53 rfl ?_
      have h := ok_some h
      exact e_iret rfl dX0_runsInARow_55 h
    · have h := ok_f c4 h
      refine e_iload dX0_runsInARow_35 rfl ?_
      refine e_aload_n dX0_runsInARow_37 rfl ?_
      refine e_getI fa_RX0_19 is_X46 dX0_runsInARow_38 ?_
      refine e_icmp_ge 53 dX0_runsInARow_41 (by decide) (fun c5 => ?_) (fun c5 => ?_)
      · have h := ok_t c5 h
        refine e_iload dX0_runsInARow_53 rfl ?_
        have h := ok_some h
        exact e_iret rfl dX0_runsInARow_55 h
      · have h := ok_f c5 h
        refine e_iload dX0_runsInARow_44 rfl ?_
        refine e_iload_n dX0_runsInARow_46 rfl ?_
        refine e_callS (f2 := 0) (l2 := 0) (ν := mtX0_isIn) (as := [.int v3, .int a3]) cs_RX0_98 ⟨Nat.le_of_ble_eq_true rfl, Nat.le_of_ble_eq_true rfl⟩ rfl rfl (Nat.le_of_ble_eq_true rfl) dX0_runsInARow_47 ?_
        refine ctX0_isIn v3 a3 ?_
        show Ev (wX, z) mtX0_runsInARow 2 44 50 [some (.ref 46), some (.ref a1), none, some (.int a3), some (.int a4), some (.int a5), some (.int a6), some (.int v3)] [.int (fpX0_isIn v3 a3)] M Q
        refine e_if_eq 56 dX0_runsInARow_50 (by decide) (fun c6 => ?_) (fun c6 => ?_)
        · have h := ok_t c6 h
          refine e_aload_n dX0_runsInARow_56 rfl ?_
          refine e_iload dX0_runsInARow_57 rfl ?_
          refine e_aload_n dX0_runsInARow_59 rfl ?_
          refine e_iload dX0_runsInARow_60 rfl ?_
          refine e_iload dX0_runsInARow_62 rfl ?_
          refine e_iload dX0_runsInARow_64 rfl ?_
          refine e_callV (f2 := 1) (l2 := 21) (ν := mtX0_carried) (as := [.int a5, .int a4, .int v3]) cv_RX0_113 is_X46 kc_6 ⟨Nat.le_of_ble_eq_true rfl, Nat.le_of_ble_eq_true rfl⟩ rfl rfl (Nat.le_of_ble_eq_true rfl) dX0_runsInARow_66 ?_
          refine ctX0_carried a5 a4 v3 (ok_bnd h (fun v7 h => ?_))
          show Ev (wX, z) mtX0_runsInARow 2 44 69 [some (.ref 46), some (.ref a1), none, some (.int a3), some (.int a4), some (.int a5), some (.int a6), some (.int v3)] [.int v7, .int v3, .ref 46] M Q
          refine e_callV (f2 := 1) (l2 := 21) (ν := mtX0_ran) (as := [.int v3, .int v7]) cv_RX0_116 is_X46 kc_6 ⟨Nat.le_of_ble_eq_true rfl, Nat.le_of_ble_eq_true rfl⟩ rfl rfl (Nat.le_of_ble_eq_true rfl) dX0_runsInARow_69 ?_
          refine ctX0_ran v3 v7 (ok_bnd h (fun v8 h => ?_))
          show Ev (wX, z) mtX0_runsInARow 2 44 72 [some (.ref 46), some (.ref a1), none, some (.int a3), some (.int a4), some (.int a5), some (.int a6), some (.int v3)] [.int v8] M Q
          refine e_istore dX0_runsInARow_72 (by decide) rfl ?_
          refine e_iload dX0_runsInARow_74 rfl ?_
          refine e_iconst (-1 : Int32) dX0_runsInARow_76 (by decide) ?_
          refine e_icmp_ne 83 dX0_runsInARow_77 (by decide) (fun c9 => ?_) (fun c9 => ?_)
          · have h := ok_f c9 h
            refine e_iload_n dX0_runsInARow_83 rfl ?_
            refine e_iconst (1 : Int32) dX0_runsInARow_84 (by decide) ?_
            refine e_iload dX0_runsInARow_85 rfl ?_
            refine e_ishl dX0_runsInARow_87 ?_
            refine e_ior dX0_runsInARow_88 ?_
            refine lv1 (P := fun v10 => Ev (wX, z) mtX0_runsInARow 2 44 89 [some (.ref 46), some (.ref a1), none, some (.int a3), some (.int a4), some (.int v8), some (.int a6), some (.int v3)] [.int v10] M Q) h (fun v10 h => ?_)
            refine e_istore_n dX0_runsInARow_89 (by decide) rfl ?_
            refine e_iload dX0_runsInARow_90 rfl ?_
            refine e_istore dX0_runsInARow_92 (by decide) rfl ?_
            refine lv1e h (fun v11 ev11 h => ?_)
            refine e_iinc v11 dX0_runsInARow_94 rfl ev11 (by decide) rfl ?_
            refine e_goto 12 dX0_runsInARow_97 (by decide) ?_
            refine e_forget [some (.ref 46), some (.ref a1), none, some (.int v10), some (.int v3), some (.int v8), some (.int v11), none] (leL_s (leL_s (leL_n (leL_s (leL_s (leL_s (leL_s (leL_n leL_0)))))))) ?_
            have h := ok_some h
            exact h
          · have h := ok_t c9 h
            refine e_iload dX0_runsInARow_80 rfl ?_
            have h := ok_some h
            exact e_iret rfl dX0_runsInARow_82 h
        · have h := ok_f c6 h
          refine e_iload dX0_runsInARow_53 rfl ?_
          have h := ok_some h
          exact e_iret rfl dX0_runsInARow_55 h
theorem elX0_runsInARow_l12 {z : Zt} {Q : Option Value → Me → Prop} (a1 : Nat) (ha1 : Is (wX, z) a1 5) (M : Me) (N : Nat) (s : Int32 × Int32 × Int32 × Int32) (h : ok (lp (fpX0_runsInARow_l12 a1 M) N s) (XX0_runsInARow_12 z a1 M Q)) : EX0_runsInARow_12 z a1 M Q s :=
  lp_ind (fun s h => ebX0_runsInARow_l12s a1 ha1 s.1 s.2.1 s.2.2.1 s.2.2.2 M h) N s h
def fpX0_runsInARow (a1 : Nat) (a2 : Int32) (M : Me) : Option (Int32) := (lp (fpX0_runsInARow_l12 a1 M) FU ((0 : Int32), (8 : Int32), a2, (0 : Int32))).bind fun r12 => Sum.elim (fun t13 =>
 some (M.1 a1 2)) (fun u14 => some u14) r12
set_option maxRecDepth 20000 in
theorem ctX0_runsInARow {z : Zt} {M : Me} {Q : Option Value → Me → Prop} (a1 : Nat) (a2 : Int32) (ha1 : Is (wX, z) a1 5) (h : ok (fpX0_runsInARow a1 a2 M) (fun a => Q (some (.int a)) M)) : EvM (wX, z) mtX0_runsInARow 2 44 [.ref 46, .ref a1, .int a2] M Q := by
  refine evm_of [some (.ref 46), some (.ref a1), some (.int a2), none, none, none, none, none] 5 (by decide +kernel) (Nat.le_of_ble_eq_true rfl) rfl ?_
  unfold fpX0_runsInARow at h
  refine e_iconst (0 : Int32) dX0_runsInARow_0 (by decide) ?_
  refine e_istore_n dX0_runsInARow_1 (by decide) rfl ?_
  refine e_bipush (8 : Int32) dX0_runsInARow_2 (by decide) ?_
  refine e_istore dX0_runsInARow_4 (by decide) rfl ?_
  refine e_iload_n dX0_runsInARow_6 rfl ?_
  refine e_istore dX0_runsInARow_7 (by decide) rfl ?_
  refine e_iconst (0 : Int32) dX0_runsInARow_9 (by decide) ?_
  refine e_istore dX0_runsInARow_10 (by decide) rfl ?_
  refine e_forget [some (.ref 46), some (.ref a1), none, some (.int (0 : Int32)), some (.int (8 : Int32)), some (.int a2), some (.int (0 : Int32)), none] (leL_s (leL_s (leL_n (leL_s (leL_s (leL_s (leL_s (leL_n leL_0)))))))) ?_
  refine elX0_runsInARow_l12 a1 ha1 M FU ((0 : Int32), (8 : Int32), a2, (0 : Int32)) (ok_bnd h (fun r12 h => ?_))
  rcases r12 with t13 | u14
  · show Ev (wX, z) mtX0_runsInARow 2 44 100 [none, some (.ref a1), none, none, none, none, none, none] [] M Q
    refine e_aload_n dX0_runsInARow_100 rfl ?_
    refine e_getI fa_RX0_105 ha1 dX0_runsInARow_101 ?_
    have h := ok_some h
    exact e_iret rfl dX0_runsInARow_104 h
  · have h := ok_some h
    exact h
def XX0_mostComing_5 (z : Zt) (a1 : Int32) (a2 : Int32) (M : Me) (Q : Option Value → Me → Prop) : (Int32) → Prop := fun t => Ev (wX, z) mtX0_mostComing 2 44 54 [none, none, none, some (.int t), none, none] [] M Q
def EX0_mostComing_5 (z : Zt) (a1 : Int32) (a2 : Int32) (M : Me) (Q : Option Value → Me → Prop) : (Int32 × Int32) → Prop := fun s => Ev (wX, z) mtX0_mostComing 2 44 5 [some (.ref 46), some (.int a1), some (.int a2), some (.int s.1), some (.int s.2), none] [] M Q
def GX0_mostComing_5 (z : Zt) (a1 : Int32) (a2 : Int32) (M : Me) (Q : Option Value → Me → Prop) : (Int32 × Int32) ⊕ (Int32) → Prop := Sum.elim (EX0_mostComing_5 z a1 a2 M Q) (XX0_mostComing_5 z a1 a2 M Q)
def fpX0_mostComing_l5s (a1 : Int32) (a2 : Int32) (a3 : Int32) (a4 : Int32) (M : Me) : Option ((Int32 × Int32) ⊕ (Int32)) := (if (M.1 46 2) ≤ a4 then
 some (.inr a3)
 else
 (inb ((a1 * (8 : Int32)) + a4) 2048).bind fun k2 =>
 letv (M.1 53 k2) fun v3 =>
 (if v3 ≤ a3 then
 letv (a4 + (1 : Int32)) fun v5 =>
 some (.inl (a3, v5))
 else
 (fpX0_carried v3 a4 a2 M).bind fun v6 =>
 letv (fpJ9_max_7cf53 a3 v6) fun v7 =>
 letv (a4 + (1 : Int32)) fun v8 =>
 some (.inl (v7, v8))))
def fpX0_mostComing_l5 (a1 : Int32) (a2 : Int32) (M : Me) (s : Int32 × Int32) : Option ((Int32 × Int32) ⊕ (Int32)) := fpX0_mostComing_l5s a1 a2 s.1 s.2 M
set_option maxRecDepth 20000 in
theorem ebX0_mostComing_l5s {z : Zt} {Q : Option Value → Me → Prop} (a1 : Int32) (a2 : Int32) (a3 : Int32) (a4 : Int32) (M : Me) (h : ok (fpX0_mostComing_l5s a1 a2 a3 a4 M) (GX0_mostComing_5 z a1 a2 M Q)) : Ev (wX, z) mtX0_mostComing 2 44 5 [some (.ref 46), some (.int a1), some (.int a2), some (.int a3), some (.int a4), none] [] M Q := by
  unfold fpX0_mostComing_l5s at h
  refine e_iload dX0_mostComing_5 rfl ?_
  refine e_aload_n dX0_mostComing_7 rfl ?_
  refine e_getI fa_RX0_19 is_X46 dX0_mostComing_8 ?_
  refine e_icmp_ge 54 dX0_mostComing_11 (by decide) (fun c1 => ?_) (fun c1 => ?_)
  · have h := ok_t c1 h
    refine e_forget [none, none, none, some (.int a3), none, none] (leL_n (leL_n (leL_n (leL_s (leL_n (leL_n leL_0)))))) ?_
    have h := ok_some h
    exact h
  · have h := ok_f c1 h
    refine e_aload_n dX0_mostComing_14 rfl ?_
    refine e_getR fa_RX0_46 is_X46 rfl dX0_mostComing_15 ?_
    refine e_iload_n dX0_mostComing_18 rfl ?_
    refine e_bipush (8 : Int32) dX0_mostComing_19 (by decide) ?_
    refine e_imul dX0_mostComing_21 ?_
    refine e_iload dX0_mostComing_22 rfl ?_
    refine e_iadd dX0_mostComing_24 ?_
    refine ok_inb h (fun k2 ek2 ik2 h => ?_)
    refine e_ialdK ia_X53 ik2 ek2 dX0_mostComing_25 ?_
    refine lv1 (P := fun v3 => Ev (wX, z) mtX0_mostComing 2 44 26 [some (.ref 46), some (.int a1), some (.int a2), some (.int a3), some (.int a4), none] [.int v3] M Q) h (fun v3 h => ?_)
    refine e_istore dX0_mostComing_26 (by decide) rfl ?_
    refine e_iload dX0_mostComing_28 rfl ?_
    refine e_iload_n dX0_mostComing_30 rfl ?_
    refine e_icmp_le 48 dX0_mostComing_31 (by decide) (fun c4 => ?_) (fun c4 => ?_)
    · have h := ok_t c4 h
      refine lv1e h (fun v5 ev5 h => ?_)
      refine e_iinc v5 dX0_mostComing_48 rfl ev5 (by decide) rfl ?_
      refine e_goto 5 dX0_mostComing_51 (by decide) ?_
      refine e_forget [some (.ref 46), some (.int a1), some (.int a2), some (.int a3), some (.int v5), none] (leL_s (leL_s (leL_s (leL_s (leL_s (leL_n leL_0)))))) ?_
      have h := ok_some h
      exact h
    · have h := ok_f c4 h
      refine e_iload_n dX0_mostComing_34 rfl ?_
      refine e_aload_n dX0_mostComing_35 rfl ?_
      refine e_iload dX0_mostComing_36 rfl ?_
      refine e_iload dX0_mostComing_38 rfl ?_
      refine e_iload_n dX0_mostComing_40 rfl ?_
      refine e_callV (f2 := 1) (l2 := 21) (ν := mtX0_carried) (as := [.int v3, .int a4, .int a2]) cv_RX0_113 is_X46 kc_6 ⟨Nat.le_of_ble_eq_true rfl, Nat.le_of_ble_eq_true rfl⟩ rfl rfl (Nat.le_of_ble_eq_true rfl) dX0_mostComing_41 ?_
      refine ctX0_carried v3 a4 a2 (ok_bnd h (fun v6 h => ?_))
      show Ev (wX, z) mtX0_mostComing 2 44 44 [some (.ref 46), some (.int a1), some (.int a2), some (.int a3), some (.int a4), some (.int v3)] [.int v6, .int a3] M Q
      refine e_callS (f2 := 0) (l2 := 0) (ν := mtJ9_max_7cf53) (as := [.int a3, .int v6]) cs_RX0_93 ⟨Nat.le_of_ble_eq_true rfl, Nat.le_of_ble_eq_true rfl⟩ rfl rfl (Nat.le_of_ble_eq_true rfl) dX0_mostComing_44 ?_
      refine ctJ9_max_7cf53 a3 v6 ?_
      show Ev (wX, z) mtX0_mostComing 2 44 47 [some (.ref 46), some (.int a1), some (.int a2), some (.int a3), some (.int a4), some (.int v3)] [.int (fpJ9_max_7cf53 a3 v6)] M Q
      refine lv1 (P := fun v7 => Ev (wX, z) mtX0_mostComing 2 44 47 [some (.ref 46), some (.int a1), some (.int a2), some (.int a3), some (.int a4), some (.int v3)] [.int v7] M Q) h (fun v7 h => ?_)
      refine e_istore_n dX0_mostComing_47 (by decide) rfl ?_
      refine lv1e h (fun v8 ev8 h => ?_)
      refine e_iinc v8 dX0_mostComing_48 rfl ev8 (by decide) rfl ?_
      refine e_goto 5 dX0_mostComing_51 (by decide) ?_
      refine e_forget [some (.ref 46), some (.int a1), some (.int a2), some (.int v7), some (.int v8), none] (leL_s (leL_s (leL_s (leL_s (leL_s (leL_n leL_0)))))) ?_
      have h := ok_some h
      exact h
theorem elX0_mostComing_l5 {z : Zt} {Q : Option Value → Me → Prop} (a1 : Int32) (a2 : Int32) (M : Me) (N : Nat) (s : Int32 × Int32) (h : ok (lp (fpX0_mostComing_l5 a1 a2 M) N s) (XX0_mostComing_5 z a1 a2 M Q)) : EX0_mostComing_5 z a1 a2 M Q s :=
  lp_ind (fun s h => ebX0_mostComing_l5s a1 a2 s.1 s.2 M h) N s h
def fpX0_mostComing (a1 : Int32) (a2 : Int32) (M : Me) : Option (Int32) := (lp (fpX0_mostComing_l5 a1 a2 M) FU ((-1 : Int32), (0 : Int32))).bind fun r9 =>
 some r9
set_option maxRecDepth 20000 in
theorem ctX0_mostComing {z : Zt} {M : Me} {Q : Option Value → Me → Prop} (a1 : Int32) (a2 : Int32)  (h : ok (fpX0_mostComing a1 a2 M) (fun a => Q (some (.int a)) M)) : EvM (wX, z) mtX0_mostComing 2 44 [.ref 46, .int a1, .int a2] M Q := by
  refine evm_of [some (.ref 46), some (.int a1), some (.int a2), none, none, none] 3 (by decide +kernel) (Nat.le_of_ble_eq_true rfl) rfl ?_
  unfold fpX0_mostComing at h
  refine e_iconst (-1 : Int32) dX0_mostComing_0 (by decide) ?_
  refine e_istore_n dX0_mostComing_1 (by decide) rfl ?_
  refine e_iconst (0 : Int32) dX0_mostComing_2 (by decide) ?_
  refine e_istore dX0_mostComing_3 (by decide) rfl ?_
  refine e_forget [some (.ref 46), some (.int a1), some (.int a2), some (.int (-1 : Int32)), some (.int (0 : Int32)), none] (leL_s (leL_s (leL_s (leL_s (leL_s (leL_n leL_0)))))) ?_
  refine elX0_mostComing_l5 a1 a2 M FU ((-1 : Int32), (0 : Int32)) (ok_bnd h (fun r9 h => ?_))
  show Ev (wX, z) mtX0_mostComing 2 44 54 [none, none, none, some (.int r9), none, none] [] M Q
  refine e_iload_n dX0_mostComing_54 rfl ?_
  have h := ok_some h
  exact e_iret rfl dX0_mostComing_55 h
def XX0_spread_3 (z : Zt) (a2 : Int32) (a3 : Int32) (a4 : Int32) (Q : Option Value → Me → Prop) : (Me) → Prop := fun t => Ev (wX, z) mtX0_spread 3 69 132 [none, none, none, none, none, none, none, none, none] [] t Q
def EX0_spread_3 (z : Zt) (a2 : Int32) (a3 : Int32) (a4 : Int32) (Q : Option Value → Me → Prop) : (Int32 × Me) → Prop := fun s => Ev (wX, z) mtX0_spread 3 69 3 [some (.ref 46), none, some (.int a2), some (.int a3), some (.int a4), some (.int s.1), none, none, none] [] s.2 Q
def GX0_spread_3 (z : Zt) (a2 : Int32) (a3 : Int32) (a4 : Int32) (Q : Option Value → Me → Prop) : (Int32 × Me) ⊕ (Me) → Prop := Sum.elim (EX0_spread_3 z a2 a3 a4 Q) (XX0_spread_3 z a2 a3 a4 Q)
def XX0_spread_29 (z : Zt) (a2 : Int32) (a3 : Int32) (a4 : Int32) (a5 : Int32) (Q : Option Value → Me → Prop) : (Me) → Prop := fun t => Ev (wX, z) mtX0_spread 3 69 126 [some (.ref 46), none, some (.int a2), some (.int a3), some (.int a4), some (.int a5), none, none, none] [] t Q
def EX0_spread_29 (z : Zt) (a2 : Int32) (a3 : Int32) (a4 : Int32) (a5 : Int32) (Q : Option Value → Me → Prop) : (Int32 × Me) → Prop := fun s => Ev (wX, z) mtX0_spread 3 69 29 [some (.ref 46), none, some (.int a2), some (.int a3), some (.int a4), some (.int a5), some (.int s.1), none, none] [] s.2 Q
def GX0_spread_29 (z : Zt) (a2 : Int32) (a3 : Int32) (a4 : Int32) (a5 : Int32) (Q : Option Value → Me → Prop) : (Int32 × Me) ⊕ (Me) → Prop := Sum.elim (EX0_spread_29 z a2 a3 a4 a5 Q) (XX0_spread_29 z a2 a3 a4 a5 Q)
def fpX0_spread_b97_29 (a2 : Int32) (a3 : Int32) (a4 : Int32) (a5 : Int32) (a6 : Int32) (t0 : Int32) (M : Me) : Option ((Int32 × Me) ⊕ (Me)) := (fpX0_ran a6 t0 M).bind fun v10 =>
 (inb ((a5 * (8 : Int32)) + a6) 2048).bind fun k11 =>
 letv (wrM M 53 k11 v10) fun M12 =>
 letv (a6 + (1 : Int32)) fun v13 =>
 some (.inl (v13, M12))
set_option maxRecDepth 20000 in
theorem ebX0_spread_b97_29 {z : Zt} {Q : Option Value → Me → Prop} (a2 : Int32) (a3 : Int32) (a4 : Int32) (a5 : Int32) (a6 : Int32) (t0 : Int32) (M : Me) (h : ok (fpX0_spread_b97_29 a2 a3 a4 a5 a6 t0 M) (GX0_spread_29 z a2 a3 a4 a5 Q)) : Ev (wX, z) mtX0_spread 3 69 97 [some (.ref 46), none, some (.int a2), some (.int a3), some (.int a4), some (.int a5), some (.int a6), none, none] [.int t0] M Q := by
  unfold fpX0_spread_b97_29 at h
  refine e_istore dX0_spread_97 (by decide) rfl ?_
  refine e_aload_n dX0_spread_99 rfl ?_
  refine e_getR fa_RX0_46 is_X46 rfl dX0_spread_100 ?_
  refine e_iload dX0_spread_103 rfl ?_
  refine e_bipush (8 : Int32) dX0_spread_105 (by decide) ?_
  refine e_imul dX0_spread_107 ?_
  refine e_iload dX0_spread_108 rfl ?_
  refine e_iadd dX0_spread_110 ?_
  refine e_aload_n dX0_spread_111 rfl ?_
  refine e_iload dX0_spread_112 rfl ?_
  refine e_iload dX0_spread_114 rfl ?_
  refine e_callV (f2 := 1) (l2 := 21) (ν := mtX0_ran) (as := [.int a6, .int t0]) cv_RX0_116 is_X46 kc_6 ⟨Nat.le_of_ble_eq_true rfl, Nat.le_of_ble_eq_true rfl⟩ rfl rfl (Nat.le_of_ble_eq_true rfl) dX0_spread_116 ?_
  refine ctX0_ran a6 t0 (ok_bnd h (fun v10 h => ?_))
  show Ev (wX, z) mtX0_spread 3 69 119 [some (.ref 46), none, some (.int a2), some (.int a3), some (.int a4), some (.int a5), some (.int a6), none, some (.int t0)] [.int v10, .int ((a5 * (8 : Int32)) + a6), .ref 53] M Q
  refine ok_inb h (fun k11 ek11 ik11 h => ?_)
  refine e_iastK ia_X53 ik11 ek11 dX0_spread_119 ?_
  refine lv1 (P := fun M12 => Ev (wX, z) mtX0_spread 3 69 120 [some (.ref 46), none, some (.int a2), some (.int a3), some (.int a4), some (.int a5), some (.int a6), none, some (.int t0)] [] M12 Q) h (fun M12 h => ?_)
  refine lv1e h (fun v13 ev13 h => ?_)
  refine e_iinc v13 dX0_spread_120 rfl ev13 (by decide) rfl ?_
  refine e_goto 29 dX0_spread_123 (by decide) ?_
  refine e_forget [some (.ref 46), none, some (.int a2), some (.int a3), some (.int a4), some (.int a5), some (.int v13), none, none] (leL_s (leL_n (leL_s (leL_s (leL_s (leL_s (leL_s (leL_n (leL_n leL_0))))))))) ?_
  have h := ok_some h
  exact h
def fpX0_spread_l29s (a2 : Int32) (a3 : Int32) (a4 : Int32) (a5 : Int32) (a6 : Int32) (M : Me) : Option ((Int32 × Me) ⊕ (Me)) := (if (M.1 46 2) ≤ a6 then
 some (.inr M)
 else
 (if (fpX0_isIn a6 a5) = 0 then
 letv (a6 + (1 : Int32)) fun v6 =>
 some (.inl (v6, M))
 else
 letv (a5 &&& (((1 : Int32) <<< (a6 &&& 31)) ^^^ (-1 : Int32))) fun v7 =>
 (if v7 = 0 then
 (if (fpX0_isIn a6 a4) = 0 then
 fpX0_spread_b97_29 a2 a3 a4 a5 a6 (-1 : Int32) M
 else
 (fpX0_carried a3 a2 a6 M).bind fun v14 =>
 fpX0_spread_b97_29 a2 a3 a4 a5 a6 v14 M)
 else
 (fpX0_mostComing v7 a6 M).bind fun v15 =>
 fpX0_spread_b97_29 a2 a3 a4 a5 a6 v15 M)))
def fpX0_spread_l29 (a2 : Int32) (a3 : Int32) (a4 : Int32) (a5 : Int32) (s : Int32 × Me) : Option ((Int32 × Me) ⊕ (Me)) := fpX0_spread_l29s a2 a3 a4 a5 s.1 s.2
set_option maxRecDepth 20000 in
theorem ebX0_spread_l29s {z : Zt} {Q : Option Value → Me → Prop} (a2 : Int32) (a3 : Int32) (a4 : Int32) (a5 : Int32) (a6 : Int32) (M : Me) (h : ok (fpX0_spread_l29s a2 a3 a4 a5 a6 M) (GX0_spread_29 z a2 a3 a4 a5 Q)) : Ev (wX, z) mtX0_spread 3 69 29 [some (.ref 46), none, some (.int a2), some (.int a3), some (.int a4), some (.int a5), some (.int a6), none, none] [] M Q := by
  unfold fpX0_spread_l29s at h
  refine e_iload dX0_spread_29 rfl ?_
  refine e_aload_n dX0_spread_31 rfl ?_
  refine e_getI fa_RX0_19 is_X46 dX0_spread_32 ?_
  refine e_icmp_ge 126 dX0_spread_35 (by decide) (fun c4 => ?_) (fun c4 => ?_)
  · have h := ok_t c4 h
    refine e_forget [some (.ref 46), none, some (.int a2), some (.int a3), some (.int a4), some (.int a5), none, none, none] (leL_s (leL_n (leL_s (leL_s (leL_s (leL_s (leL_n (leL_n (leL_n leL_0))))))))) ?_
    have h := ok_some h
    exact h
  · have h := ok_f c4 h
    refine e_iload dX0_spread_38 rfl ?_
    refine e_iload dX0_spread_40 rfl ?_
    refine e_callS (f2 := 0) (l2 := 0) (ν := mtX0_isIn) (as := [.int a6, .int a5]) cs_RX0_98 ⟨Nat.le_of_ble_eq_true rfl, Nat.le_of_ble_eq_true rfl⟩ rfl rfl (Nat.le_of_ble_eq_true rfl) dX0_spread_42 ?_
    refine ctX0_isIn a6 a5 ?_
    show Ev (wX, z) mtX0_spread 3 69 45 [some (.ref 46), none, some (.int a2), some (.int a3), some (.int a4), some (.int a5), some (.int a6), none, none] [.int (fpX0_isIn a6 a5)] M Q
    refine e_if_eq 120 dX0_spread_45 (by decide) (fun c5 => ?_) (fun c5 => ?_)
    · have h := ok_t c5 h
      refine lv1e h (fun v6 ev6 h => ?_)
      refine e_iinc v6 dX0_spread_120 rfl ev6 (by decide) rfl ?_
      refine e_goto 29 dX0_spread_123 (by decide) ?_
      refine e_forget [some (.ref 46), none, some (.int a2), some (.int a3), some (.int a4), some (.int a5), some (.int v6), none, none] (leL_s (leL_n (leL_s (leL_s (leL_s (leL_s (leL_s (leL_n (leL_n leL_0))))))))) ?_
      have h := ok_some h
      exact h
    · have h := ok_f c5 h
      refine e_iload dX0_spread_48 rfl ?_
      refine e_iconst (1 : Int32) dX0_spread_50 (by decide) ?_
      refine e_iload dX0_spread_51 rfl ?_
      refine e_ishl dX0_spread_53 ?_
      refine e_iconst (-1 : Int32) dX0_spread_54 (by decide) ?_
      refine e_ixor dX0_spread_55 ?_
      refine e_iand dX0_spread_56 ?_
      refine lv1 (P := fun v7 => Ev (wX, z) mtX0_spread 3 69 57 [some (.ref 46), none, some (.int a2), some (.int a3), some (.int a4), some (.int a5), some (.int a6), none, none] [.int v7] M Q) h (fun v7 h => ?_)
      refine e_istore dX0_spread_57 (by decide) rfl ?_
      refine e_iload dX0_spread_59 rfl ?_
      refine e_if_eq 75 dX0_spread_61 (by decide) (fun c8 => ?_) (fun c8 => ?_)
      · have h := ok_t c8 h
        refine e_iload dX0_spread_75 rfl ?_
        refine e_iload dX0_spread_77 rfl ?_
        refine e_callS (f2 := 0) (l2 := 0) (ν := mtX0_isIn) (as := [.int a6, .int a4]) cs_RX0_98 ⟨Nat.le_of_ble_eq_true rfl, Nat.le_of_ble_eq_true rfl⟩ rfl rfl (Nat.le_of_ble_eq_true rfl) dX0_spread_79 ?_
        refine ctX0_isIn a6 a4 ?_
        show Ev (wX, z) mtX0_spread 3 69 82 [some (.ref 46), none, some (.int a2), some (.int a3), some (.int a4), some (.int a5), some (.int a6), some (.int v7), none] [.int (fpX0_isIn a6 a4)] M Q
        refine e_if_eq 96 dX0_spread_82 (by decide) (fun c9 => ?_) (fun c9 => ?_)
        · have h := ok_t c9 h
          refine e_iconst (-1 : Int32) dX0_spread_96 (by decide) ?_
          refine e_forget [some (.ref 46), none, some (.int a2), some (.int a3), some (.int a4), some (.int a5), some (.int a6), none, none] (leL_s (leL_n (leL_s (leL_s (leL_s (leL_s (leL_s (leL_n (leL_n leL_0))))))))) ?_
          exact ebX0_spread_b97_29 a2 a3 a4 a5 a6 (-1 : Int32) M h
        · have h := ok_f c9 h
          refine e_aload_n dX0_spread_85 rfl ?_
          refine e_iload_n dX0_spread_86 rfl ?_
          refine e_iload_n dX0_spread_87 rfl ?_
          refine e_iload dX0_spread_88 rfl ?_
          refine e_callV (f2 := 1) (l2 := 21) (ν := mtX0_carried) (as := [.int a3, .int a2, .int a6]) cv_RX0_113 is_X46 kc_6 ⟨Nat.le_of_ble_eq_true rfl, Nat.le_of_ble_eq_true rfl⟩ rfl rfl (Nat.le_of_ble_eq_true rfl) dX0_spread_90 ?_
          refine ctX0_carried a3 a2 a6 (ok_bnd h (fun v14 h => ?_))
          show Ev (wX, z) mtX0_spread 3 69 93 [some (.ref 46), none, some (.int a2), some (.int a3), some (.int a4), some (.int a5), some (.int a6), some (.int v7), none] [.int v14] M Q
          refine e_goto 97 dX0_spread_93 (by decide) ?_
          refine e_forget [some (.ref 46), none, some (.int a2), some (.int a3), some (.int a4), some (.int a5), some (.int a6), none, none] (leL_s (leL_n (leL_s (leL_s (leL_s (leL_s (leL_s (leL_n (leL_n leL_0))))))))) ?_
          exact ebX0_spread_b97_29 a2 a3 a4 a5 a6 v14 M h
      · have h := ok_f c8 h
        refine e_aload_n dX0_spread_64 rfl ?_
        refine e_iload dX0_spread_65 rfl ?_
        refine e_iload dX0_spread_67 rfl ?_
        refine e_callV (f2 := 2) (l2 := 44) (ν := mtX0_mostComing) (as := [.int v7, .int a6]) cv_RX0_129 is_X46 kc_6 ⟨Nat.le_of_ble_eq_true rfl, Nat.le_of_ble_eq_true rfl⟩ rfl rfl (Nat.le_of_ble_eq_true rfl) dX0_spread_69 ?_
        refine ctX0_mostComing v7 a6 (ok_bnd h (fun v15 h => ?_))
        show Ev (wX, z) mtX0_spread 3 69 72 [some (.ref 46), none, some (.int a2), some (.int a3), some (.int a4), some (.int a5), some (.int a6), some (.int v7), none] [.int v15] M Q
        refine e_goto 97 dX0_spread_72 (by decide) ?_
        refine e_forget [some (.ref 46), none, some (.int a2), some (.int a3), some (.int a4), some (.int a5), some (.int a6), none, none] (leL_s (leL_n (leL_s (leL_s (leL_s (leL_s (leL_s (leL_n (leL_n leL_0))))))))) ?_
        exact ebX0_spread_b97_29 a2 a3 a4 a5 a6 v15 M h
theorem elX0_spread_l29 {z : Zt} {Q : Option Value → Me → Prop} (a2 : Int32) (a3 : Int32) (a4 : Int32) (a5 : Int32) (N : Nat) (s : Int32 × Me) (h : ok (lp (fpX0_spread_l29 a2 a3 a4 a5) N s) (XX0_spread_29 z a2 a3 a4 a5 Q)) : EX0_spread_29 z a2 a3 a4 a5 Q s :=
  lp_ind (fun s h => ebX0_spread_l29s a2 a3 a4 a5 s.1 s.2 h) N s h
def fpX0_spread_l3s (a2 : Int32) (a3 : Int32) (a4 : Int32) (a5 : Int32) (M : Me) : Option ((Int32 × Me) ⊕ (Me)) := (if ((1 : Int32) <<< ((M.1 46 2) &&& 31)) ≤ a5 then
 some (.inr M)
 else
 (if (a5 &&& ((M.1 46 3) ^^^ (-1 : Int32))) = 0 then
 (lp (fpX0_spread_l29 a2 a3 a4 a5) FU ((0 : Int32), M)).bind fun r16 =>
 letv (a5 + (1 : Int32)) fun v17 =>
 some (.inl (v17, r16))
 else
 letv (a5 + (1 : Int32)) fun v3 =>
 some (.inl (v3, M))))
def fpX0_spread_l3 (a2 : Int32) (a3 : Int32) (a4 : Int32) (s : Int32 × Me) : Option ((Int32 × Me) ⊕ (Me)) := fpX0_spread_l3s a2 a3 a4 s.1 s.2
set_option maxRecDepth 20000 in
theorem ebX0_spread_l3s {z : Zt} {Q : Option Value → Me → Prop} (a2 : Int32) (a3 : Int32) (a4 : Int32) (a5 : Int32) (M : Me) (h : ok (fpX0_spread_l3s a2 a3 a4 a5 M) (GX0_spread_3 z a2 a3 a4 Q)) : Ev (wX, z) mtX0_spread 3 69 3 [some (.ref 46), none, some (.int a2), some (.int a3), some (.int a4), some (.int a5), none, none, none] [] M Q := by
  unfold fpX0_spread_l3s at h
  refine e_iload dX0_spread_3 rfl ?_
  refine e_iconst (1 : Int32) dX0_spread_5 (by decide) ?_
  refine e_aload_n dX0_spread_6 rfl ?_
  refine e_getI fa_RX0_19 is_X46 dX0_spread_7 ?_
  refine e_ishl dX0_spread_10 ?_
  refine e_icmp_ge 132 dX0_spread_11 (by decide) (fun c1 => ?_) (fun c1 => ?_)
  · have h := ok_t c1 h
    refine e_forget [none, none, none, none, none, none, none, none, none] (leL_n (leL_n (leL_n (leL_n (leL_n (leL_n (leL_n (leL_n (leL_n leL_0))))))))) ?_
    have h := ok_some h
    exact h
  · have h := ok_f c1 h
    refine e_iload dX0_spread_14 rfl ?_
    refine e_aload_n dX0_spread_16 rfl ?_
    refine e_getI fa_RX0_22 is_X46 dX0_spread_17 ?_
    refine e_iconst (-1 : Int32) dX0_spread_20 (by decide) ?_
    refine e_ixor dX0_spread_21 ?_
    refine e_iand dX0_spread_22 ?_
    refine e_if_ne 126 dX0_spread_23 (by decide) (fun c2 => ?_) (fun c2 => ?_)
    · have h := ok_f c2 h
      refine lv1e h (fun v3 ev3 h => ?_)
      refine e_iinc v3 dX0_spread_126 rfl ev3 (by decide) rfl ?_
      refine e_goto 3 dX0_spread_129 (by decide) ?_
      refine e_forget [some (.ref 46), none, some (.int a2), some (.int a3), some (.int a4), some (.int v3), none, none, none] (leL_s (leL_n (leL_s (leL_s (leL_s (leL_s (leL_n (leL_n (leL_n leL_0))))))))) ?_
      have h := ok_some h
      exact h
    · have h := ok_t c2 h
      refine e_iconst (0 : Int32) dX0_spread_26 (by decide) ?_
      refine e_istore dX0_spread_27 (by decide) rfl ?_
      refine e_forget [some (.ref 46), none, some (.int a2), some (.int a3), some (.int a4), some (.int a5), some (.int (0 : Int32)), none, none] (leL_s (leL_n (leL_s (leL_s (leL_s (leL_s (leL_s (leL_n (leL_n leL_0))))))))) ?_
      refine elX0_spread_l29 a2 a3 a4 a5 FU ((0 : Int32), M) (ok_bnd h (fun r16 h => ?_))
      show Ev (wX, z) mtX0_spread 3 69 126 [some (.ref 46), none, some (.int a2), some (.int a3), some (.int a4), some (.int a5), none, none, none] [] r16 Q
      refine lv1e h (fun v17 ev17 h => ?_)
      refine e_iinc v17 dX0_spread_126 rfl ev17 (by decide) rfl ?_
      refine e_goto 3 dX0_spread_129 (by decide) ?_
      refine e_forget [some (.ref 46), none, some (.int a2), some (.int a3), some (.int a4), some (.int v17), none, none, none] (leL_s (leL_n (leL_s (leL_s (leL_s (leL_s (leL_n (leL_n (leL_n leL_0))))))))) ?_
      have h := ok_some h
      exact h
theorem elX0_spread_l3 {z : Zt} {Q : Option Value → Me → Prop} (a2 : Int32) (a3 : Int32) (a4 : Int32) (N : Nat) (s : Int32 × Me) (h : ok (lp (fpX0_spread_l3 a2 a3 a4) N s) (XX0_spread_3 z a2 a3 a4 Q)) : EX0_spread_3 z a2 a3 a4 Q s :=
  lp_ind (fun s h => ebX0_spread_l3s a2 a3 a4 s.1 s.2 h) N s h
def fpX0_spread (a1 : Int32) (a2 : Int32) (a3 : Int32) (a4 : Int32) (M : Me) : Option (Me) := (lp (fpX0_spread_l3 a2 a3 a4) FU (a1, M)).bind fun r18 =>
 some r18
set_option maxRecDepth 20000 in
theorem ctX0_spread {z : Zt} {M : Me} {Q : Option Value → Me → Prop} (a1 : Int32) (a2 : Int32) (a3 : Int32) (a4 : Int32)  (h : ok (fpX0_spread a1 a2 a3 a4 M) (fun a => Q none a)) : EvM (wX, z) mtX0_spread 3 69 [.ref 46, .int a1, .int a2, .int a3, .int a4] M Q := by
  refine evm_of [some (.ref 46), some (.int a1), some (.int a2), some (.int a3), some (.int a4), none, none, none, none] 4 (by decide +kernel) (Nat.le_of_ble_eq_true rfl) rfl ?_
  unfold fpX0_spread at h
  refine e_iload_n dX0_spread_0 rfl ?_
  refine e_istore dX0_spread_1 (by decide) rfl ?_
  refine e_forget [some (.ref 46), none, some (.int a2), some (.int a3), some (.int a4), some (.int a1), none, none, none] (leL_s (leL_n (leL_s (leL_s (leL_s (leL_s (leL_n (leL_n (leL_n leL_0))))))))) ?_
  refine elX0_spread_l3 a2 a3 a4 FU (a1, M) (ok_bnd h (fun r18 h => ?_))
  show Ev (wX, z) mtX0_spread 3 69 132 [none, none, none, none, none, none, none, none, none] [] r18 Q
  have h := ok_some h
  exact e_vret rfl dX0_spread_132 h
def fpX0_mostHome (a1 : Int32) (M : Me) : Option (Int32) := (if (a1 &&& ((M.1 46 3) ^^^ (-1 : Int32))) = 0 then
 (fpX0_mostComing a1 (9 : Int32) M).bind fun v3 =>
 some v3
 else
 some (-1 : Int32))
set_option maxRecDepth 20000 in
theorem ctX0_mostHome {z : Zt} {M : Me} {Q : Option Value → Me → Prop} (a1 : Int32)  (h : ok (fpX0_mostHome a1 M) (fun a => Q (some (.int a)) M)) : EvM (wX, z) mtX0_mostHome 3 69 [.ref 46, .int a1] M Q := by
  refine evm_of [some (.ref 46), some (.int a1)] 0 (by decide +kernel) (Nat.le_of_ble_eq_true rfl) rfl ?_
  unfold fpX0_mostHome at h
  refine e_iload_n dX0_mostHome_0 rfl ?_
  refine e_aload_n dX0_mostHome_1 rfl ?_
  refine e_getI fa_RX0_22 is_X46 dX0_mostHome_2 ?_
  refine e_iconst (-1 : Int32) dX0_mostHome_5 (by decide) ?_
  refine e_ixor dX0_mostHome_6 ?_
  refine e_iand dX0_mostHome_7 ?_
  refine e_if_ne 21 dX0_mostHome_8 (by decide) (fun c2 => ?_) (fun c2 => ?_)
  · have h := ok_f c2 h
    refine e_iconst (-1 : Int32) dX0_mostHome_21 (by decide) ?_
    have h := ok_some h
    exact e_iret rfl dX0_mostHome_22 h
  · have h := ok_t c2 h
    refine e_aload_n dX0_mostHome_11 rfl ?_
    refine e_iload_n dX0_mostHome_12 rfl ?_
    refine e_bipush (9 : Int32) dX0_mostHome_13 (by decide) ?_
    refine e_callV (f2 := 2) (l2 := 44) (ν := mtX0_mostComing) (as := [.int a1, .int (9 : Int32)]) cv_RX0_129 is_X46 kc_6 ⟨Nat.le_of_ble_eq_true rfl, Nat.le_of_ble_eq_true rfl⟩ rfl rfl (Nat.le_of_ble_eq_true rfl) dX0_mostHome_15 ?_
    refine ctX0_mostComing a1 (9 : Int32) (ok_bnd h (fun v3 h => ?_))
    show Ev (wX, z) mtX0_mostHome 3 69 18 [some (.ref 46), some (.int a1)] [.int v3] M Q
    refine e_goto 22 dX0_mostHome_18 (by decide) ?_
    have h := ok_some h
    exact e_iret rfl dX0_mostHome_22 h
def XX0_mostFrom_18 (z : Zt) (M : Me) (Q : Option Value → Me → Prop) : (Int32) → Prop := fun t => Ev (wX, z) mtX0_mostFrom 4 97 48 [none, none, none, none, some (.int t), none] [] M Q
def EX0_mostFrom_18 (z : Zt) (M : Me) (Q : Option Value → Me → Prop) : (Int32 × Int32) → Prop := fun s => Ev (wX, z) mtX0_mostFrom 4 97 18 [some (.ref 46), none, none, none, some (.int s.1), some (.int s.2)] [] M Q
def GX0_mostFrom_18 (z : Zt) (M : Me) (Q : Option Value → Me → Prop) : (Int32 × Int32) ⊕ (Int32) → Prop := Sum.elim (EX0_mostFrom_18 z M Q) (XX0_mostFrom_18 z M Q)
def fpX0_mostFrom_l18s (a4 : Int32) (a5 : Int32) (M : Me) : Option ((Int32 × Int32) ⊕ (Int32)) := (if ((1 : Int32) <<< ((M.1 46 2) &&& 31)) ≤ a5 then
 some (.inr a4)
 else
 (fpX0_mostHome a5 M).bind fun v3 =>
 letv (fpJ9_max_7cf53 a4 v3) fun v4 =>
 letv (a5 + (1 : Int32)) fun v5 =>
 some (.inl (v4, v5)))
def fpX0_mostFrom_l18 (M : Me) (s : Int32 × Int32) : Option ((Int32 × Int32) ⊕ (Int32)) := fpX0_mostFrom_l18s s.1 s.2 M
set_option maxRecDepth 20000 in
theorem ebX0_mostFrom_l18s {z : Zt} {Q : Option Value → Me → Prop} (a4 : Int32) (a5 : Int32) (M : Me) (h : ok (fpX0_mostFrom_l18s a4 a5 M) (GX0_mostFrom_18 z M Q)) : Ev (wX, z) mtX0_mostFrom 4 97 18 [some (.ref 46), none, none, none, some (.int a4), some (.int a5)] [] M Q := by
  unfold fpX0_mostFrom_l18s at h
  refine e_iload dX0_mostFrom_18 rfl ?_
  refine e_iconst (1 : Int32) dX0_mostFrom_20 (by decide) ?_
  refine e_aload_n dX0_mostFrom_21 rfl ?_
  refine e_getI fa_RX0_19 is_X46 dX0_mostFrom_22 ?_
  refine e_ishl dX0_mostFrom_25 ?_
  refine e_icmp_ge 48 dX0_mostFrom_26 (by decide) (fun c2 => ?_) (fun c2 => ?_)
  · have h := ok_t c2 h
    refine e_forget [none, none, none, none, some (.int a4), none] (leL_n (leL_n (leL_n (leL_n (leL_s (leL_n leL_0)))))) ?_
    have h := ok_some h
    exact h
  · have h := ok_f c2 h
    refine e_iload dX0_mostFrom_29 rfl ?_
    refine e_aload_n dX0_mostFrom_31 rfl ?_
    refine e_iload dX0_mostFrom_32 rfl ?_
    refine e_callV (f2 := 3) (l2 := 69) (ν := mtX0_mostHome) (as := [.int a5]) cv_RX0_126 is_X46 kc_6 ⟨Nat.le_of_ble_eq_true rfl, Nat.le_of_ble_eq_true rfl⟩ rfl rfl (Nat.le_of_ble_eq_true rfl) dX0_mostFrom_34 ?_
    refine ctX0_mostHome a5 (ok_bnd h (fun v3 h => ?_))
    show Ev (wX, z) mtX0_mostFrom 4 97 37 [some (.ref 46), none, none, none, some (.int a4), some (.int a5)] [.int v3, .int a4] M Q
    refine e_callS (f2 := 0) (l2 := 0) (ν := mtJ9_max_7cf53) (as := [.int a4, .int v3]) cs_RX0_93 ⟨Nat.le_of_ble_eq_true rfl, Nat.le_of_ble_eq_true rfl⟩ rfl rfl (Nat.le_of_ble_eq_true rfl) dX0_mostFrom_37 ?_
    refine ctJ9_max_7cf53 a4 v3 ?_
    show Ev (wX, z) mtX0_mostFrom 4 97 40 [some (.ref 46), none, none, none, some (.int a4), some (.int a5)] [.int (fpJ9_max_7cf53 a4 v3)] M Q
    refine lv1 (P := fun v4 => Ev (wX, z) mtX0_mostFrom 4 97 40 [some (.ref 46), none, none, none, some (.int a4), some (.int a5)] [.int v4] M Q) h (fun v4 h => ?_)
    refine e_istore dX0_mostFrom_40 (by decide) rfl ?_
    refine lv1e h (fun v5 ev5 h => ?_)
    refine e_iinc v5 dX0_mostFrom_42 rfl ev5 (by decide) rfl ?_
    refine e_goto 18 dX0_mostFrom_45 (by decide) ?_
    refine e_forget [some (.ref 46), none, none, none, some (.int v4), some (.int v5)] (leL_s (leL_n (leL_n (leL_n (leL_s (leL_s leL_0)))))) ?_
    have h := ok_some h
    exact h
theorem elX0_mostFrom_l18 {z : Zt} {Q : Option Value → Me → Prop} (M : Me) (N : Nat) (s : Int32 × Int32) (h : ok (lp (fpX0_mostFrom_l18 M) N s) (XX0_mostFrom_18 z M Q)) : EX0_mostFrom_18 z M Q s :=
  lp_ind (fun s h => ebX0_mostFrom_l18s s.1 s.2 M h) N s h
def fpX0_mostFrom (a1 : Int32) (a2 : Int32) (a3 : Int32) (M : Me) : Option (Int32 × Me) := (fpX0_spread a1 (8 : Int32) a2 (M.1 46 3) M).bind fun q1 =>
 (lp (fpX0_mostFrom_l18 q1) FU (a3, a1)).bind fun r6 =>
 some (r6, q1)
set_option maxRecDepth 20000 in
theorem ctX0_mostFrom {z : Zt} {M : Me} {Q : Option Value → Me → Prop} (a1 : Int32) (a2 : Int32) (a3 : Int32)  (h : ok (fpX0_mostFrom a1 a2 a3 M) (fun a => Q (some (.int a.1)) a.2)) : EvM (wX, z) mtX0_mostFrom 4 97 [.ref 46, .int a1, .int a2, .int a3] M Q := by
  refine evm_of [some (.ref 46), some (.int a1), some (.int a2), some (.int a3), none, none] 2 (by decide +kernel) (Nat.le_of_ble_eq_true rfl) rfl ?_
  unfold fpX0_mostFrom at h
  refine e_aload_n dX0_mostFrom_0 rfl ?_
  refine e_iload_n dX0_mostFrom_1 rfl ?_
  refine e_bipush (8 : Int32) dX0_mostFrom_2 (by decide) ?_
  refine e_iload_n dX0_mostFrom_4 rfl ?_
  refine e_aload_n dX0_mostFrom_5 rfl ?_
  refine e_getI fa_RX0_22 is_X46 dX0_mostFrom_6 ?_
  refine e_callV (f2 := 3) (l2 := 69) (ν := mtX0_spread) (as := [.int a1, .int (8 : Int32), .int a2, .int (M.1 46 3)]) cv_RX0_122 is_X46 kc_6 ⟨Nat.le_of_ble_eq_true rfl, Nat.le_of_ble_eq_true rfl⟩ rfl rfl (Nat.le_of_ble_eq_true rfl) dX0_mostFrom_9 ?_
  refine ctX0_spread a1 (8 : Int32) a2 (M.1 46 3) (ok_bnd h (fun q1 h => ?_))
  show Ev (wX, z) mtX0_mostFrom 4 97 12 [some (.ref 46), some (.int a1), some (.int a2), some (.int a3), none, none] [] q1 Q
  refine e_iload_n dX0_mostFrom_12 rfl ?_
  refine e_istore dX0_mostFrom_13 (by decide) rfl ?_
  refine e_iload_n dX0_mostFrom_15 rfl ?_
  refine e_istore dX0_mostFrom_16 (by decide) rfl ?_
  refine e_forget [some (.ref 46), none, none, none, some (.int a3), some (.int a1)] (leL_s (leL_n (leL_n (leL_n (leL_s (leL_s leL_0)))))) ?_
  refine elX0_mostFrom_l18 q1 FU (a3, a1) (ok_bnd h (fun r6 h => ?_))
  show Ev (wX, z) mtX0_mostFrom 4 97 48 [none, none, none, none, some (.int r6), none] [] q1 Q
  refine e_iload dX0_mostFrom_48 rfl ?_
  have h := ok_some h
  exact e_iret rfl dX0_mostFrom_50 h
def fpX0_mostWith (a1 : Int32) (M : Me) : Option (Int32 × Me) := (fpX0_carried a1 (8 : Int32) (9 : Int32) M).bind fun v1 =>
 (fpX0_mostFrom (1 : Int32) a1 v1 M).bind fun q2 =>
 some (q2.1, q2.2)
set_option maxRecDepth 20000 in
theorem ctX0_mostWith {z : Zt} {M : Me} {Q : Option Value → Me → Prop} (a1 : Int32)  (h : ok (fpX0_mostWith a1 M) (fun a => Q (some (.int a.1)) a.2)) : EvM (wX, z) mtX0_mostWith 5 122 [.ref 46, .int a1] M Q := by
  refine evm_of [some (.ref 46), some (.int a1)] 0 (by decide +kernel) (Nat.le_of_ble_eq_true rfl) rfl ?_
  unfold fpX0_mostWith at h
  refine e_aload_n dX0_mostWith_0 rfl ?_
  refine e_iconst (1 : Int32) dX0_mostWith_1 (by decide) ?_
  refine e_iload_n dX0_mostWith_2 rfl ?_
  refine e_aload_n dX0_mostWith_3 rfl ?_
  refine e_iload_n dX0_mostWith_4 rfl ?_
  refine e_bipush (8 : Int32) dX0_mostWith_5 (by decide) ?_
  refine e_bipush (9 : Int32) dX0_mostWith_7 (by decide) ?_
  refine e_callV (f2 := 1) (l2 := 21) (ν := mtX0_carried) (as := [.int a1, .int (8 : Int32), .int (9 : Int32)]) cv_RX0_113 is_X46 kc_6 ⟨Nat.le_of_ble_eq_true rfl, Nat.le_of_ble_eq_true rfl⟩ rfl rfl (Nat.le_of_ble_eq_true rfl) dX0_mostWith_9 ?_
  refine ctX0_carried a1 (8 : Int32) (9 : Int32) (ok_bnd h (fun v1 h => ?_))
  show Ev (wX, z) mtX0_mostWith 5 122 12 [some (.ref 46), some (.int a1)] [.int v1, .int a1, .int (1 : Int32), .ref 46] M Q
  refine e_callV (f2 := 4) (l2 := 97) (ν := mtX0_mostFrom) (as := [.int (1 : Int32), .int a1, .int v1]) cv_RX0_119 is_X46 kc_6 ⟨Nat.le_of_ble_eq_true rfl, Nat.le_of_ble_eq_true rfl⟩ rfl rfl (Nat.le_of_ble_eq_true rfl) dX0_mostWith_12 ?_
  refine ctX0_mostFrom (1 : Int32) a1 v1 (ok_bnd h (fun q2 h => ?_))
  show Ev (wX, z) mtX0_mostWith 5 122 15 [some (.ref 46), some (.int a1)] [.int q2.1] q2.2 Q
  have h := ok_some h
  exact e_iret rfl dX0_mostWith_15 h
def XX0_fewestBringing_23 (z : Zt) (a1 : Int32) (M : Me) (Q : Option Value → Me → Prop) : (Int32) → Prop := fun t => Ev (wX, z) mtX0_fewestBringing 4 90 60 [none, none, none, some (.int t), none] [] M Q
def EX0_fewestBringing_23 (z : Zt) (a1 : Int32) (M : Me) (Q : Option Value → Me → Prop) : (Int32 × Int32) → Prop := fun s => Ev (wX, z) mtX0_fewestBringing 4 90 23 [some (.ref 46), some (.int a1), none, some (.int s.1), some (.int s.2)] [] M Q
def GX0_fewestBringing_23 (z : Zt) (a1 : Int32) (M : Me) (Q : Option Value → Me → Prop) : (Int32 × Int32) ⊕ (Int32) → Prop := Sum.elim (EX0_fewestBringing_23 z a1 M Q) (XX0_fewestBringing_23 z a1 M Q)
def fpX0_fewestBringing_l23s (a1 : Int32) (a3 : Int32) (a4 : Int32) (M : Me) : Option ((Int32 × Int32) ⊕ (Int32)) := (if ((1 : Int32) <<< ((M.1 46 2) &&& 31)) ≤ a4 then
 some (.inr a3)
 else
 (fpX0_mostHome a4 M).bind fun v5 =>
 (if v5 = a1 then
 letv (fpJ9_min_7cf53 a3 (fpJ6_bitCount_0f7a4 a4)) fun v8 =>
 letv (a4 + (1 : Int32)) fun v9 =>
 some (.inl (v8, v9))
 else
 letv (a4 + (1 : Int32)) fun v7 =>
 some (.inl (a3, v7))))
def fpX0_fewestBringing_l23 (a1 : Int32) (M : Me) (s : Int32 × Int32) : Option ((Int32 × Int32) ⊕ (Int32)) := fpX0_fewestBringing_l23s a1 s.1 s.2 M
set_option maxRecDepth 20000 in
theorem ebX0_fewestBringing_l23s {z : Zt} {Q : Option Value → Me → Prop} (a1 : Int32) (a3 : Int32) (a4 : Int32) (M : Me) (h : ok (fpX0_fewestBringing_l23s a1 a3 a4 M) (GX0_fewestBringing_23 z a1 M Q)) : Ev (wX, z) mtX0_fewestBringing 4 90 23 [some (.ref 46), some (.int a1), none, some (.int a3), some (.int a4)] [] M Q := by
  unfold fpX0_fewestBringing_l23s at h
  refine e_iload dX0_fewestBringing_23 rfl ?_
  refine e_iconst (1 : Int32) dX0_fewestBringing_25 (by decide) ?_
  refine e_aload_n dX0_fewestBringing_26 rfl ?_
  refine e_getI fa_RX0_19 is_X46 dX0_fewestBringing_27 ?_
  refine e_ishl dX0_fewestBringing_30 ?_
  refine e_icmp_ge 60 dX0_fewestBringing_31 (by decide) (fun c4 => ?_) (fun c4 => ?_)
  · have h := ok_t c4 h
    refine e_forget [none, none, none, some (.int a3), none] (leL_n (leL_n (leL_n (leL_s (leL_n leL_0))))) ?_
    have h := ok_some h
    exact h
  · have h := ok_f c4 h
    refine e_aload_n dX0_fewestBringing_34 rfl ?_
    refine e_iload dX0_fewestBringing_35 rfl ?_
    refine e_callV (f2 := 3) (l2 := 69) (ν := mtX0_mostHome) (as := [.int a4]) cv_RX0_126 is_X46 kc_6 ⟨Nat.le_of_ble_eq_true rfl, Nat.le_of_ble_eq_true rfl⟩ rfl rfl (Nat.le_of_ble_eq_true rfl) dX0_fewestBringing_37 ?_
    refine ctX0_mostHome a4 (ok_bnd h (fun v5 h => ?_))
    show Ev (wX, z) mtX0_fewestBringing 4 90 40 [some (.ref 46), some (.int a1), none, some (.int a3), some (.int a4)] [.int v5] M Q
    refine e_iload_n dX0_fewestBringing_40 rfl ?_
    refine e_icmp_ne 54 dX0_fewestBringing_41 (by decide) (fun c6 => ?_) (fun c6 => ?_)
    · have h := ok_f c6 h
      refine lv1e h (fun v7 ev7 h => ?_)
      refine e_iinc v7 dX0_fewestBringing_54 rfl ev7 (by decide) rfl ?_
      refine e_goto 23 dX0_fewestBringing_57 (by decide) ?_
      refine e_forget [some (.ref 46), some (.int a1), none, some (.int a3), some (.int v7)] (leL_s (leL_s (leL_n (leL_s (leL_s leL_0))))) ?_
      have h := ok_some h
      exact h
    · have h := ok_t c6 h
      refine e_iload_n dX0_fewestBringing_44 rfl ?_
      refine e_iload dX0_fewestBringing_45 rfl ?_
      refine e_callS (f2 := 0) (l2 := 0) (ν := mtJ6_bitCount_0f7a4) (as := [.int a4]) cs_RX0_144 ⟨Nat.le_of_ble_eq_true rfl, Nat.le_of_ble_eq_true rfl⟩ rfl rfl (Nat.le_of_ble_eq_true rfl) dX0_fewestBringing_47 ?_
      refine ctJ6_bitCount_0f7a4 a4 ?_
      show Ev (wX, z) mtX0_fewestBringing 4 90 50 [some (.ref 46), some (.int a1), none, some (.int a3), some (.int a4)] [.int (fpJ6_bitCount_0f7a4 a4), .int a3] M Q
      refine e_callS (f2 := 0) (l2 := 0) (ν := mtJ9_min_7cf53) (as := [.int a3, .int (fpJ6_bitCount_0f7a4 a4)]) cs_RX0_102 ⟨Nat.le_of_ble_eq_true rfl, Nat.le_of_ble_eq_true rfl⟩ rfl rfl (Nat.le_of_ble_eq_true rfl) dX0_fewestBringing_50 ?_
      refine ctJ9_min_7cf53 a3 (fpJ6_bitCount_0f7a4 a4) ?_
      show Ev (wX, z) mtX0_fewestBringing 4 90 53 [some (.ref 46), some (.int a1), none, some (.int a3), some (.int a4)] [.int (fpJ9_min_7cf53 a3 (fpJ6_bitCount_0f7a4 a4))] M Q
      refine lv1 (P := fun v8 => Ev (wX, z) mtX0_fewestBringing 4 90 53 [some (.ref 46), some (.int a1), none, some (.int a3), some (.int a4)] [.int v8] M Q) h (fun v8 h => ?_)
      refine e_istore_n dX0_fewestBringing_53 (by decide) rfl ?_
      refine lv1e h (fun v9 ev9 h => ?_)
      refine e_iinc v9 dX0_fewestBringing_54 rfl ev9 (by decide) rfl ?_
      refine e_goto 23 dX0_fewestBringing_57 (by decide) ?_
      refine e_forget [some (.ref 46), some (.int a1), none, some (.int v8), some (.int v9)] (leL_s (leL_s (leL_n (leL_s (leL_s leL_0))))) ?_
      have h := ok_some h
      exact h
theorem elX0_fewestBringing_l23 {z : Zt} {Q : Option Value → Me → Prop} (a1 : Int32) (M : Me) (N : Nat) (s : Int32 × Int32) (h : ok (lp (fpX0_fewestBringing_l23 a1 M) N s) (XX0_fewestBringing_23 z a1 M Q)) : EX0_fewestBringing_23 z a1 M Q s :=
  lp_ind (fun s h => ebX0_fewestBringing_l23s a1 s.1 s.2 M h) N s h
def fpX0_fewestBringing (a1 : Int32) (a2 : Int32) (M : Me) : Option (Int32) := (fpX0_carried a2 (8 : Int32) (9 : Int32) M).bind fun v1 =>
 (if v1 = a1 then
 some (0 : Int32)
 else
 letv (M.1 46 2) fun v3 =>
 (lp (fpX0_fewestBringing_l23 a1 M) FU (v3, (1 : Int32))).bind fun r10 =>
 some r10)
set_option maxRecDepth 20000 in
theorem ctX0_fewestBringing {z : Zt} {M : Me} {Q : Option Value → Me → Prop} (a1 : Int32) (a2 : Int32)  (h : ok (fpX0_fewestBringing a1 a2 M) (fun a => Q (some (.int a)) M)) : EvM (wX, z) mtX0_fewestBringing 4 90 [.ref 46, .int a1, .int a2] M Q := by
  refine evm_of [some (.ref 46), some (.int a1), some (.int a2), none, none] 2 (by decide +kernel) (Nat.le_of_ble_eq_true rfl) rfl ?_
  unfold fpX0_fewestBringing at h
  refine e_aload_n dX0_fewestBringing_0 rfl ?_
  refine e_iload_n dX0_fewestBringing_1 rfl ?_
  refine e_bipush (8 : Int32) dX0_fewestBringing_2 (by decide) ?_
  refine e_bipush (9 : Int32) dX0_fewestBringing_4 (by decide) ?_
  refine e_callV (f2 := 1) (l2 := 21) (ν := mtX0_carried) (as := [.int a2, .int (8 : Int32), .int (9 : Int32)]) cv_RX0_113 is_X46 kc_6 ⟨Nat.le_of_ble_eq_true rfl, Nat.le_of_ble_eq_true rfl⟩ rfl rfl (Nat.le_of_ble_eq_true rfl) dX0_fewestBringing_6 ?_
  refine ctX0_carried a2 (8 : Int32) (9 : Int32) (ok_bnd h (fun v1 h => ?_))
  show Ev (wX, z) mtX0_fewestBringing 4 90 9 [some (.ref 46), some (.int a1), some (.int a2), none, none] [.int v1] M Q
  refine e_iload_n dX0_fewestBringing_9 rfl ?_
  refine e_icmp_ne 15 dX0_fewestBringing_10 (by decide) (fun c2 => ?_) (fun c2 => ?_)
  · have h := ok_f c2 h
    refine e_aload_n dX0_fewestBringing_15 rfl ?_
    refine e_getI fa_RX0_19 is_X46 dX0_fewestBringing_16 ?_
    refine lv1 (P := fun v3 => Ev (wX, z) mtX0_fewestBringing 4 90 19 [some (.ref 46), some (.int a1), some (.int a2), none, none] [.int v3] M Q) h (fun v3 h => ?_)
    refine e_istore_n dX0_fewestBringing_19 (by decide) rfl ?_
    refine e_iconst (1 : Int32) dX0_fewestBringing_20 (by decide) ?_
    refine e_istore dX0_fewestBringing_21 (by decide) rfl ?_
    refine e_forget [some (.ref 46), some (.int a1), none, some (.int v3), some (.int (1 : Int32))] (leL_s (leL_s (leL_n (leL_s (leL_s leL_0))))) ?_
    refine elX0_fewestBringing_l23 a1 M FU (v3, (1 : Int32)) (ok_bnd h (fun r10 h => ?_))
    show Ev (wX, z) mtX0_fewestBringing 4 90 60 [none, none, none, some (.int r10), none] [] M Q
    refine e_iload_n dX0_fewestBringing_60 rfl ?_
    have h := ok_some h
    exact e_iret rfl dX0_fewestBringing_61 h
  · have h := ok_t c2 h
    refine e_iconst (0 : Int32) dX0_fewestBringing_13 (by decide) ?_
    have h := ok_some h
    exact e_iret rfl dX0_fewestBringing_14 h
def fpX0_wantedBefore (a1 : Int32) (a2 : Int32) (a3 : Int32) (M : Me) : Option (Int32) := (if a1 = 0 then
 some (0 : Int32)
 else
 (inb ((a2 * (10 : Int32)) + a3) 100).bind fun k3 =>
 some (a1 + (M.1 49 k3)))
set_option maxRecDepth 20000 in
theorem ctX0_wantedBefore {z : Zt} {M : Me} {Q : Option Value → Me → Prop} (a1 : Int32) (a2 : Int32) (a3 : Int32)  (h : ok (fpX0_wantedBefore a1 a2 a3 M) (fun a => Q (some (.int a)) M)) : EvM (wX, z) mtX0_wantedBefore 0 0 [.ref 46, .int a1, .int a2, .int a3] M Q := by
  refine evm_of [some (.ref 46), some (.int a1), some (.int a2), some (.int a3)] 0 (by decide +kernel) (Nat.le_of_ble_eq_true rfl) rfl ?_
  unfold fpX0_wantedBefore at h
  refine e_iload_n dX0_wantedBefore_0 rfl ?_
  refine e_if_ne 8 dX0_wantedBefore_1 (by decide) (fun c2 => ?_) (fun c2 => ?_)
  · have h := ok_f c2 h
    refine e_iload_n dX0_wantedBefore_8 rfl ?_
    refine e_aload_n dX0_wantedBefore_9 rfl ?_
    refine e_getR fa_RX0_34 is_X46 rfl dX0_wantedBefore_10 ?_
    refine e_iload_n dX0_wantedBefore_13 rfl ?_
    refine e_bipush (10 : Int32) dX0_wantedBefore_14 (by decide) ?_
    refine e_imul dX0_wantedBefore_16 ?_
    refine e_iload_n dX0_wantedBefore_17 rfl ?_
    refine e_iadd dX0_wantedBefore_18 ?_
    refine ok_inb h (fun k3 ek3 ik3 h => ?_)
    refine e_ialdK ia_X49 ik3 ek3 dX0_wantedBefore_19 ?_
    refine e_iadd dX0_wantedBefore_20 ?_
    have h := ok_some h
    exact e_iret rfl dX0_wantedBefore_21 h
  · have h := ok_t c2 h
    refine e_iconst (0 : Int32) dX0_wantedBefore_4 (by decide) ?_
    refine e_goto 21 dX0_wantedBefore_5 (by decide) ?_
    have h := ok_some h
    exact e_iret rfl dX0_wantedBefore_21 h
def fpX0_wantedToRun (a1 : Int32) (a2 : Int32) (M : Me) : Option (Int32) := (if a2 ≤ (M.1 46 4) then
 (inb a1 8).bind fun k3 =>
 some (fpJ9_max_7cf53 (M.1 50 k3) ((a2 + (M.1 50 k3)) - (M.1 51 k3)))
 else
 some (1000000 : Int32))
set_option maxRecDepth 20000 in
theorem ctX0_wantedToRun {z : Zt} {M : Me} {Q : Option Value → Me → Prop} (a1 : Int32) (a2 : Int32)  (h : ok (fpX0_wantedToRun a1 a2 M) (fun a => Q (some (.int a)) M)) : EvM (wX, z) mtX0_wantedToRun 1 21 [.ref 46, .int a1, .int a2] M Q := by
  refine evm_of [some (.ref 46), some (.int a1), some (.int a2)] 0 (by decide +kernel) (Nat.le_of_ble_eq_true rfl) rfl ?_
  unfold fpX0_wantedToRun at h
  refine e_iload_n dX0_wantedToRun_0 rfl ?_
  refine e_aload_n dX0_wantedToRun_1 rfl ?_
  refine e_getI fa_RX0_25 is_X46 dX0_wantedToRun_2 ?_
  refine e_icmp_le 13 dX0_wantedToRun_5 (by decide) (fun c2 => ?_) (fun c2 => ?_)
  · have h := ok_t c2 h
    refine e_aload_n dX0_wantedToRun_13 rfl ?_
    refine e_getR fa_RX0_37 is_X46 rfl dX0_wantedToRun_14 ?_
    refine e_iload_n dX0_wantedToRun_17 rfl ?_
    refine ok_inb h (fun k3 ek3 ik3 h => ?_)
    refine e_ialdK ia_X50 ik3 ek3 dX0_wantedToRun_18 ?_
    refine e_iload_n dX0_wantedToRun_19 rfl ?_
    refine e_aload_n dX0_wantedToRun_20 rfl ?_
    refine e_getR fa_RX0_37 is_X46 rfl dX0_wantedToRun_21 ?_
    refine e_iload_n dX0_wantedToRun_24 rfl ?_
    refine e_ialdK ia_X50 ik3 ek3 dX0_wantedToRun_25 ?_
    refine e_iadd dX0_wantedToRun_26 ?_
    refine e_aload_n dX0_wantedToRun_27 rfl ?_
    refine e_getR fa_RX0_40 is_X46 rfl dX0_wantedToRun_28 ?_
    refine e_iload_n dX0_wantedToRun_31 rfl ?_
    refine e_ialdK ia_X51 ik3 ek3 dX0_wantedToRun_32 ?_
    refine e_isub dX0_wantedToRun_33 ?_
    refine e_callS (f2 := 0) (l2 := 0) (ν := mtJ9_max_7cf53) (as := [.int (M.1 50 k3), .int ((a2 + (M.1 50 k3)) - (M.1 51 k3))]) cs_RX0_93 ⟨Nat.le_of_ble_eq_true rfl, Nat.le_of_ble_eq_true rfl⟩ rfl rfl (Nat.le_of_ble_eq_true rfl) dX0_wantedToRun_34 ?_
    refine ctJ9_max_7cf53 (M.1 50 k3) ((a2 + (M.1 50 k3)) - (M.1 51 k3)) ?_
    show Ev (wX, z) mtX0_wantedToRun 1 21 37 [some (.ref 46), some (.int a1), some (.int a2)] [.int (fpJ9_max_7cf53 (M.1 50 k3) ((a2 + (M.1 50 k3)) - (M.1 51 k3)))] M Q
    have h := ok_some h
    exact e_iret rfl dX0_wantedToRun_37 h
  · have h := ok_f c2 h
    refine e_ldc wk_RX0_153 dX0_wantedToRun_8 ?_
    refine e_goto 37 dX0_wantedToRun_10 (by decide) ?_
    have h := ok_some h
    exact e_iret rfl dX0_wantedToRun_37 h
def XX0_wantedAt_48 (z : Zt) (a1 : Int32) (a2 : Int32) (M : Me) (Q : Option Value → Me → Prop) : (Int32) → Prop := fun t => Ev (wX, z) mtX0_wantedAt 2 43 120 [none, none, none, none, none, none, some (.int t), none, none] [] M Q
def EX0_wantedAt_48 (z : Zt) (a1 : Int32) (a2 : Int32) (M : Me) (Q : Option Value → Me → Prop) : (Int32 × Int32) → Prop := fun s => Ev (wX, z) mtX0_wantedAt 2 43 48 [some (.ref 46), some (.int a1), some (.int a2), none, none, none, some (.int s.1), some (.int s.2), none] [] M Q
def GX0_wantedAt_48 (z : Zt) (a1 : Int32) (a2 : Int32) (M : Me) (Q : Option Value → Me → Prop) : (Int32 × Int32) ⊕ (Int32) → Prop := Sum.elim (EX0_wantedAt_48 z a1 a2 M Q) (XX0_wantedAt_48 z a1 a2 M Q)
def fpX0_wantedAt_l48s (a1 : Int32) (a2 : Int32) (a6 : Int32) (a7 : Int32) (M : Me) : Option ((Int32 × Int32) ⊕ (Int32)) := (if (M.1 46 2) ≤ a7 then
 some (.inr a6)
 else
 (if (fpX0_isIn a7 ((M.1 46 3) &&& (a2 ^^^ (-1 : Int32)))) = 0 then
 letv (a7 + (1 : Int32)) fun v7 =>
 some (.inl (a6, v7))
 else
 (inb (((a2 ||| ((1 : Int32) <<< (a7 &&& 31))) * (8 : Int32)) + a7) 2048).bind fun k8 =>
 letv (M.1 54 k8) fun v9 =>
 (fpX0_wantedToRun a7 v9 M).bind fun v10 =>
 (fpX0_wantedBefore v10 a1 a7 M).bind fun v11 =>
 letv (fpJ9_min_7cf53 a6 v11) fun v12 =>
 letv (a7 + (1 : Int32)) fun v13 =>
 some (.inl (v12, v13))))
def fpX0_wantedAt_l48 (a1 : Int32) (a2 : Int32) (M : Me) (s : Int32 × Int32) : Option ((Int32 × Int32) ⊕ (Int32)) := fpX0_wantedAt_l48s a1 a2 s.1 s.2 M
set_option maxRecDepth 20000 in
theorem ebX0_wantedAt_l48s {z : Zt} {Q : Option Value → Me → Prop} (a1 : Int32) (a2 : Int32) (a6 : Int32) (a7 : Int32) (M : Me) (h : ok (fpX0_wantedAt_l48s a1 a2 a6 a7 M) (GX0_wantedAt_48 z a1 a2 M Q)) : Ev (wX, z) mtX0_wantedAt 2 43 48 [some (.ref 46), some (.int a1), some (.int a2), none, none, none, some (.int a6), some (.int a7), none] [] M Q := by
  unfold fpX0_wantedAt_l48s at h
  refine e_iload dX0_wantedAt_48 rfl ?_
  refine e_aload_n dX0_wantedAt_50 rfl ?_
  refine e_getI fa_RX0_19 is_X46 dX0_wantedAt_51 ?_
  refine e_icmp_ge 120 dX0_wantedAt_54 (by decide) (fun c5 => ?_) (fun c5 => ?_)
  · have h := ok_t c5 h
    refine e_forget [none, none, none, none, none, none, some (.int a6), none, none] (leL_n (leL_n (leL_n (leL_n (leL_n (leL_n (leL_s (leL_n (leL_n leL_0))))))))) ?_
    have h := ok_some h
    exact h
  · have h := ok_f c5 h
    refine e_iload dX0_wantedAt_57 rfl ?_
    refine e_aload_n dX0_wantedAt_59 rfl ?_
    refine e_getI fa_RX0_22 is_X46 dX0_wantedAt_60 ?_
    refine e_iload_n dX0_wantedAt_63 rfl ?_
    refine e_iconst (-1 : Int32) dX0_wantedAt_64 (by decide) ?_
    refine e_ixor dX0_wantedAt_65 ?_
    refine e_iand dX0_wantedAt_66 ?_
    refine e_callS (f2 := 0) (l2 := 0) (ν := mtX0_isIn) (as := [.int a7, .int ((M.1 46 3) &&& (a2 ^^^ (-1 : Int32)))]) cs_RX0_98 ⟨Nat.le_of_ble_eq_true rfl, Nat.le_of_ble_eq_true rfl⟩ rfl rfl (Nat.le_of_ble_eq_true rfl) dX0_wantedAt_67 ?_
    refine ctX0_isIn a7 ((M.1 46 3) &&& (a2 ^^^ (-1 : Int32))) ?_
    show Ev (wX, z) mtX0_wantedAt 2 43 70 [some (.ref 46), some (.int a1), some (.int a2), none, none, none, some (.int a6), some (.int a7), none] [.int (fpX0_isIn a7 ((M.1 46 3) &&& (a2 ^^^ (-1 : Int32))))] M Q
    refine e_if_eq 114 dX0_wantedAt_70 (by decide) (fun c6 => ?_) (fun c6 => ?_)
    · have h := ok_t c6 h
      refine lv1e h (fun v7 ev7 h => ?_)
      refine e_iinc v7 dX0_wantedAt_114 rfl ev7 (by decide) rfl ?_
      refine e_goto 48 dX0_wantedAt_117 (by decide) ?_
      refine e_forget [some (.ref 46), some (.int a1), some (.int a2), none, none, none, some (.int a6), some (.int v7), none] (leL_s (leL_s (leL_s (leL_n (leL_n (leL_n (leL_s (leL_s (leL_n leL_0))))))))) ?_
      have h := ok_some h
      exact h
    · have h := ok_f c6 h
      refine e_aload_n dX0_wantedAt_73 rfl ?_
      refine e_getR fa_RX0_49 is_X46 rfl dX0_wantedAt_74 ?_
      refine e_iload_n dX0_wantedAt_77 rfl ?_
      refine e_iconst (1 : Int32) dX0_wantedAt_78 (by decide) ?_
      refine e_iload dX0_wantedAt_79 rfl ?_
      refine e_ishl dX0_wantedAt_81 ?_
      refine e_ior dX0_wantedAt_82 ?_
      refine e_bipush (8 : Int32) dX0_wantedAt_83 (by decide) ?_
      refine e_imul dX0_wantedAt_85 ?_
      refine e_iload dX0_wantedAt_86 rfl ?_
      refine e_iadd dX0_wantedAt_88 ?_
      refine ok_inb h (fun k8 ek8 ik8 h => ?_)
      refine e_ialdK ia_X54 ik8 ek8 dX0_wantedAt_89 ?_
      refine lv1 (P := fun v9 => Ev (wX, z) mtX0_wantedAt 2 43 90 [some (.ref 46), some (.int a1), some (.int a2), none, none, none, some (.int a6), some (.int a7), none] [.int v9] M Q) h (fun v9 h => ?_)
      refine e_istore dX0_wantedAt_90 (by decide) rfl ?_
      refine e_iload dX0_wantedAt_92 rfl ?_
      refine e_aload_n dX0_wantedAt_94 rfl ?_
      refine e_aload_n dX0_wantedAt_95 rfl ?_
      refine e_iload dX0_wantedAt_96 rfl ?_
      refine e_iload dX0_wantedAt_98 rfl ?_
      refine e_callV (f2 := 1) (l2 := 21) (ν := mtX0_wantedToRun) (as := [.int a7, .int v9]) cv_RX0_157 is_X46 kc_6 ⟨Nat.le_of_ble_eq_true rfl, Nat.le_of_ble_eq_true rfl⟩ rfl rfl (Nat.le_of_ble_eq_true rfl) dX0_wantedAt_100 ?_
      refine ctX0_wantedToRun a7 v9 (ok_bnd h (fun v10 h => ?_))
      show Ev (wX, z) mtX0_wantedAt 2 43 103 [some (.ref 46), some (.int a1), some (.int a2), none, none, none, some (.int a6), some (.int a7), some (.int v9)] [.int v10, .ref 46, .int a6] M Q
      refine e_iload_n dX0_wantedAt_103 rfl ?_
      refine e_iload dX0_wantedAt_104 rfl ?_
      refine e_callV (f2 := 0) (l2 := 0) (ν := mtX0_wantedBefore) (as := [.int v10, .int a1, .int a7]) cv_RX0_154 is_X46 kc_6 ⟨Nat.le_of_ble_eq_true rfl, Nat.le_of_ble_eq_true rfl⟩ rfl rfl (Nat.le_of_ble_eq_true rfl) dX0_wantedAt_106 ?_
      refine ctX0_wantedBefore v10 a1 a7 (ok_bnd h (fun v11 h => ?_))
      show Ev (wX, z) mtX0_wantedAt 2 43 109 [some (.ref 46), some (.int a1), some (.int a2), none, none, none, some (.int a6), some (.int a7), some (.int v9)] [.int v11, .int a6] M Q
      refine e_callS (f2 := 0) (l2 := 0) (ν := mtJ9_min_7cf53) (as := [.int a6, .int v11]) cs_RX0_102 ⟨Nat.le_of_ble_eq_true rfl, Nat.le_of_ble_eq_true rfl⟩ rfl rfl (Nat.le_of_ble_eq_true rfl) dX0_wantedAt_109 ?_
      refine ctJ9_min_7cf53 a6 v11 ?_
      show Ev (wX, z) mtX0_wantedAt 2 43 112 [some (.ref 46), some (.int a1), some (.int a2), none, none, none, some (.int a6), some (.int a7), some (.int v9)] [.int (fpJ9_min_7cf53 a6 v11)] M Q
      refine lv1 (P := fun v12 => Ev (wX, z) mtX0_wantedAt 2 43 112 [some (.ref 46), some (.int a1), some (.int a2), none, none, none, some (.int a6), some (.int a7), some (.int v9)] [.int v12] M Q) h (fun v12 h => ?_)
      refine e_istore dX0_wantedAt_112 (by decide) rfl ?_
      refine lv1e h (fun v13 ev13 h => ?_)
      refine e_iinc v13 dX0_wantedAt_114 rfl ev13 (by decide) rfl ?_
      refine e_goto 48 dX0_wantedAt_117 (by decide) ?_
      refine e_forget [some (.ref 46), some (.int a1), some (.int a2), none, none, none, some (.int v12), some (.int v13), none] (leL_s (leL_s (leL_s (leL_n (leL_n (leL_n (leL_s (leL_s (leL_n leL_0))))))))) ?_
      have h := ok_some h
      exact h
theorem elX0_wantedAt_l48 {z : Zt} {Q : Option Value → Me → Prop} (a1 : Int32) (a2 : Int32) (M : Me) (N : Nat) (s : Int32 × Int32) (h : ok (lp (fpX0_wantedAt_l48 a1 a2 M) N s) (XX0_wantedAt_48 z a1 a2 M Q)) : EX0_wantedAt_48 z a1 a2 M Q s :=
  lp_ind (fun s h => ebX0_wantedAt_l48s a1 a2 s.1 s.2 M h) N s h
def fpX0_wantedAt_b45 (a1 : Int32) (a2 : Int32) (a6 : Int32) (M : Me) : Option (Int32) := (lp (fpX0_wantedAt_l48 a1 a2 M) FU (a6, (0 : Int32))).bind fun r14 =>
 some r14
set_option maxRecDepth 20000 in
theorem ebX0_wantedAt_b45 {z : Zt} {Q : Option Value → Me → Prop} (a1 : Int32) (a2 : Int32) (a6 : Int32) (M : Me) (h : ok (fpX0_wantedAt_b45 a1 a2 a6 M) (fun a => Q (some (.int a)) M)) : Ev (wX, z) mtX0_wantedAt 2 43 45 [some (.ref 46), some (.int a1), some (.int a2), none, none, none, some (.int a6), none, none] [] M Q := by
  unfold fpX0_wantedAt_b45 at h
  refine e_iconst (0 : Int32) dX0_wantedAt_45 (by decide) ?_
  refine e_istore dX0_wantedAt_46 (by decide) rfl ?_
  refine e_forget [some (.ref 46), some (.int a1), some (.int a2), none, none, none, some (.int a6), some (.int (0 : Int32)), none] (leL_s (leL_s (leL_s (leL_n (leL_n (leL_n (leL_s (leL_s (leL_n leL_0))))))))) ?_
  refine elX0_wantedAt_l48 a1 a2 M FU (a6, (0 : Int32)) (ok_bnd h (fun r14 h => ?_))
  show Ev (wX, z) mtX0_wantedAt 2 43 120 [none, none, none, none, none, none, some (.int r14), none, none] [] M Q
  refine e_iload dX0_wantedAt_120 rfl ?_
  have h := ok_some h
  exact e_iret rfl dX0_wantedAt_122 h
def fpX0_wantedAt_b34 (a1 : Int32) (a2 : Int32) (a4 : Int32) (a5 : Int32) (a6 : Int32) (M : Me) : Option (Int32) := (if a4 = (-1 : Int32) then
 fpX0_wantedAt_b45 a1 a2 a6 M
 else
 (if a5 ≤ 0 then
 some a6
 else
 fpX0_wantedAt_b45 a1 a2 a6 M))
set_option maxRecDepth 20000 in
theorem ebX0_wantedAt_b34 {z : Zt} {Q : Option Value → Me → Prop} (a1 : Int32) (a2 : Int32) (a4 : Int32) (a5 : Int32) (a6 : Int32) (M : Me) (h : ok (fpX0_wantedAt_b34 a1 a2 a4 a5 a6 M) (fun a => Q (some (.int a)) M)) : Ev (wX, z) mtX0_wantedAt 2 43 34 [some (.ref 46), some (.int a1), some (.int a2), none, some (.int a4), some (.int a5), some (.int a6), none, none] [] M Q := by
  unfold fpX0_wantedAt_b34 at h
  refine e_iload dX0_wantedAt_34 rfl ?_
  refine e_iconst (-1 : Int32) dX0_wantedAt_36 (by decide) ?_
  refine e_icmp_eq 45 dX0_wantedAt_37 (by decide) (fun c4 => ?_) (fun c4 => ?_)
  · have h := ok_t c4 h
    refine e_forget [some (.ref 46), some (.int a1), some (.int a2), none, none, none, some (.int a6), none, none] (leL_s (leL_s (leL_s (leL_n (leL_n (leL_n (leL_s (leL_n (leL_n leL_0))))))))) ?_
    exact ebX0_wantedAt_b45 a1 a2 a6 M h
  · have h := ok_f c4 h
    refine e_iload dX0_wantedAt_40 rfl ?_
    refine e_if_le 120 dX0_wantedAt_42 (by decide) (fun c15 => ?_) (fun c15 => ?_)
    · have h := ok_t c15 h
      refine e_iload dX0_wantedAt_120 rfl ?_
      have h := ok_some h
      exact e_iret rfl dX0_wantedAt_122 h
    · have h := ok_f c15 h
      refine e_forget [some (.ref 46), some (.int a1), some (.int a2), none, none, none, some (.int a6), none, none] (leL_s (leL_s (leL_s (leL_n (leL_n (leL_n (leL_s (leL_n (leL_n leL_0))))))))) ?_
      exact ebX0_wantedAt_b45 a1 a2 a6 M h
def fpX0_wantedAt_b24 (a1 : Int32) (a2 : Int32) (a3 : Int32) (a4 : Int32) (a5 : Int32) (M : Me) : Option (Int32) := (fpX0_wantedBefore a3 a1 (9 : Int32) M).bind fun v3 =>
 fpX0_wantedAt_b34 a1 a2 a4 a5 v3 M
set_option maxRecDepth 20000 in
theorem ebX0_wantedAt_b24 {z : Zt} {Q : Option Value → Me → Prop} (a1 : Int32) (a2 : Int32) (a3 : Int32) (a4 : Int32) (a5 : Int32) (M : Me) (h : ok (fpX0_wantedAt_b24 a1 a2 a3 a4 a5 M) (fun a => Q (some (.int a)) M)) : Ev (wX, z) mtX0_wantedAt 2 43 24 [some (.ref 46), some (.int a1), some (.int a2), some (.int a3), some (.int a4), some (.int a5), none, none, none] [] M Q := by
  unfold fpX0_wantedAt_b24 at h
  refine e_aload_n dX0_wantedAt_24 rfl ?_
  refine e_iload_n dX0_wantedAt_25 rfl ?_
  refine e_iload_n dX0_wantedAt_26 rfl ?_
  refine e_bipush (9 : Int32) dX0_wantedAt_27 (by decide) ?_
  refine e_callV (f2 := 0) (l2 := 0) (ν := mtX0_wantedBefore) (as := [.int a3, .int a1, .int (9 : Int32)]) cv_RX0_154 is_X46 kc_6 ⟨Nat.le_of_ble_eq_true rfl, Nat.le_of_ble_eq_true rfl⟩ rfl rfl (Nat.le_of_ble_eq_true rfl) dX0_wantedAt_29 ?_
  refine ctX0_wantedBefore a3 a1 (9 : Int32) (ok_bnd h (fun v3 h => ?_))
  show Ev (wX, z) mtX0_wantedAt 2 43 32 [some (.ref 46), some (.int a1), some (.int a2), some (.int a3), some (.int a4), some (.int a5), none, none, none] [.int v3] M Q
  refine e_istore dX0_wantedAt_32 (by decide) rfl ?_
  refine e_forget [some (.ref 46), some (.int a1), some (.int a2), none, some (.int a4), some (.int a5), some (.int v3), none, none] (leL_s (leL_s (leL_s (leL_n (leL_s (leL_s (leL_s (leL_n (leL_n leL_0))))))))) ?_
  exact ebX0_wantedAt_b34 a1 a2 a4 a5 v3 M h
def fpX0_wantedAt (a1 : Int32) (a2 : Int32) (a3 : Int32) (a4 : Int32) (M : Me) : Option (Int32) := letv (a4 - (fpJ6_bitCount_0f7a4 a2)) fun v1 =>
 (if a4 = (-1 : Int32) then
 fpX0_wantedAt_b24 a1 a2 a3 a4 v1 M
 else
 (if v1 = 0 then
 fpX0_wantedAt_b24 a1 a2 a3 a4 v1 M
 else
 fpX0_wantedAt_b34 a1 a2 a4 v1 (1000000 : Int32) M))
set_option maxRecDepth 20000 in
theorem ctX0_wantedAt {z : Zt} {M : Me} {Q : Option Value → Me → Prop} (a1 : Int32) (a2 : Int32) (a3 : Int32) (a4 : Int32)  (h : ok (fpX0_wantedAt a1 a2 a3 a4 M) (fun a => Q (some (.int a)) M)) : EvM (wX, z) mtX0_wantedAt 2 43 [.ref 46, .int a1, .int a2, .int a3, .int a4] M Q := by
  refine evm_of [some (.ref 46), some (.int a1), some (.int a2), some (.int a3), some (.int a4), none, none, none, none] 4 (by decide +kernel) (Nat.le_of_ble_eq_true rfl) rfl ?_
  unfold fpX0_wantedAt at h
  refine e_iload dX0_wantedAt_0 rfl ?_
  refine e_iload_n dX0_wantedAt_2 rfl ?_
  refine e_callS (f2 := 0) (l2 := 0) (ν := mtJ6_bitCount_0f7a4) (as := [.int a2]) cs_RX0_144 ⟨Nat.le_of_ble_eq_true rfl, Nat.le_of_ble_eq_true rfl⟩ rfl rfl (Nat.le_of_ble_eq_true rfl) dX0_wantedAt_3 ?_
  refine ctJ6_bitCount_0f7a4 a2 ?_
  show Ev (wX, z) mtX0_wantedAt 2 43 6 [some (.ref 46), some (.int a1), some (.int a2), some (.int a3), some (.int a4), none, none, none, none] [.int (fpJ6_bitCount_0f7a4 a2), .int a4] M Q
  refine e_isub dX0_wantedAt_6 ?_
  refine lv1 (P := fun v1 => Ev (wX, z) mtX0_wantedAt 2 43 7 [some (.ref 46), some (.int a1), some (.int a2), some (.int a3), some (.int a4), none, none, none, none] [.int v1] M Q) h (fun v1 h => ?_)
  refine e_istore dX0_wantedAt_7 (by decide) rfl ?_
  refine e_ldc wk_RX0_153 dX0_wantedAt_9 ?_
  refine e_istore dX0_wantedAt_11 (by decide) rfl ?_
  refine e_iload dX0_wantedAt_13 rfl ?_
  refine e_iconst (-1 : Int32) dX0_wantedAt_15 (by decide) ?_
  refine e_icmp_eq 24 dX0_wantedAt_16 (by decide) (fun c2 => ?_) (fun c2 => ?_)
  · have h := ok_t c2 h
    refine e_forget [some (.ref 46), some (.int a1), some (.int a2), some (.int a3), some (.int a4), some (.int v1), none, none, none] (leL_s (leL_s (leL_s (leL_s (leL_s (leL_s (leL_n (leL_n (leL_n leL_0))))))))) ?_
    exact ebX0_wantedAt_b24 a1 a2 a3 a4 v1 M h
  · have h := ok_f c2 h
    refine e_iload dX0_wantedAt_19 rfl ?_
    refine e_if_ne 34 dX0_wantedAt_21 (by decide) (fun c16 => ?_) (fun c16 => ?_)
    · have h := ok_f c16 h
      refine e_forget [some (.ref 46), some (.int a1), some (.int a2), none, some (.int a4), some (.int v1), some (.int (1000000 : Int32)), none, none] (leL_s (leL_s (leL_s (leL_n (leL_s (leL_s (leL_s (leL_n (leL_n leL_0))))))))) ?_
      exact ebX0_wantedAt_b34 a1 a2 a4 v1 (1000000 : Int32) M h
    · have h := ok_t c16 h
      refine e_forget [some (.ref 46), some (.int a1), some (.int a2), some (.int a3), some (.int a4), some (.int v1), none, none, none] (leL_s (leL_s (leL_s (leL_s (leL_s (leL_s (leL_n (leL_n (leL_n leL_0))))))))) ?_
      exact ebX0_wantedAt_b24 a1 a2 a3 a4 v1 M h
def XX0_leastStart_9 (z : Zt) (a1 : Int32) (a2 : Int32) (Q : Option Value → Me → Prop) : (Me) → Prop := fun t => Ev (wX, z) mtX0_leastStart 3 71 78 [some (.ref 46), some (.int a1), some (.int a2), none, none] [] t Q
def EX0_leastStart_9 (z : Zt) (a1 : Int32) (a2 : Int32) (Q : Option Value → Me → Prop) : (Int32 × Me) → Prop := fun s => Ev (wX, z) mtX0_leastStart 3 71 9 [some (.ref 46), some (.int a1), some (.int a2), some (.int s.1), none] [] s.2 Q
def GX0_leastStart_9 (z : Zt) (a1 : Int32) (a2 : Int32) (Q : Option Value → Me → Prop) : (Int32 × Me) ⊕ (Me) → Prop := Sum.elim (EX0_leastStart_9 z a1 a2 Q) (XX0_leastStart_9 z a1 a2 Q)
def XX0_leastStart_27 (z : Zt) (a1 : Int32) (a2 : Int32) (a3 : Int32) (Q : Option Value → Me → Prop) : (Me) → Prop := fun t => Ev (wX, z) mtX0_leastStart 3 71 72 [some (.ref 46), some (.int a1), some (.int a2), some (.int a3), none] [] t Q
def EX0_leastStart_27 (z : Zt) (a1 : Int32) (a2 : Int32) (a3 : Int32) (Q : Option Value → Me → Prop) : (Int32 × Me) → Prop := fun s => Ev (wX, z) mtX0_leastStart 3 71 27 [some (.ref 46), some (.int a1), some (.int a2), some (.int a3), some (.int s.1)] [] s.2 Q
def GX0_leastStart_27 (z : Zt) (a1 : Int32) (a2 : Int32) (a3 : Int32) (Q : Option Value → Me → Prop) : (Int32 × Me) ⊕ (Me) → Prop := Sum.elim (EX0_leastStart_27 z a1 a2 a3 Q) (XX0_leastStart_27 z a1 a2 a3 Q)
def fpX0_leastStart_l27s (a1 : Int32) (a2 : Int32) (a3 : Int32) (a4 : Int32) (M : Me) : Option ((Int32 × Me) ⊕ (Me)) := (if (M.1 46 2) ≤ a4 then
 some (.inr M)
 else
 (if (fpX0_isIn a4 a3) = 0 then
 letv (a4 + (1 : Int32)) fun v7 =>
 some (.inl (v7, M))
 else
 (fpX0_wantedAt a4 a3 a1 a2 M).bind fun v8 =>
 (inb ((a3 * (8 : Int32)) + a4) 2048).bind fun k9 =>
 letv (wrM M 54 k9 v8) fun M10 =>
 letv (a4 + (1 : Int32)) fun v11 =>
 some (.inl (v11, M10))))
def fpX0_leastStart_l27 (a1 : Int32) (a2 : Int32) (a3 : Int32) (s : Int32 × Me) : Option ((Int32 × Me) ⊕ (Me)) := fpX0_leastStart_l27s a1 a2 a3 s.1 s.2
set_option maxRecDepth 20000 in
theorem ebX0_leastStart_l27s {z : Zt} {Q : Option Value → Me → Prop} (a1 : Int32) (a2 : Int32) (a3 : Int32) (a4 : Int32) (M : Me) (h : ok (fpX0_leastStart_l27s a1 a2 a3 a4 M) (GX0_leastStart_27 z a1 a2 a3 Q)) : Ev (wX, z) mtX0_leastStart 3 71 27 [some (.ref 46), some (.int a1), some (.int a2), some (.int a3), some (.int a4)] [] M Q := by
  unfold fpX0_leastStart_l27s at h
  refine e_iload dX0_leastStart_27 rfl ?_
  refine e_aload_n dX0_leastStart_29 rfl ?_
  refine e_getI fa_RX0_19 is_X46 dX0_leastStart_30 ?_
  refine e_icmp_ge 72 dX0_leastStart_33 (by decide) (fun c5 => ?_) (fun c5 => ?_)
  · have h := ok_t c5 h
    refine e_forget [some (.ref 46), some (.int a1), some (.int a2), some (.int a3), none] (leL_s (leL_s (leL_s (leL_s (leL_n leL_0))))) ?_
    have h := ok_some h
    exact h
  · have h := ok_f c5 h
    refine e_iload dX0_leastStart_36 rfl ?_
    refine e_iload_n dX0_leastStart_38 rfl ?_
    refine e_callS (f2 := 0) (l2 := 0) (ν := mtX0_isIn) (as := [.int a4, .int a3]) cs_RX0_98 ⟨Nat.le_of_ble_eq_true rfl, Nat.le_of_ble_eq_true rfl⟩ rfl rfl (Nat.le_of_ble_eq_true rfl) dX0_leastStart_39 ?_
    refine ctX0_isIn a4 a3 ?_
    show Ev (wX, z) mtX0_leastStart 3 71 42 [some (.ref 46), some (.int a1), some (.int a2), some (.int a3), some (.int a4)] [.int (fpX0_isIn a4 a3)] M Q
    refine e_if_eq 66 dX0_leastStart_42 (by decide) (fun c6 => ?_) (fun c6 => ?_)
    · have h := ok_t c6 h
      refine lv1e h (fun v7 ev7 h => ?_)
      refine e_iinc v7 dX0_leastStart_66 rfl ev7 (by decide) rfl ?_
      refine e_goto 27 dX0_leastStart_69 (by decide) ?_
      refine e_forget [some (.ref 46), some (.int a1), some (.int a2), some (.int a3), some (.int v7)] (leL_s (leL_s (leL_s (leL_s (leL_s leL_0))))) ?_
      have h := ok_some h
      exact h
    · have h := ok_f c6 h
      refine e_aload_n dX0_leastStart_45 rfl ?_
      refine e_getR fa_RX0_49 is_X46 rfl dX0_leastStart_46 ?_
      refine e_iload_n dX0_leastStart_49 rfl ?_
      refine e_bipush (8 : Int32) dX0_leastStart_50 (by decide) ?_
      refine e_imul dX0_leastStart_52 ?_
      refine e_iload dX0_leastStart_53 rfl ?_
      refine e_iadd dX0_leastStart_55 ?_
      refine e_aload_n dX0_leastStart_56 rfl ?_
      refine e_iload dX0_leastStart_57 rfl ?_
      refine e_iload_n dX0_leastStart_59 rfl ?_
      refine e_iload_n dX0_leastStart_60 rfl ?_
      refine e_iload_n dX0_leastStart_61 rfl ?_
      refine e_callV (f2 := 2) (l2 := 43) (ν := mtX0_wantedAt) (as := [.int a4, .int a3, .int a1, .int a2]) cv_RX0_149 is_X46 kc_6 ⟨Nat.le_of_ble_eq_true rfl, Nat.le_of_ble_eq_true rfl⟩ rfl rfl (Nat.le_of_ble_eq_true rfl) dX0_leastStart_62 ?_
      refine ctX0_wantedAt a4 a3 a1 a2 (ok_bnd h (fun v8 h => ?_))
      show Ev (wX, z) mtX0_leastStart 3 71 65 [some (.ref 46), some (.int a1), some (.int a2), some (.int a3), some (.int a4)] [.int v8, .int ((a3 * (8 : Int32)) + a4), .ref 54] M Q
      refine ok_inb h (fun k9 ek9 ik9 h => ?_)
      refine e_iastK ia_X54 ik9 ek9 dX0_leastStart_65 ?_
      refine lv1 (P := fun M10 => Ev (wX, z) mtX0_leastStart 3 71 66 [some (.ref 46), some (.int a1), some (.int a2), some (.int a3), some (.int a4)] [] M10 Q) h (fun M10 h => ?_)
      refine lv1e h (fun v11 ev11 h => ?_)
      refine e_iinc v11 dX0_leastStart_66 rfl ev11 (by decide) rfl ?_
      refine e_goto 27 dX0_leastStart_69 (by decide) ?_
      refine e_forget [some (.ref 46), some (.int a1), some (.int a2), some (.int a3), some (.int v11)] (leL_s (leL_s (leL_s (leL_s (leL_s leL_0))))) ?_
      have h := ok_some h
      exact h
theorem elX0_leastStart_l27 {z : Zt} {Q : Option Value → Me → Prop} (a1 : Int32) (a2 : Int32) (a3 : Int32) (N : Nat) (s : Int32 × Me) (h : ok (lp (fpX0_leastStart_l27 a1 a2 a3) N s) (XX0_leastStart_27 z a1 a2 a3 Q)) : EX0_leastStart_27 z a1 a2 a3 Q s :=
  lp_ind (fun s h => ebX0_leastStart_l27s a1 a2 a3 s.1 s.2 h) N s h
def fpX0_leastStart_l9s (a1 : Int32) (a2 : Int32) (a3 : Int32) (M : Me) : Option ((Int32 × Me) ⊕ (Me)) := (if a3 ≤ 0 then
 some (.inr M)
 else
 (if (a3 &&& ((M.1 46 3) ^^^ (-1 : Int32))) = 0 then
 (lp (fpX0_leastStart_l27 a1 a2 a3) FU ((0 : Int32), M)).bind fun r12 =>
 letv (a3 + (-1 : Int32)) fun v13 =>
 some (.inl (v13, r12))
 else
 letv (a3 + (-1 : Int32)) fun v4 =>
 some (.inl (v4, M))))
def fpX0_leastStart_l9 (a1 : Int32) (a2 : Int32) (s : Int32 × Me) : Option ((Int32 × Me) ⊕ (Me)) := fpX0_leastStart_l9s a1 a2 s.1 s.2
set_option maxRecDepth 20000 in
theorem ebX0_leastStart_l9s {z : Zt} {Q : Option Value → Me → Prop} (a1 : Int32) (a2 : Int32) (a3 : Int32) (M : Me) (h : ok (fpX0_leastStart_l9s a1 a2 a3 M) (GX0_leastStart_9 z a1 a2 Q)) : Ev (wX, z) mtX0_leastStart 3 71 9 [some (.ref 46), some (.int a1), some (.int a2), some (.int a3), none] [] M Q := by
  unfold fpX0_leastStart_l9s at h
  refine e_iload_n dX0_leastStart_9 rfl ?_
  refine e_if_le 78 dX0_leastStart_10 (by decide) (fun c2 => ?_) (fun c2 => ?_)
  · have h := ok_t c2 h
    refine e_forget [some (.ref 46), some (.int a1), some (.int a2), none, none] (leL_s (leL_s (leL_s (leL_n (leL_n leL_0))))) ?_
    have h := ok_some h
    exact h
  · have h := ok_f c2 h
    refine e_iload_n dX0_leastStart_13 rfl ?_
    refine e_aload_n dX0_leastStart_14 rfl ?_
    refine e_getI fa_RX0_22 is_X46 dX0_leastStart_15 ?_
    refine e_iconst (-1 : Int32) dX0_leastStart_18 (by decide) ?_
    refine e_ixor dX0_leastStart_19 ?_
    refine e_iand dX0_leastStart_20 ?_
    refine e_if_ne 72 dX0_leastStart_21 (by decide) (fun c3 => ?_) (fun c3 => ?_)
    · have h := ok_f c3 h
      refine lv1e h (fun v4 ev4 h => ?_)
      refine e_iinc v4 dX0_leastStart_72 rfl ev4 (by decide) rfl ?_
      refine e_goto 9 dX0_leastStart_75 (by decide) ?_
      refine e_forget [some (.ref 46), some (.int a1), some (.int a2), some (.int v4), none] (leL_s (leL_s (leL_s (leL_s (leL_n leL_0))))) ?_
      have h := ok_some h
      exact h
    · have h := ok_t c3 h
      refine e_iconst (0 : Int32) dX0_leastStart_24 (by decide) ?_
      refine e_istore dX0_leastStart_25 (by decide) rfl ?_
      refine e_forget [some (.ref 46), some (.int a1), some (.int a2), some (.int a3), some (.int (0 : Int32))] (leL_s (leL_s (leL_s (leL_s (leL_s leL_0))))) ?_
      refine elX0_leastStart_l27 a1 a2 a3 FU ((0 : Int32), M) (ok_bnd h (fun r12 h => ?_))
      show Ev (wX, z) mtX0_leastStart 3 71 72 [some (.ref 46), some (.int a1), some (.int a2), some (.int a3), none] [] r12 Q
      refine lv1e h (fun v13 ev13 h => ?_)
      refine e_iinc v13 dX0_leastStart_72 rfl ev13 (by decide) rfl ?_
      refine e_goto 9 dX0_leastStart_75 (by decide) ?_
      refine e_forget [some (.ref 46), some (.int a1), some (.int a2), some (.int v13), none] (leL_s (leL_s (leL_s (leL_s (leL_n leL_0))))) ?_
      have h := ok_some h
      exact h
theorem elX0_leastStart_l9 {z : Zt} {Q : Option Value → Me → Prop} (a1 : Int32) (a2 : Int32) (N : Nat) (s : Int32 × Me) (h : ok (lp (fpX0_leastStart_l9 a1 a2) N s) (XX0_leastStart_9 z a1 a2 Q)) : EX0_leastStart_9 z a1 a2 Q s :=
  lp_ind (fun s h => ebX0_leastStart_l9s a1 a2 s.1 s.2 h) N s h
def fpX0_leastStart (a1 : Int32) (a2 : Int32) (M : Me) : Option (Int32 × Me) := letv (((1 : Int32) <<< ((M.1 46 2) &&& 31)) - (1 : Int32)) fun v1 =>
 (lp (fpX0_leastStart_l9 a1 a2) FU (v1, M)).bind fun r14 =>
 (fpX0_wantedAt (8 : Int32) (0 : Int32) a1 a2 r14).bind fun v15 =>
 some (v15, r14)
set_option maxRecDepth 20000 in
theorem ctX0_leastStart {z : Zt} {M : Me} {Q : Option Value → Me → Prop} (a1 : Int32) (a2 : Int32)  (h : ok (fpX0_leastStart a1 a2 M) (fun a => Q (some (.int a.1)) a.2)) : EvM (wX, z) mtX0_leastStart 3 71 [.ref 46, .int a1, .int a2] M Q := by
  refine evm_of [some (.ref 46), some (.int a1), some (.int a2), none, none] 2 (by decide +kernel) (Nat.le_of_ble_eq_true rfl) rfl ?_
  unfold fpX0_leastStart at h
  refine e_iconst (1 : Int32) dX0_leastStart_0 (by decide) ?_
  refine e_aload_n dX0_leastStart_1 rfl ?_
  refine e_getI fa_RX0_19 is_X46 dX0_leastStart_2 ?_
  refine e_ishl dX0_leastStart_5 ?_
  refine e_iconst (1 : Int32) dX0_leastStart_6 (by decide) ?_
  refine e_isub dX0_leastStart_7 ?_
  refine lv1 (P := fun v1 => Ev (wX, z) mtX0_leastStart 3 71 8 [some (.ref 46), some (.int a1), some (.int a2), none, none] [.int v1] M Q) h (fun v1 h => ?_)
  refine e_istore_n dX0_leastStart_8 (by decide) rfl ?_
  refine e_forget [some (.ref 46), some (.int a1), some (.int a2), some (.int v1), none] (leL_s (leL_s (leL_s (leL_s (leL_n leL_0))))) ?_
  refine elX0_leastStart_l9 a1 a2 FU (v1, M) (ok_bnd h (fun r14 h => ?_))
  show Ev (wX, z) mtX0_leastStart 3 71 78 [some (.ref 46), some (.int a1), some (.int a2), none, none] [] r14 Q
  refine e_aload_n dX0_leastStart_78 rfl ?_
  refine e_bipush (8 : Int32) dX0_leastStart_79 (by decide) ?_
  refine e_iconst (0 : Int32) dX0_leastStart_81 (by decide) ?_
  refine e_iload_n dX0_leastStart_82 rfl ?_
  refine e_iload_n dX0_leastStart_83 rfl ?_
  refine e_callV (f2 := 2) (l2 := 43) (ν := mtX0_wantedAt) (as := [.int (8 : Int32), .int (0 : Int32), .int a1, .int a2]) cv_RX0_149 is_X46 kc_6 ⟨Nat.le_of_ble_eq_true rfl, Nat.le_of_ble_eq_true rfl⟩ rfl rfl (Nat.le_of_ble_eq_true rfl) dX0_leastStart_84 ?_
  refine ctX0_wantedAt (8 : Int32) (0 : Int32) a1 a2 (ok_bnd h (fun v15 h => ?_))
  show Ev (wX, z) mtX0_leastStart 3 71 87 [some (.ref 46), some (.int a1), some (.int a2), none, none] [.int v15] r14 Q
  have h := ok_some h
  exact e_iret rfl dX0_leastStart_87 h
def XX0_leastNext_3 (z : Zt) (a1 : Int32) (a2 : Int32) (a3 : Int32) (M : Me) (Q : Option Value → Me → Prop) : ((Unit) ⊕ (Int32)) → Prop := Sum.elim (fun t => Ev (wX, z) mtX0_leastNext 2 44 81 [none, none, none, none, none, none] [] M Q) (fun v => Q (some (.int v)) M)
def EX0_leastNext_3 (z : Zt) (a1 : Int32) (a2 : Int32) (a3 : Int32) (M : Me) (Q : Option Value → Me → Prop) : (Int32) → Prop := fun s => Ev (wX, z) mtX0_leastNext 2 44 3 [some (.ref 46), some (.int a1), some (.int a2), some (.int a3), some (.int s), none] [] M Q
def GX0_leastNext_3 (z : Zt) (a1 : Int32) (a2 : Int32) (a3 : Int32) (M : Me) (Q : Option Value → Me → Prop) : (Int32) ⊕ ((Unit) ⊕ (Int32)) → Prop := Sum.elim (EX0_leastNext_3 z a1 a2 a3 M Q) (XX0_leastNext_3 z a1 a2 a3 M Q)
def fpX0_leastNext_l3s (a1 : Int32) (a2 : Int32) (a3 : Int32) (a4 : Int32) (M : Me) : Option ((Int32) ⊕ ((Unit) ⊕ (Int32))) := (if (M.1 46 2) ≤ a4 then
 some (.inr (.inl ()))
 else
 (if (fpX0_isIn a4 ((M.1 46 3) &&& (a1 ^^^ (-1 : Int32)))) = 0 then
 letv (a4 + (1 : Int32)) fun v3 =>
 some (.inl v3)
 else
 (fpX0_carried a3 a2 a4 M).bind fun v4 =>
 (fpX0_ran a4 v4 M).bind fun v5 =>
 (if v5 = (-1 : Int32) then
 letv (a4 + (1 : Int32)) fun v7 =>
 some (.inl v7)
 else
 (inb (((a1 ||| ((1 : Int32) <<< (a4 &&& 31))) * (8 : Int32)) + a4) 2048).bind fun k8 =>
 (if v5 < (M.1 54 k8) then
 letv (a4 + (1 : Int32)) fun v10 =>
 some (.inl v10)
 else
 some (.inr (.inr a4))))))
def fpX0_leastNext_l3 (a1 : Int32) (a2 : Int32) (a3 : Int32) (M : Me) (s : Int32) : Option ((Int32) ⊕ ((Unit) ⊕ (Int32))) := fpX0_leastNext_l3s a1 a2 a3 s M
set_option maxRecDepth 20000 in
theorem ebX0_leastNext_l3s {z : Zt} {Q : Option Value → Me → Prop} (a1 : Int32) (a2 : Int32) (a3 : Int32) (a4 : Int32) (M : Me) (h : ok (fpX0_leastNext_l3s a1 a2 a3 a4 M) (GX0_leastNext_3 z a1 a2 a3 M Q)) : Ev (wX, z) mtX0_leastNext 2 44 3 [some (.ref 46), some (.int a1), some (.int a2), some (.int a3), some (.int a4), none] [] M Q := by
  unfold fpX0_leastNext_l3s at h
  refine e_iload dX0_leastNext_3 rfl ?_
  refine e_aload_n dX0_leastNext_5 rfl ?_
  refine e_getI fa_RX0_19 is_X46 dX0_leastNext_6 ?_
  refine e_icmp_ge 81 dX0_leastNext_9 (by decide) (fun c1 => ?_) (fun c1 => ?_)
  · have h := ok_t c1 h
    refine e_forget [none, none, none, none, none, none] (leL_n (leL_n (leL_n (leL_n (leL_n (leL_n leL_0)))))) ?_
    have h := ok_some h
    exact h
  · have h := ok_f c1 h
    refine e_iload dX0_leastNext_12 rfl ?_
    refine e_aload_n dX0_leastNext_14 rfl ?_
    refine e_getI fa_RX0_22 is_X46 dX0_leastNext_15 ?_
    refine e_iload_n dX0_leastNext_18 rfl ?_
    refine e_iconst (-1 : Int32) dX0_leastNext_19 (by decide) ?_
    refine e_ixor dX0_leastNext_20 ?_
    refine e_iand dX0_leastNext_21 ?_
    refine e_callS (f2 := 0) (l2 := 0) (ν := mtX0_isIn) (as := [.int a4, .int ((M.1 46 3) &&& (a1 ^^^ (-1 : Int32)))]) cs_RX0_98 ⟨Nat.le_of_ble_eq_true rfl, Nat.le_of_ble_eq_true rfl⟩ rfl rfl (Nat.le_of_ble_eq_true rfl) dX0_leastNext_22 ?_
    refine ctX0_isIn a4 ((M.1 46 3) &&& (a1 ^^^ (-1 : Int32))) ?_
    show Ev (wX, z) mtX0_leastNext 2 44 25 [some (.ref 46), some (.int a1), some (.int a2), some (.int a3), some (.int a4), none] [.int (fpX0_isIn a4 ((M.1 46 3) &&& (a1 ^^^ (-1 : Int32))))] M Q
    refine e_if_eq 75 dX0_leastNext_25 (by decide) (fun c2 => ?_) (fun c2 => ?_)
    · have h := ok_t c2 h
      refine lv1e h (fun v3 ev3 h => ?_)
      refine e_iinc v3 dX0_leastNext_75 rfl ev3 (by decide) rfl ?_
      refine e_goto 3 dX0_leastNext_78 (by decide) ?_
      refine e_forget [some (.ref 46), some (.int a1), some (.int a2), some (.int a3), some (.int v3), none] (leL_s (leL_s (leL_s (leL_s (leL_s (leL_n leL_0)))))) ?_
      have h := ok_some h
      exact h
    · have h := ok_f c2 h
      refine e_aload_n dX0_leastNext_28 rfl ?_
      refine e_iload dX0_leastNext_29 rfl ?_
      refine e_aload_n dX0_leastNext_31 rfl ?_
      refine e_iload_n dX0_leastNext_32 rfl ?_
      refine e_iload_n dX0_leastNext_33 rfl ?_
      refine e_iload dX0_leastNext_34 rfl ?_
      refine e_callV (f2 := 1) (l2 := 21) (ν := mtX0_carried) (as := [.int a3, .int a2, .int a4]) cv_RX0_113 is_X46 kc_6 ⟨Nat.le_of_ble_eq_true rfl, Nat.le_of_ble_eq_true rfl⟩ rfl rfl (Nat.le_of_ble_eq_true rfl) dX0_leastNext_36 ?_
      refine ctX0_carried a3 a2 a4 (ok_bnd h (fun v4 h => ?_))
      show Ev (wX, z) mtX0_leastNext 2 44 39 [some (.ref 46), some (.int a1), some (.int a2), some (.int a3), some (.int a4), none] [.int v4, .int a4, .ref 46] M Q
      refine e_callV (f2 := 1) (l2 := 21) (ν := mtX0_ran) (as := [.int a4, .int v4]) cv_RX0_116 is_X46 kc_6 ⟨Nat.le_of_ble_eq_true rfl, Nat.le_of_ble_eq_true rfl⟩ rfl rfl (Nat.le_of_ble_eq_true rfl) dX0_leastNext_39 ?_
      refine ctX0_ran a4 v4 (ok_bnd h (fun v5 h => ?_))
      show Ev (wX, z) mtX0_leastNext 2 44 42 [some (.ref 46), some (.int a1), some (.int a2), some (.int a3), some (.int a4), none] [.int v5] M Q
      refine e_istore dX0_leastNext_42 (by decide) rfl ?_
      refine e_iload dX0_leastNext_44 rfl ?_
      refine e_iconst (-1 : Int32) dX0_leastNext_46 (by decide) ?_
      refine e_icmp_eq 75 dX0_leastNext_47 (by decide) (fun c6 => ?_) (fun c6 => ?_)
      · have h := ok_t c6 h
        refine lv1e h (fun v7 ev7 h => ?_)
        refine e_iinc v7 dX0_leastNext_75 rfl ev7 (by decide) rfl ?_
        refine e_goto 3 dX0_leastNext_78 (by decide) ?_
        refine e_forget [some (.ref 46), some (.int a1), some (.int a2), some (.int a3), some (.int v7), none] (leL_s (leL_s (leL_s (leL_s (leL_s (leL_n leL_0)))))) ?_
        have h := ok_some h
        exact h
      · have h := ok_f c6 h
        refine e_iload dX0_leastNext_50 rfl ?_
        refine e_aload_n dX0_leastNext_52 rfl ?_
        refine e_getR fa_RX0_49 is_X46 rfl dX0_leastNext_53 ?_
        refine e_iload_n dX0_leastNext_56 rfl ?_
        refine e_iconst (1 : Int32) dX0_leastNext_57 (by decide) ?_
        refine e_iload dX0_leastNext_58 rfl ?_
        refine e_ishl dX0_leastNext_60 ?_
        refine e_ior dX0_leastNext_61 ?_
        refine e_bipush (8 : Int32) dX0_leastNext_62 (by decide) ?_
        refine e_imul dX0_leastNext_64 ?_
        refine e_iload dX0_leastNext_65 rfl ?_
        refine e_iadd dX0_leastNext_67 ?_
        refine ok_inb h (fun k8 ek8 ik8 h => ?_)
        refine e_ialdK ia_X54 ik8 ek8 dX0_leastNext_68 ?_
        refine e_icmp_lt 75 dX0_leastNext_69 (by decide) (fun c9 => ?_) (fun c9 => ?_)
        · have h := ok_t c9 h
          refine lv1e h (fun v10 ev10 h => ?_)
          refine e_iinc v10 dX0_leastNext_75 rfl ev10 (by decide) rfl ?_
          refine e_goto 3 dX0_leastNext_78 (by decide) ?_
          refine e_forget [some (.ref 46), some (.int a1), some (.int a2), some (.int a3), some (.int v10), none] (leL_s (leL_s (leL_s (leL_s (leL_s (leL_n leL_0)))))) ?_
          have h := ok_some h
          exact h
        · have h := ok_f c9 h
          refine e_iload dX0_leastNext_72 rfl ?_
          have h := ok_some h
          exact e_iret rfl dX0_leastNext_74 h
theorem elX0_leastNext_l3 {z : Zt} {Q : Option Value → Me → Prop} (a1 : Int32) (a2 : Int32) (a3 : Int32) (M : Me) (N : Nat) (s : Int32) (h : ok (lp (fpX0_leastNext_l3 a1 a2 a3 M) N s) (XX0_leastNext_3 z a1 a2 a3 M Q)) : EX0_leastNext_3 z a1 a2 a3 M Q s :=
  lp_ind (fun s h => ebX0_leastNext_l3s a1 a2 a3 s M h) N s h
def fpX0_leastNext (a1 : Int32) (a2 : Int32) (a3 : Int32) (M : Me) : Option (Int32) := (lp (fpX0_leastNext_l3 a1 a2 a3 M) FU (0 : Int32)).bind fun r11 => Sum.elim (fun t12 =>
 some (-1 : Int32)) (fun u13 => some u13) r11
set_option maxRecDepth 20000 in
theorem ctX0_leastNext {z : Zt} {M : Me} {Q : Option Value → Me → Prop} (a1 : Int32) (a2 : Int32) (a3 : Int32)  (h : ok (fpX0_leastNext a1 a2 a3 M) (fun a => Q (some (.int a)) M)) : EvM (wX, z) mtX0_leastNext 2 44 [.ref 46, .int a1, .int a2, .int a3] M Q := by
  refine evm_of [some (.ref 46), some (.int a1), some (.int a2), some (.int a3), none, none] 2 (by decide +kernel) (Nat.le_of_ble_eq_true rfl) rfl ?_
  unfold fpX0_leastNext at h
  refine e_iconst (0 : Int32) dX0_leastNext_0 (by decide) ?_
  refine e_istore dX0_leastNext_1 (by decide) rfl ?_
  refine e_forget [some (.ref 46), some (.int a1), some (.int a2), some (.int a3), some (.int (0 : Int32)), none] (leL_s (leL_s (leL_s (leL_s (leL_s (leL_n leL_0)))))) ?_
  refine elX0_leastNext_l3 a1 a2 a3 M FU (0 : Int32) (ok_bnd h (fun r11 h => ?_))
  rcases r11 with t12 | u13
  · show Ev (wX, z) mtX0_leastNext 2 44 81 [none, none, none, none, none, none] [] M Q
    refine e_iconst (-1 : Int32) dX0_leastNext_81 (by decide) ?_
    have h := ok_some h
    exact e_iret rfl dX0_leastNext_82 h
  · have h := ok_some h
    exact h
def XX0_planBest_38 (z : Zt) (Q : Option Value → Me → Prop) : ((Me) ⊕ (Me)) → Prop := Sum.elim (fun t => Ev (wX, z) mtX0_planBest 6 143 115 [none, none, none, none, none, none, none, none] [] t Q) (fun v => Q none v)
def EX0_planBest_38 (z : Zt) (Q : Option Value → Me → Prop) : (Int32 × Int32 × Int32 × Int32 × Me) → Prop := fun s => Ev (wX, z) mtX0_planBest 6 143 38 [some (.ref 46), none, none, some (.int s.1), some (.int s.2.1), some (.int s.2.2.1), some (.int s.2.2.2.1), none] [] s.2.2.2.2 Q
def GX0_planBest_38 (z : Zt) (Q : Option Value → Me → Prop) : (Int32 × Int32 × Int32 × Int32 × Me) ⊕ ((Me) ⊕ (Me)) → Prop := Sum.elim (EX0_planBest_38 z Q) (XX0_planBest_38 z Q)
def fpX0_planBest_l38s (a3 : Int32) (a4 : Int32) (a5 : Int32) (a6 : Int32) (M : Me) : Option ((Int32 × Int32 × Int32 × Int32 × Me) ⊕ ((Me) ⊕ (Me))) := (if (M.1 46 1) ≤ a6 then
 some (.inr (.inl M))
 else
 (fpX0_leastNext a3 a4 a5 M).bind fun v6 =>
 (if v6 = (-1 : Int32) then
 letv (wrM M 46 1 a6) fun M14 =>
 some (.inr (.inr M14))
 else
 (inb a6 8).bind fun k8 =>
 letv (wrM M 47 k8 v6) fun M9 =>
 (fpX0_carried a5 a4 v6 M9).bind fun v10 =>
 (fpX0_ran v6 v10 M9).bind fun v11 =>
 letv (a3 ||| ((1 : Int32) <<< (v6 &&& 31))) fun v12 =>
 letv (a6 + (1 : Int32)) fun v13 =>
 some (.inl (v12, v6, v11, v13, M9))))
def fpX0_planBest_l38 (s : Int32 × Int32 × Int32 × Int32 × Me) : Option ((Int32 × Int32 × Int32 × Int32 × Me) ⊕ ((Me) ⊕ (Me))) := fpX0_planBest_l38s s.1 s.2.1 s.2.2.1 s.2.2.2.1 s.2.2.2.2
set_option maxRecDepth 20000 in
theorem ebX0_planBest_l38s {z : Zt} {Q : Option Value → Me → Prop} (a3 : Int32) (a4 : Int32) (a5 : Int32) (a6 : Int32) (M : Me) (h : ok (fpX0_planBest_l38s a3 a4 a5 a6 M) (GX0_planBest_38 z Q)) : Ev (wX, z) mtX0_planBest 6 143 38 [some (.ref 46), none, none, some (.int a3), some (.int a4), some (.int a5), some (.int a6), none] [] M Q := by
  unfold fpX0_planBest_l38s at h
  refine e_iload dX0_planBest_38 rfl ?_
  refine e_aload_n dX0_planBest_40 rfl ?_
  refine e_getI fa_RX0_15 is_X46 dX0_planBest_41 ?_
  refine e_icmp_ge 115 dX0_planBest_44 (by decide) (fun c5 => ?_) (fun c5 => ?_)
  · have h := ok_t c5 h
    refine e_forget [none, none, none, none, none, none, none, none] (leL_n (leL_n (leL_n (leL_n (leL_n (leL_n (leL_n (leL_n leL_0)))))))) ?_
    have h := ok_some h
    exact h
  · have h := ok_f c5 h
    refine e_aload_n dX0_planBest_47 rfl ?_
    refine e_iload_n dX0_planBest_48 rfl ?_
    refine e_iload dX0_planBest_49 rfl ?_
    refine e_iload dX0_planBest_51 rfl ?_
    refine e_callV (f2 := 2) (l2 := 44) (ν := mtX0_leastNext) (as := [.int a3, .int a4, .int a5]) cv_RX0_141 is_X46 kc_6 ⟨Nat.le_of_ble_eq_true rfl, Nat.le_of_ble_eq_true rfl⟩ rfl rfl (Nat.le_of_ble_eq_true rfl) dX0_planBest_53 ?_
    refine ctX0_leastNext a3 a4 a5 (ok_bnd h (fun v6 h => ?_))
    show Ev (wX, z) mtX0_planBest 6 143 56 [some (.ref 46), none, none, some (.int a3), some (.int a4), some (.int a5), some (.int a6), none] [.int v6] M Q
    refine e_istore dX0_planBest_56 (by decide) rfl ?_
    refine e_iload dX0_planBest_58 rfl ?_
    refine e_iconst (-1 : Int32) dX0_planBest_60 (by decide) ?_
    refine e_icmp_ne 71 dX0_planBest_61 (by decide) (fun c7 => ?_) (fun c7 => ?_)
    · have h := ok_f c7 h
      refine e_aload_n dX0_planBest_71 rfl ?_
      refine e_getR fa_RX0_9 is_X46 rfl dX0_planBest_72 ?_
      refine e_iload dX0_planBest_75 rfl ?_
      refine e_iload dX0_planBest_77 rfl ?_
      refine ok_inb h (fun k8 ek8 ik8 h => ?_)
      refine e_iastK ia_X47 ik8 ek8 dX0_planBest_79 ?_
      refine lv1 (P := fun M9 => Ev (wX, z) mtX0_planBest 6 143 80 [some (.ref 46), none, none, some (.int a3), some (.int a4), some (.int a5), some (.int a6), some (.int v6)] [] M9 Q) h (fun M9 h => ?_)
      refine e_aload_n dX0_planBest_80 rfl ?_
      refine e_iload dX0_planBest_81 rfl ?_
      refine e_aload_n dX0_planBest_83 rfl ?_
      refine e_iload dX0_planBest_84 rfl ?_
      refine e_iload dX0_planBest_86 rfl ?_
      refine e_iload dX0_planBest_88 rfl ?_
      refine e_callV (f2 := 1) (l2 := 21) (ν := mtX0_carried) (as := [.int a5, .int a4, .int v6]) cv_RX0_113 is_X46 kc_6 ⟨Nat.le_of_ble_eq_true rfl, Nat.le_of_ble_eq_true rfl⟩ rfl rfl (Nat.le_of_ble_eq_true rfl) dX0_planBest_90 ?_
      refine ctX0_carried a5 a4 v6 (ok_bnd h (fun v10 h => ?_))
      show Ev (wX, z) mtX0_planBest 6 143 93 [some (.ref 46), none, none, some (.int a3), some (.int a4), some (.int a5), some (.int a6), some (.int v6)] [.int v10, .int v6, .ref 46] M9 Q
      refine e_callV (f2 := 1) (l2 := 21) (ν := mtX0_ran) (as := [.int v6, .int v10]) cv_RX0_116 is_X46 kc_6 ⟨Nat.le_of_ble_eq_true rfl, Nat.le_of_ble_eq_true rfl⟩ rfl rfl (Nat.le_of_ble_eq_true rfl) dX0_planBest_93 ?_
      refine ctX0_ran v6 v10 (ok_bnd h (fun v11 h => ?_))
      show Ev (wX, z) mtX0_planBest 6 143 96 [some (.ref 46), none, none, some (.int a3), some (.int a4), some (.int a5), some (.int a6), some (.int v6)] [.int v11] M9 Q
      refine e_istore dX0_planBest_96 (by decide) rfl ?_
      refine e_iload_n dX0_planBest_98 rfl ?_
      refine e_iconst (1 : Int32) dX0_planBest_99 (by decide) ?_
      refine e_iload dX0_planBest_100 rfl ?_
      refine e_ishl dX0_planBest_102 ?_
      refine e_ior dX0_planBest_103 ?_
      refine lv1 (P := fun v12 => Ev (wX, z) mtX0_planBest 6 143 104 [some (.ref 46), none, none, some (.int a3), some (.int a4), some (.int v11), some (.int a6), some (.int v6)] [.int v12] M9 Q) h (fun v12 h => ?_)
      refine e_istore_n dX0_planBest_104 (by decide) rfl ?_
      refine e_iload dX0_planBest_105 rfl ?_
      refine e_istore dX0_planBest_107 (by decide) rfl ?_
      refine lv1e h (fun v13 ev13 h => ?_)
      refine e_iinc v13 dX0_planBest_109 rfl ev13 (by decide) rfl ?_
      refine e_goto 38 dX0_planBest_112 (by decide) ?_
      refine e_forget [some (.ref 46), none, none, some (.int v12), some (.int v6), some (.int v11), some (.int v13), none] (leL_s (leL_n (leL_n (leL_s (leL_s (leL_s (leL_s (leL_n leL_0)))))))) ?_
      have h := ok_some h
      exact h
    · have h := ok_t c7 h
      refine e_aload_n dX0_planBest_64 rfl ?_
      refine e_iload dX0_planBest_65 rfl ?_
      refine e_putI fw_RX0_15 is_X46 dX0_planBest_67 ?_
      refine lv1 (P := fun M14 => Ev (wX, z) mtX0_planBest 6 143 70 [some (.ref 46), none, none, some (.int a3), some (.int a4), some (.int a5), some (.int a6), some (.int v6)] [] M14 Q) h (fun M14 h => ?_)
      have h := ok_some h
      exact e_vret rfl dX0_planBest_70 h
theorem elX0_planBest_l38 {z : Zt} {Q : Option Value → Me → Prop} (N : Nat) (s : Int32 × Int32 × Int32 × Int32 × Me) (h : ok (lp (fpX0_planBest_l38) N s) (XX0_planBest_38 z Q)) : EX0_planBest_38 z Q s :=
  lp_ind (fun s h => ebX0_planBest_l38s s.1 s.2.1 s.2.2.1 s.2.2.2.1 s.2.2.2.2 h) N s h
def fpX0_planBest (a1 : Int32) (M : Me) : Option (Me) := (fpX0_mostWith a1 M).bind fun q1 =>
 (fpX0_fewestBringing q1.1 a1 q1.2).bind fun v2 =>
 letv (wrM q1.2 46 1 v2) fun M3 =>
 (fpX0_leastStart q1.1 (M3.1 46 1) M3).bind fun q4 =>
 (lp (fpX0_planBest_l38) FU ((0 : Int32), (8 : Int32), a1, (0 : Int32), q4.2)).bind fun r15 => Sum.elim (fun t16 =>
 some t16) (fun u17 => some u17) r15
set_option maxRecDepth 20000 in
theorem ctX0_planBest {z : Zt} {M : Me} {Q : Option Value → Me → Prop} (a1 : Int32)  (h : ok (fpX0_planBest a1 M) (fun a => Q none a)) : EvM (wX, z) mtX0_planBest 6 143 [.ref 46, .int a1] M Q := by
  refine evm_of [some (.ref 46), some (.int a1), none, none, none, none, none, none] 6 (by decide +kernel) (Nat.le_of_ble_eq_true rfl) rfl ?_
  unfold fpX0_planBest at h
  refine e_aload_n dX0_planBest_0 rfl ?_
  refine e_iload_n dX0_planBest_1 rfl ?_
  refine e_callV (f2 := 5) (l2 := 122) (ν := mtX0_mostWith) (as := [.int a1]) cv_RX0_132 is_X46 kc_6 ⟨Nat.le_of_ble_eq_true rfl, Nat.le_of_ble_eq_true rfl⟩ rfl rfl (Nat.le_of_ble_eq_true rfl) dX0_planBest_2 ?_
  refine ctX0_mostWith a1 (ok_bnd h (fun q1 h => ?_))
  show Ev (wX, z) mtX0_planBest 6 143 5 [some (.ref 46), some (.int a1), none, none, none, none, none, none] [.int q1.1] q1.2 Q
  refine e_istore_n dX0_planBest_5 (by decide) rfl ?_
  refine e_aload_n dX0_planBest_6 rfl ?_
  refine e_aload_n dX0_planBest_7 rfl ?_
  refine e_iload_n dX0_planBest_8 rfl ?_
  refine e_iload_n dX0_planBest_9 rfl ?_
  refine e_callV (f2 := 4) (l2 := 90) (ν := mtX0_fewestBringing) (as := [.int q1.1, .int a1]) cv_RX0_135 is_X46 kc_6 ⟨Nat.le_of_ble_eq_true rfl, Nat.le_of_ble_eq_true rfl⟩ rfl rfl (Nat.le_of_ble_eq_true rfl) dX0_planBest_10 ?_
  refine ctX0_fewestBringing q1.1 a1 (ok_bnd h (fun v2 h => ?_))
  show Ev (wX, z) mtX0_planBest 6 143 13 [some (.ref 46), some (.int a1), some (.int q1.1), none, none, none, none, none] [.int v2, .ref 46] q1.2 Q
  refine e_putI fw_RX0_15 is_X46 dX0_planBest_13 ?_
  refine lv1 (P := fun M3 => Ev (wX, z) mtX0_planBest 6 143 16 [some (.ref 46), some (.int a1), some (.int q1.1), none, none, none, none, none] [] M3 Q) h (fun M3 h => ?_)
  refine e_aload_n dX0_planBest_16 rfl ?_
  refine e_iload_n dX0_planBest_17 rfl ?_
  refine e_aload_n dX0_planBest_18 rfl ?_
  refine e_getI fa_RX0_15 is_X46 dX0_planBest_19 ?_
  refine e_callV (f2 := 3) (l2 := 71) (ν := mtX0_leastStart) (as := [.int q1.1, .int (M3.1 46 1)]) cv_RX0_138 is_X46 kc_6 ⟨Nat.le_of_ble_eq_true rfl, Nat.le_of_ble_eq_true rfl⟩ rfl rfl (Nat.le_of_ble_eq_true rfl) dX0_planBest_22 ?_
  refine ctX0_leastStart q1.1 (M3.1 46 1) (ok_bnd h (fun q4 h => ?_))
  show Ev (wX, z) mtX0_planBest 6 143 25 [some (.ref 46), some (.int a1), some (.int q1.1), none, none, none, none, none] [.int q4.1] q4.2 Q
  refine e_pop dX0_planBest_25 rfl ?_
  refine e_iconst (0 : Int32) dX0_planBest_26 (by decide) ?_
  refine e_istore_n dX0_planBest_27 (by decide) rfl ?_
  refine e_bipush (8 : Int32) dX0_planBest_28 (by decide) ?_
  refine e_istore dX0_planBest_30 (by decide) rfl ?_
  refine e_iload_n dX0_planBest_32 rfl ?_
  refine e_istore dX0_planBest_33 (by decide) rfl ?_
  refine e_iconst (0 : Int32) dX0_planBest_35 (by decide) ?_
  refine e_istore dX0_planBest_36 (by decide) rfl ?_
  refine e_forget [some (.ref 46), none, none, some (.int (0 : Int32)), some (.int (8 : Int32)), some (.int a1), some (.int (0 : Int32)), none] (leL_s (leL_n (leL_n (leL_s (leL_s (leL_s (leL_s (leL_n leL_0)))))))) ?_
  refine elX0_planBest_l38 FU ((0 : Int32), (8 : Int32), a1, (0 : Int32), q4.2) (ok_bnd h (fun r15 h => ?_))
  rcases r15 with t16 | u17
  · show Ev (wX, z) mtX0_planBest 6 143 115 [none, none, none, none, none, none, none, none] [] t16 Q
    have h := ok_some h
    exact e_vret rfl dX0_planBest_115 h
  · have h := ok_some h
    exact h
