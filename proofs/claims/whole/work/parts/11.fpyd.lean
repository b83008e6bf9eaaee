def fpX6_item_b52 (t1 : Int32) (t2 : Int32) (M : Me) : Option (Me) := (fpX6_valueItem t1 t2 (999 : Int32) M).bind fun q16 =>
 some q16
set_option maxRecDepth 20000 in
theorem ebX6_item_b52 {z : Zt} {Q : Option Value → Me → Prop} (t1 : Int32) (t2 : Int32) (M : Me) (h : ok (fpX6_item_b52 t1 t2 M) (fun a => Q none a)) : Ev (wY, z) mtX6_item 7 162 52 [none, none] [.int t2, .int t1, .ref 0] M Q := by
  unfold fpX6_item_b52 at h
  refine e_sipush (999 : Int32) dX6_item_52 (by decide) ?_
  refine e_callV (f2 := 6) (l2 := 137) (ν := mtX6_valueItem) (as := [.int t1, .int t2, .int (999 : Int32)]) cv_RX6_280 is_Y0 kc_7 ⟨Nat.le_of_ble_eq_true rfl, Nat.le_of_ble_eq_true rfl⟩ rfl rfl (Nat.le_of_ble_eq_true rfl) dX6_item_55 ?_
  refine ctX6_valueItem t1 t2 (999 : Int32) (ok_bnd h (fun q16 h => ?_))
  show Ev (wY, z) mtX6_item 7 162 58 [none, none] [] q16 Q
  refine e_goto 137 dX6_item_58 (by decide) ?_
  have h := ok_some h
  exact e_vret rfl dX6_item_137 h
def fpX6_item  (M : Me) : Option (Me) := (fpX6_kindHere M).bind fun v1 =>
 (if v1 < 0 then
 (fpX6_word M).bind fun v3 =>
 (if (lg_cmp v3 (605677 : Int64)) = 0 then
 (if (M.1 1 8) ≤ (1 : Int32) then
 fpX6_item_b52 (2 : Int32) (1 : Int32) M
 else
 fpX6_item_b52 (2 : Int32) (M.1 1 8) M)
 else
 (fpX6_word M).bind fun v5 =>
 (if (lg_cmp v5 (654619027 : Int64)) = 0 then
 (fpX6_valueItem (3 : Int32) (0 : Int32) (99 : Int32) M).bind fun q14 =>
 some q14
 else
 (fpX6_word M).bind fun v7 =>
 (if (lg_cmp v7 (24170674 : Int64)) = 0 then
 (fpX6_valueItem (8 : Int32) (0 : Int32) (M.1 1 2) M).bind fun q13 =>
 some q13
 else
 (fpX6_word M).bind fun v9 =>
 (if (lg_cmp v9 (4915371284 : Int64)) = 0 then
 (fpX6_valueItem (4 : Int32) (0 : Int32) (9 : Int32) M).bind fun q12 =>
 some q12
 else
 (fpX6_wants (0 : Int32) M).bind fun q11 =>
 some q11))))
 else
 (fpX6_pumpItem v1 M).bind fun q17 =>
 some q17)
set_option maxRecDepth 20000 in
theorem ctX6_item {z : Zt} {M : Me} {Q : Option Value → Me → Prop}   (h : ok (fpX6_item M) (fun a => Q none a)) : EvM (wY, z) mtX6_item 7 162 [.ref 0] M Q := by
  refine evm_of [some (.ref 0), none] 1 (by decide +kernel) (Nat.le_of_ble_eq_true rfl) rfl ?_
  unfold fpX6_item at h
  refine e_aload_n dX6_item_0 rfl ?_
  refine e_callV (f2 := 3) (l2 := 68) (ν := mtX6_kindHere) (as := []) cv_RX6_271 is_Y0 kc_7 ⟨Nat.le_of_ble_eq_true rfl, Nat.le_of_ble_eq_true rfl⟩ rfl rfl (Nat.le_of_ble_eq_true rfl) dX6_item_1 ?_
  refine ctX6_kindHere (ok_bnd h (fun v1 h => ?_))
  show Ev (wY, z) mtX6_item 7 162 4 [some (.ref 0), none] [.int v1] M Q
  refine e_istore_n dX6_item_4 (by decide) rfl ?_
  refine e_iload_n dX6_item_5 rfl ?_
  refine e_if_lt 17 dX6_item_6 (by decide) (fun c2 => ?_) (fun c2 => ?_)
  · have h := ok_t c2 h
    refine e_aload_n dX6_item_17 rfl ?_
    refine e_callV (f2 := 2) (l2 := 45) (ν := mtX6_word) (as := []) cv_RX6_240 is_Y0 kc_7 ⟨Nat.le_of_ble_eq_true rfl, Nat.le_of_ble_eq_true rfl⟩ rfl rfl (Nat.le_of_ble_eq_true rfl) dX6_item_18 ?_
    refine ctX6_word (ok_bnd h (fun v3 h => ?_))
    show Ev (wY, z) mtX6_item 7 162 21 [some (.ref 0), some (.int v1)] [.long v3] M Q
    refine e_ldc2 wk_RX6_278 dX6_item_21 ?_
    refine e_lcmp dX6_item_24 ?_
    refine e_if_ne 61 dX6_item_25 (by decide) (fun c4 => ?_) (fun c4 => ?_)
    · have h := ok_f c4 h
      refine e_aload_n dX6_item_61 rfl ?_
      refine e_callV (f2 := 2) (l2 := 45) (ν := mtX6_word) (as := []) cv_RX6_240 is_Y0 kc_7 ⟨Nat.le_of_ble_eq_true rfl, Nat.le_of_ble_eq_true rfl⟩ rfl rfl (Nat.le_of_ble_eq_true rfl) dX6_item_62 ?_
      refine ctX6_word (ok_bnd h (fun v5 h => ?_))
      show Ev (wY, z) mtX6_item 7 162 65 [some (.ref 0), some (.int v1)] [.long v5] M Q
      refine e_ldc2 wk_RX6_284 dX6_item_65 ?_
      refine e_lcmp dX6_item_68 ?_
      refine e_if_ne 83 dX6_item_69 (by decide) (fun c6 => ?_) (fun c6 => ?_)
      · have h := ok_f c6 h
        refine e_aload_n dX6_item_83 rfl ?_
        refine e_callV (f2 := 2) (l2 := 45) (ν := mtX6_word) (as := []) cv_RX6_240 is_Y0 kc_7 ⟨Nat.le_of_ble_eq_true rfl, Nat.le_of_ble_eq_true rfl⟩ rfl rfl (Nat.le_of_ble_eq_true rfl) dX6_item_84 ?_
        refine ctX6_word (ok_bnd h (fun v7 h => ?_))
        show Ev (wY, z) mtX6_item 7 162 87 [some (.ref 0), some (.int v1)] [.long v7] M Q
        refine e_ldc2 wk_RX6_286 dX6_item_87 ?_
        refine e_lcmp dX6_item_90 ?_
        refine e_if_ne 110 dX6_item_91 (by decide) (fun c8 => ?_) (fun c8 => ?_)
        · have h := ok_f c8 h
          refine e_aload_n dX6_item_110 rfl ?_
          refine e_callV (f2 := 2) (l2 := 45) (ν := mtX6_word) (as := []) cv_RX6_240 is_Y0 kc_7 ⟨Nat.le_of_ble_eq_true rfl, Nat.le_of_ble_eq_true rfl⟩ rfl rfl (Nat.le_of_ble_eq_true rfl) dX6_item_111 ?_
          refine ctX6_word (ok_bnd h (fun v9 h => ?_))
          show Ev (wY, z) mtX6_item 7 162 114 [some (.ref 0), some (.int v1)] [.long v9] M Q
          refine e_ldc2 wk_RX6_288 dX6_item_114 ?_
          refine e_lcmp dX6_item_117 ?_
          refine e_if_ne 132 dX6_item_118 (by decide) (fun c10 => ?_) (fun c10 => ?_)
          · have h := ok_f c10 h
            refine e_aload_n dX6_item_132 rfl ?_
            refine e_iconst (0 : Int32) dX6_item_133 (by decide) ?_
            refine e_callV (f2 := 3) (l2 := 67) (ν := mtX6_wants) (as := [.int (0 : Int32)]) cv_RX6_236 is_Y0 kc_7 ⟨Nat.le_of_ble_eq_true rfl, Nat.le_of_ble_eq_true rfl⟩ rfl rfl (Nat.le_of_ble_eq_true rfl) dX6_item_134 ?_
            refine ctX6_wants (0 : Int32) (ok_bnd h (fun q11 h => ?_))
            show Ev (wY, z) mtX6_item 7 162 137 [some (.ref 0), some (.int v1)] [] q11 Q
            have h := ok_some h
            exact e_vret rfl dX6_item_137 h
          · have h := ok_t c10 h
            refine e_aload_n dX6_item_121 rfl ?_
            refine e_iconst (4 : Int32) dX6_item_122 (by decide) ?_
            refine e_iconst (0 : Int32) dX6_item_123 (by decide) ?_
            refine e_bipush (9 : Int32) dX6_item_124 (by decide) ?_
            refine e_callV (f2 := 6) (l2 := 137) (ν := mtX6_valueItem) (as := [.int (4 : Int32), .int (0 : Int32), .int (9 : Int32)]) cv_RX6_280 is_Y0 kc_7 ⟨Nat.le_of_ble_eq_true rfl, Nat.le_of_ble_eq_true rfl⟩ rfl rfl (Nat.le_of_ble_eq_true rfl) dX6_item_126 ?_
            refine ctX6_valueItem (4 : Int32) (0 : Int32) (9 : Int32) (ok_bnd h (fun q12 h => ?_))
            show Ev (wY, z) mtX6_item 7 162 129 [some (.ref 0), some (.int v1)] [] q12 Q
            refine e_goto 137 dX6_item_129 (by decide) ?_
            have h := ok_some h
            exact e_vret rfl dX6_item_137 h
        · have h := ok_t c8 h
          refine e_aload_n dX6_item_94 rfl ?_
          refine e_bipush (8 : Int32) dX6_item_95 (by decide) ?_
          refine e_iconst (0 : Int32) dX6_item_97 (by decide) ?_
          refine e_aload_n dX6_item_98 rfl ?_
          refine e_getR fa_RX6_7 is_Y0 rfl dX6_item_99 ?_
          refine e_iconst (2 : Int32) dX6_item_102 (by decide) ?_
          refine e_ialdK ia_Y1 (by unfold vp_in; decide) (q := 2) (by decide) dX6_item_103 ?_
          refine e_callV (f2 := 6) (l2 := 137) (ν := mtX6_valueItem) (as := [.int (8 : Int32), .int (0 : Int32), .int (M.1 1 2)]) cv_RX6_280 is_Y0 kc_7 ⟨Nat.le_of_ble_eq_true rfl, Nat.le_of_ble_eq_true rfl⟩ rfl rfl (Nat.le_of_ble_eq_true rfl) dX6_item_104 ?_
          refine ctX6_valueItem (8 : Int32) (0 : Int32) (M.1 1 2) (ok_bnd h (fun q13 h => ?_))
          show Ev (wY, z) mtX6_item 7 162 107 [some (.ref 0), some (.int v1)] [] q13 Q
          refine e_goto 137 dX6_item_107 (by decide) ?_
          have h := ok_some h
          exact e_vret rfl dX6_item_137 h
      · have h := ok_t c6 h
        refine e_aload_n dX6_item_72 rfl ?_
        refine e_iconst (3 : Int32) dX6_item_73 (by decide) ?_
        refine e_iconst (0 : Int32) dX6_item_74 (by decide) ?_
        refine e_bipush (99 : Int32) dX6_item_75 (by decide) ?_
        refine e_callV (f2 := 6) (l2 := 137) (ν := mtX6_valueItem) (as := [.int (3 : Int32), .int (0 : Int32), .int (99 : Int32)]) cv_RX6_280 is_Y0 kc_7 ⟨Nat.le_of_ble_eq_true rfl, Nat.le_of_ble_eq_true rfl⟩ rfl rfl (Nat.le_of_ble_eq_true rfl) dX6_item_77 ?_
        refine ctX6_valueItem (3 : Int32) (0 : Int32) (99 : Int32) (ok_bnd h (fun q14 h => ?_))
        show Ev (wY, z) mtX6_item 7 162 80 [some (.ref 0), some (.int v1)] [] q14 Q
        refine e_goto 137 dX6_item_80 (by decide) ?_
        have h := ok_some h
        exact e_vret rfl dX6_item_137 h
    · have h := ok_t c4 h
      refine e_aload_n dX6_item_28 rfl ?_
      refine e_iconst (2 : Int32) dX6_item_29 (by decide) ?_
      refine e_aload_n dX6_item_30 rfl ?_
      refine e_getR fa_RX6_7 is_Y0 rfl dX6_item_31 ?_
      refine e_bipush (8 : Int32) dX6_item_34 (by decide) ?_
      refine e_ialdK ia_Y1 (by unfold vp_in; decide) (q := 8) (by decide) dX6_item_36 ?_
      refine e_iconst (1 : Int32) dX6_item_37 (by decide) ?_
      refine e_icmp_le 51 dX6_item_38 (by decide) (fun c15 => ?_) (fun c15 => ?_)
      · have h := ok_t c15 h
        refine e_iconst (1 : Int32) dX6_item_51 (by decide) ?_
        refine e_forget [none, none] (leL_n (leL_n leL_0)) ?_
        exact ebX6_item_b52 (2 : Int32) (1 : Int32) M h
      · have h := ok_f c15 h
        refine e_aload_n dX6_item_41 rfl ?_
        refine e_getR fa_RX6_7 is_Y0 rfl dX6_item_42 ?_
        refine e_bipush (8 : Int32) dX6_item_45 (by decide) ?_
        refine e_ialdK ia_Y1 (by unfold vp_in; decide) (q := 8) (by decide) dX6_item_47 ?_
        refine e_goto 52 dX6_item_48 (by decide) ?_
        refine e_forget [none, none] (leL_n (leL_n leL_0)) ?_
        exact ebX6_item_b52 (2 : Int32) (M.1 1 8) M h
  · have h := ok_f c2 h
    refine e_aload_n dX6_item_9 rfl ?_
    refine e_iload_n dX6_item_10 rfl ?_
    refine e_callV (f2 := 6) (l2 := 137) (ν := mtX6_pumpItem) (as := [.int v1]) cv_RX6_274 is_Y0 kc_7 ⟨Nat.le_of_ble_eq_true rfl, Nat.le_of_ble_eq_true rfl⟩ rfl rfl (Nat.le_of_ble_eq_true rfl) dX6_item_11 ?_
    refine ctX6_pumpItem v1 (ok_bnd h (fun q17 h => ?_))
    show Ev (wY, z) mtX6_item 7 162 14 [some (.ref 0), some (.int v1)] [] q17 Q
    refine e_goto 137 dX6_item_14 (by decide) ?_
    have h := ok_some h
    exact e_vret rfl dX6_item_137 h
def XX6_text_24 (z : Zt) (Q : Option Value → Me → Prop) : (Int32 × Me) → Prop := fun t => Ev (wY, z) mtX6_text 8 183 74 [some (.ref 0), some (.int t.1)] [] t.2 Q
def EX6_text_24 (z : Zt) (Q : Option Value → Me → Prop) : (Int32 × Me) → Prop := fun s => Ev (wY, z) mtX6_text 8 183 24 [some (.ref 0), some (.int s.1)] [] s.2 Q
def GX6_text_24 (z : Zt) (Q : Option Value → Me → Prop) : (Int32 × Me) ⊕ (Int32 × Me) → Prop := Sum.elim (EX6_text_24 z Q) (XX6_text_24 z Q)
def fpX6_text_l24s (a1 : Int32) (M : Me) : Option ((Int32 × Me) ⊕ (Int32 × Me)) := (if (M.1 0 19) = 0 then
 (if (M.1 0 15) ≤ (M.1 0 16) then
 some (.inr (a1, M))
 else
 (fpX6_byteAt (M.1 0 16) M).bind fun v8 =>
 (if v8 = (59 : Int32) then
 (fpX6_wants (1 : Int32) M).bind fun q13 =>
 (fpX6_item q13).bind fun q14 =>
 letv (a1 + (1 : Int32)) fun v15 =>
 some (.inl (v15, q14))
 else
 (fpX6_wants (0 : Int32) M).bind fun q10 =>
 (fpX6_item q10).bind fun q11 =>
 letv (a1 + (1 : Int32)) fun v12 =>
 some (.inl (v12, q11))))
 else
 some (.inr (a1, M)))
def fpX6_text_l24 (s : Int32 × Me) : Option ((Int32 × Me) ⊕ (Int32 × Me)) := fpX6_text_l24s s.1 s.2
set_option maxRecDepth 20000 in
theorem ebX6_text_l24s {z : Zt} {Q : Option Value → Me → Prop} (a1 : Int32) (M : Me) (h : ok (fpX6_text_l24s a1 M) (GX6_text_24 z Q)) : Ev (wY, z) mtX6_text 8 183 24 [some (.ref 0), some (.int a1)] [] M Q := by
  unfold fpX6_text_l24s at h
  refine e_aload_n dX6_text_24 rfl ?_
  refine e_getI fa_RX6_222 is_Y0 dX6_text_25 ?_
  refine e_if_ne 74 dX6_text_28 (by decide) (fun c6 => ?_) (fun c6 => ?_)
  · have h := ok_f c6 h
    refine e_forget [some (.ref 0), some (.int a1)] (leL_s (leL_s leL_0)) ?_
    have h := ok_some h
    exact h
  · have h := ok_t c6 h
    refine e_aload_n dX6_text_31 rfl ?_
    refine e_getI fa_RX6_210 is_Y0 dX6_text_32 ?_
    refine e_aload_n dX6_text_35 rfl ?_
    refine e_getI fa_RX6_196 is_Y0 dX6_text_36 ?_
    refine e_icmp_ge 74 dX6_text_39 (by decide) (fun c7 => ?_) (fun c7 => ?_)
    · have h := ok_t c7 h
      refine e_forget [some (.ref 0), some (.int a1)] (leL_s (leL_s leL_0)) ?_
      have h := ok_some h
      exact h
    · have h := ok_f c7 h
      refine e_aload_n dX6_text_42 rfl ?_
      refine e_aload_n dX6_text_43 rfl ?_
      refine e_aload_n dX6_text_44 rfl ?_
      refine e_getI fa_RX6_210 is_Y0 dX6_text_45 ?_
      refine e_callV (f2 := 0) (l2 := 0) (ν := mtX6_byteAt) (as := [.int (M.1 0 16)]) cv_RX6_213 is_Y0 kc_7 ⟨Nat.le_of_ble_eq_true rfl, Nat.le_of_ble_eq_true rfl⟩ rfl rfl (Nat.le_of_ble_eq_true rfl) dX6_text_48 ?_
      refine ctX6_byteAt (M.1 0 16) (ok_bnd h (fun v8 h => ?_))
      show Ev (wY, z) mtX6_text 8 183 51 [some (.ref 0), some (.int a1)] [.int v8, .ref 0] M Q
      refine e_bipush (59 : Int32) dX6_text_51 (by decide) ?_
      refine e_icmp_ne 60 dX6_text_53 (by decide) (fun c9 => ?_) (fun c9 => ?_)
      · have h := ok_f c9 h
        refine e_iconst (0 : Int32) dX6_text_60 (by decide) ?_
        refine e_callV (f2 := 3) (l2 := 67) (ν := mtX6_wants) (as := [.int (0 : Int32)]) cv_RX6_236 is_Y0 kc_7 ⟨Nat.le_of_ble_eq_true rfl, Nat.le_of_ble_eq_true rfl⟩ rfl rfl (Nat.le_of_ble_eq_true rfl) dX6_text_61 ?_
        refine ctX6_wants (0 : Int32) (ok_bnd h (fun q10 h => ?_))
        show Ev (wY, z) mtX6_text 8 183 64 [some (.ref 0), some (.int a1)] [] q10 Q
        refine e_aload_n dX6_text_64 rfl ?_
        refine e_callV (f2 := 7) (l2 := 162) (ν := mtX6_item) (as := []) cv_RX6_290 is_Y0 kc_7 ⟨Nat.le_of_ble_eq_true rfl, Nat.le_of_ble_eq_true rfl⟩ rfl rfl (Nat.le_of_ble_eq_true rfl) dX6_text_65 ?_
        refine ctX6_item (ok_bnd h (fun q11 h => ?_))
        show Ev (wY, z) mtX6_text 8 183 68 [some (.ref 0), some (.int a1)] [] q11 Q
        refine lv1e h (fun v12 ev12 h => ?_)
        refine e_iinc v12 dX6_text_68 rfl ev12 (by decide) rfl ?_
        refine e_goto 24 dX6_text_71 (by decide) ?_
        refine e_forget [some (.ref 0), some (.int v12)] (leL_s (leL_s leL_0)) ?_
        have h := ok_some h
        exact h
      · have h := ok_t c9 h
        refine e_iconst (1 : Int32) dX6_text_56 (by decide) ?_
        refine e_goto 61 dX6_text_57 (by decide) ?_
        refine e_callV (f2 := 3) (l2 := 67) (ν := mtX6_wants) (as := [.int (1 : Int32)]) cv_RX6_236 is_Y0 kc_7 ⟨Nat.le_of_ble_eq_true rfl, Nat.le_of_ble_eq_true rfl⟩ rfl rfl (Nat.le_of_ble_eq_true rfl) dX6_text_61 ?_
        refine ctX6_wants (1 : Int32) (ok_bnd h (fun q13 h => ?_))
        show Ev (wY, z) mtX6_text 8 183 64 [some (.ref 0), some (.int a1)] [] q13 Q
        refine e_aload_n dX6_text_64 rfl ?_
        refine e_callV (f2 := 7) (l2 := 162) (ν := mtX6_item) (as := []) cv_RX6_290 is_Y0 kc_7 ⟨Nat.le_of_ble_eq_true rfl, Nat.le_of_ble_eq_true rfl⟩ rfl rfl (Nat.le_of_ble_eq_true rfl) dX6_text_65 ?_
        refine ctX6_item (ok_bnd h (fun q14 h => ?_))
        show Ev (wY, z) mtX6_text 8 183 68 [some (.ref 0), some (.int a1)] [] q14 Q
        refine lv1e h (fun v15 ev15 h => ?_)
        refine e_iinc v15 dX6_text_68 rfl ev15 (by decide) rfl ?_
        refine e_goto 24 dX6_text_71 (by decide) ?_
        refine e_forget [some (.ref 0), some (.int v15)] (leL_s (leL_s leL_0)) ?_
        have h := ok_some h
        exact h
theorem elX6_text_l24 {z : Zt} {Q : Option Value → Me → Prop} (N : Nat) (s : Int32 × Me) (h : ok (lp (fpX6_text_l24) N s) (XX6_text_24 z Q)) : EX6_text_24 z Q s :=
  lp_ind (fun s h => ebX6_text_l24s s.1 s.2 h) N s h
def fpX6_text_b74 (a1 : Int32) (M : Me) : Option (Int32 × Me) := letv (wrM M 0 15 (0 : Int32)) fun M17 =>
 (if (M17.1 0 19) = 0 then
 some (a1, M17)
 else
 (fpX6_putsBack M17).bind fun q19 =>
 some (((-1 : Int32) - (q19.1 0 16)), q19))
set_option maxRecDepth 20000 in
theorem ebX6_text_b74 {z : Zt} {Q : Option Value → Me → Prop} (a1 : Int32) (M : Me) (h : ok (fpX6_text_b74 a1 M) (fun a => Q (some (.int a.1)) a.2)) : Ev (wY, z) mtX6_text 8 183 74 [some (.ref 0), some (.int a1)] [] M Q := by
  unfold fpX6_text_b74 at h
  refine e_aload_n dX6_text_74 rfl ?_
  refine e_iconst (0 : Int32) dX6_text_75 (by decide) ?_
  refine e_putI fw_RX6_196 is_Y0 dX6_text_76 ?_
  refine lv1 (P := fun M17 => Ev (wY, z) mtX6_text 8 183 79 [some (.ref 0), some (.int a1)] [] M17 Q) h (fun M17 h => ?_)
  refine e_aload_n dX6_text_79 rfl ?_
  refine e_getI fa_RX6_222 is_Y0 dX6_text_80 ?_
  refine e_if_eq 97 dX6_text_83 (by decide) (fun c18 => ?_) (fun c18 => ?_)
  · have h := ok_t c18 h
    refine e_iload_n dX6_text_97 rfl ?_
    have h := ok_some h
    exact e_iret rfl dX6_text_98 h
  · have h := ok_f c18 h
    refine e_aload_n dX6_text_86 rfl ?_
    refine e_callV (f2 := 0) (l2 := 0) (ν := mtX6_putsBack) (as := []) cv_RX6_182 is_Y0 kc_7 ⟨Nat.le_of_ble_eq_true rfl, Nat.le_of_ble_eq_true rfl⟩ rfl rfl (Nat.le_of_ble_eq_true rfl) dX6_text_87 ?_
    refine ctX6_putsBack (ok_bnd h (fun q19 h => ?_))
    show Ev (wY, z) mtX6_text 8 183 90 [some (.ref 0), some (.int a1)] [] q19 Q
    refine e_iconst (-1 : Int32) dX6_text_90 (by decide) ?_
    refine e_aload_n dX6_text_91 rfl ?_
    refine e_getI fa_RX6_210 is_Y0 dX6_text_92 ?_
    refine e_isub dX6_text_95 ?_
    have h := ok_some h
    exact e_iret rfl dX6_text_96 h
def fpX6_text  (M : Me) : Option (Int32 × Me) := (fpX6_puts M).bind fun q1 =>
 letv (wrM q1 0 17 (0 : Int32)) fun M2 =>
 letv (wrM M2 0 19 (0 : Int32)) fun M3 =>
 (fpX6_token M3).bind fun q4 =>
 (fpX6_item q4).bind fun q5 =>
 (lp (fpX6_text_l24) FU ((1 : Int32), q5)).bind fun r16 =>
 fpX6_text_b74 r16.1 r16.2
set_option maxRecDepth 20000 in
theorem ctX6_text {z : Zt} {M : Me} {Q : Option Value → Me → Prop}   (h : ok (fpX6_text M) (fun a => Q (some (.int a.1)) a.2)) : EvM (wY, z) mtX6_text 8 183 [.ref 0] M Q := by
  refine evm_of [some (.ref 0), none] 1 (by decide +kernel) (Nat.le_of_ble_eq_true rfl) rfl ?_
  unfold fpX6_text at h
  refine e_aload_n dX6_text_0 rfl ?_
  refine e_callV (f2 := 0) (l2 := 0) (ν := mtX6_puts) (as := []) cv_RX6_179 is_Y0 kc_7 ⟨Nat.le_of_ble_eq_true rfl, Nat.le_of_ble_eq_true rfl⟩ rfl rfl (Nat.le_of_ble_eq_true rfl) dX6_text_1 ?_
  refine ctX6_puts (ok_bnd h (fun q1 h => ?_))
  show Ev (wY, z) mtX6_text 8 183 4 [some (.ref 0), none] [] q1 Q
  refine e_aload_n dX6_text_4 rfl ?_
  refine e_iconst (0 : Int32) dX6_text_5 (by decide) ?_
  refine e_putI fw_RX6_207 is_Y0 dX6_text_6 ?_
  refine lv1 (P := fun M2 => Ev (wY, z) mtX6_text 8 183 9 [some (.ref 0), none] [] M2 Q) h (fun M2 h => ?_)
  refine e_aload_n dX6_text_9 rfl ?_
  refine e_iconst (0 : Int32) dX6_text_10 (by decide) ?_
  refine e_putZ fw_RX6_222 is_Y0 (Or.inl rfl) dX6_text_11 ?_
  refine lv1 (P := fun M3 => Ev (wY, z) mtX6_text 8 183 14 [some (.ref 0), none] [] M3 Q) h (fun M3 h => ?_)
  refine e_aload_n dX6_text_14 rfl ?_
  refine e_callV (f2 := 2) (l2 := 45) (ν := mtX6_token) (as := []) cv_RX6_226 is_Y0 kc_7 ⟨Nat.le_of_ble_eq_true rfl, Nat.le_of_ble_eq_true rfl⟩ rfl rfl (Nat.le_of_ble_eq_true rfl) dX6_text_15 ?_
  refine ctX6_token (ok_bnd h (fun q4 h => ?_))
  show Ev (wY, z) mtX6_text 8 183 18 [some (.ref 0), none] [] q4 Q
  refine e_iconst (1 : Int32) dX6_text_18 (by decide) ?_
  refine e_istore_n dX6_text_19 (by decide) rfl ?_
  refine e_aload_n dX6_text_20 rfl ?_
  refine e_callV (f2 := 7) (l2 := 162) (ν := mtX6_item) (as := []) cv_RX6_290 is_Y0 kc_7 ⟨Nat.le_of_ble_eq_true rfl, Nat.le_of_ble_eq_true rfl⟩ rfl rfl (Nat.le_of_ble_eq_true rfl) dX6_text_21 ?_
  refine ctX6_item (ok_bnd h (fun q5 h => ?_))
  show Ev (wY, z) mtX6_text 8 183 24 [some (.ref 0), some (.int (1 : Int32))] [] q5 Q
  refine e_forget [some (.ref 0), some (.int (1 : Int32))] (leL_s (leL_s leL_0)) ?_
  refine elX6_text_l24 FU ((1 : Int32), q5) (ok_bnd h (fun r16 h => ?_))
  show Ev (wY, z) mtX6_text 8 183 74 [some (.ref 0), some (.int r16.1)] [] r16.2 Q
  refine e_forget [some (.ref 0), some (.int r16.1)] (leL_s (leL_s leL_0)) ?_
  exact ebX6_text_b74 r16.1 r16.2 h
def fpX6_hold_b32 (a1 : Int32) (a2 : Int32) (M : Me) : Option (Int32 × Me) := (inb ((60 : Int32) + a1) 70).bind fun k4 =>
 letv (wrM M 1 k4 a2) fun M5 =>
 some ((1 : Int32), M5)
set_option maxRecDepth 20000 in
theorem ebX6_hold_b32 {z : Zt} {Q : Option Value → Me → Prop} (a1 : Int32) (a2 : Int32) (M : Me) (h : ok (fpX6_hold_b32 a1 a2 M) (fun a => Q (some (.int a.1)) a.2)) : Ev (wY, z) mtX6_hold 2 46 32 [some (.ref 0), some (.int a1), some (.int a2)] [] M Q := by
  unfold fpX6_hold_b32 at h
  refine e_aload_n dX6_hold_32 rfl ?_
  refine e_getR fa_RX6_7 is_Y0 rfl dX6_hold_33 ?_
  refine e_bipush (60 : Int32) dX6_hold_36 (by decide) ?_
  refine e_iload_n dX6_hold_38 rfl ?_
  refine e_iadd dX6_hold_39 ?_
  refine e_iload_n dX6_hold_40 rfl ?_
  refine ok_inb h (fun k4 ek4 ik4 h => ?_)
  refine e_iastK ia_Y1 ik4 ek4 dX6_hold_41 ?_
  refine lv1 (P := fun M5 => Ev (wY, z) mtX6_hold 2 46 42 [some (.ref 0), some (.int a1), some (.int a2)] [] M5 Q) h (fun M5 h => ?_)
  refine e_iconst (1 : Int32) dX6_hold_42 (by decide) ?_
  have h := ok_some h
  exact e_iret rfl dX6_hold_43 h
def fpX6_hold (a1 : Int32) (a2 : Int32) (M : Me) : Option (Int32 × Me) := (if (fpX6_in (a1.toInt64) (0 : Int64) (9 : Int64)) = 0 then
 (fpX6_finds (-1000001 : Int32) M).bind fun q2 =>
 some (q2.1, q2.2)
 else
 (if a2 = (-1 : Int32) then
 fpX6_hold_b32 a1 a2 M
 else
 (if (fpX6_isPump a2 M) = 0 then
 (fpX6_finds (-1000001 : Int32) M).bind fun q7 =>
 some (q7.1, q7.2)
 else
 fpX6_hold_b32 a1 a2 M)))
set_option maxRecDepth 20000 in
theorem ctX6_hold {z : Zt} {M : Me} {Q : Option Value → Me → Prop} (a1 : Int32) (a2 : Int32)  (h : ok (fpX6_hold a1 a2 M) (fun a => Q (some (.int a.1)) a.2)) : EvM (wY, z) mtX6_hold 2 46 [.ref 0, .int a1, .int a2] M Q := by
  refine evm_of [some (.ref 0), some (.int a1), some (.int a2)] 0 (by decide +kernel) (Nat.le_of_ble_eq_true rfl) rfl ?_
  unfold fpX6_hold at h
  refine e_iload_n dX6_hold_0 rfl ?_
  refine e_i2l dX6_hold_1 ?_
  refine e_lconst (0 : Int64) dX6_hold_2 (by decide) ?_
  refine e_ldc2 wk_RX6_109 dX6_hold_3 ?_
  refine e_callS (f2 := 0) (l2 := 0) (ν := mtX6_in) (as := [.long (a1.toInt64), .long (0 : Int64), .long (9 : Int64)]) cs_RX6_58 ⟨Nat.le_of_ble_eq_true rfl, Nat.le_of_ble_eq_true rfl⟩ rfl rfl (Nat.le_of_ble_eq_true rfl) dX6_hold_6 ?_
  refine ctX6_in (a1.toInt64) (0 : Int64) (9 : Int64) ?_
  show Ev (wY, z) mtX6_hold 2 46 9 [some (.ref 0), some (.int a1), some (.int a2)] [.int (fpX6_in (a1.toInt64) (0 : Int64) (9 : Int64))] M Q
  refine e_if_eq 25 dX6_hold_9 (by decide) (fun c1 => ?_) (fun c1 => ?_)
  · have h := ok_t c1 h
    refine e_aload_n dX6_hold_25 rfl ?_
    refine e_ldc wk_RX6_55 dX6_hold_26 ?_
    refine e_callV (f2 := 0) (l2 := 0) (ν := mtX6_finds) (as := [.int (-1000001 : Int32)]) cv_RX6_81 is_Y0 kc_7 ⟨Nat.le_of_ble_eq_true rfl, Nat.le_of_ble_eq_true rfl⟩ rfl rfl (Nat.le_of_ble_eq_true rfl) dX6_hold_28 ?_
    refine ctX6_finds (-1000001 : Int32) (ok_bnd h (fun q2 h => ?_))
    show Ev (wY, z) mtX6_hold 2 46 31 [some (.ref 0), some (.int a1), some (.int a2)] [.int q2.1] q2.2 Q
    have h := ok_some h
    exact e_iret rfl dX6_hold_31 h
  · have h := ok_f c1 h
    refine e_iload_n dX6_hold_12 rfl ?_
    refine e_iconst (-1 : Int32) dX6_hold_13 (by decide) ?_
    refine e_icmp_eq 32 dX6_hold_14 (by decide) (fun c3 => ?_) (fun c3 => ?_)
    · have h := ok_t c3 h
      refine e_forget [some (.ref 0), some (.int a1), some (.int a2)] (leL_s (leL_s (leL_s leL_0))) ?_
      exact ebX6_hold_b32 a1 a2 M h
    · have h := ok_f c3 h
      refine e_aload_n dX6_hold_17 rfl ?_
      refine e_iload_n dX6_hold_18 rfl ?_
      refine e_callV (f2 := 1) (l2 := 25) (ν := mtX6_isPump) (as := [.int a2]) cv_RX6_99 is_Y0 kc_7 ⟨Nat.le_of_ble_eq_true rfl, Nat.le_of_ble_eq_true rfl⟩ rfl rfl (Nat.le_of_ble_eq_true rfl) dX6_hold_19 ?_
      refine ctX6_isPump a2 ?_
      show Ev (wY, z) mtX6_hold 2 46 22 [some (.ref 0), some (.int a1), some (.int a2)] [.int (fpX6_isPump a2 M)] M Q
      refine e_if_ne 32 dX6_hold_22 (by decide) (fun c6 => ?_) (fun c6 => ?_)
      · have h := ok_f c6 h
        refine e_forget [some (.ref 0), some (.int a1), some (.int a2)] (leL_s (leL_s (leL_s leL_0))) ?_
        exact ebX6_hold_b32 a1 a2 M h
      · have h := ok_t c6 h
        refine e_aload_n dX6_hold_25 rfl ?_
        refine e_ldc wk_RX6_55 dX6_hold_26 ?_
        refine e_callV (f2 := 0) (l2 := 0) (ν := mtX6_finds) (as := [.int (-1000001 : Int32)]) cv_RX6_81 is_Y0 kc_7 ⟨Nat.le_of_ble_eq_true rfl, Nat.le_of_ble_eq_true rfl⟩ rfl rfl (Nat.le_of_ble_eq_true rfl) dX6_hold_28 ?_
        refine ctX6_finds (-1000001 : Int32) (ok_bnd h (fun q7 h => ?_))
        show Ev (wY, z) mtX6_hold 2 46 31 [some (.ref 0), some (.int a1), some (.int a2)] [.int q7.1] q7.2 Q
        have h := ok_some h
        exact e_iret rfl dX6_hold_31 h
def fpX6_as_b99 (a3 : Int32) (t0 : Int32) (M : Me) : Option (Int32 × Me) := (if t0 = 0 then
 (fpX6_finds (-1000003 : Int32) M).bind fun q10 =>
 some (q10.1, q10.2)
 else
 some (a3, M))
set_option maxRecDepth 20000 in
theorem ebX6_as_b99 {z : Zt} {Q : Option Value → Me → Prop} (a3 : Int32) (t0 : Int32) (M : Me) (h : ok (fpX6_as_b99 a3 t0 M) (fun a => Q (some (.int a.1)) a.2)) : Ev (wY, z) mtX6_as 2 43 99 [some (.ref 0), none, none, some (.int a3), none, none] [.int t0] M Q := by
  unfold fpX6_as_b99 at h
  refine e_istore dX6_as_99 (by decide) rfl ?_
  refine e_iload dX6_as_101 rfl ?_
  refine e_if_eq 110 dX6_as_103 (by decide) (fun c9 => ?_) (fun c9 => ?_)
  · have h := ok_t c9 h
    refine e_aload_n dX6_as_110 rfl ?_
    refine e_ldcw wk_RX6_294 dX6_as_111 ?_
    refine e_callV (f2 := 0) (l2 := 0) (ν := mtX6_finds) (as := [.int (-1000003 : Int32)]) cv_RX6_81 is_Y0 kc_7 ⟨Nat.le_of_ble_eq_true rfl, Nat.le_of_ble_eq_true rfl⟩ rfl rfl (Nat.le_of_ble_eq_true rfl) dX6_as_114 ?_
    refine ctX6_finds (-1000003 : Int32) (ok_bnd h (fun q10 h => ?_))
    show Ev (wY, z) mtX6_as 2 43 117 [some (.ref 0), none, none, some (.int a3), none, some (.int t0)] [.int q10.1] q10.2 Q
    have h := ok_some h
    exact e_iret rfl dX6_as_117 h
  · have h := ok_f c9 h
    refine e_iload_n dX6_as_106 rfl ?_
    refine e_goto 117 dX6_as_107 (by decide) ?_
    have h := ok_some h
    exact e_iret rfl dX6_as_117 h
def fpX6_as_b94 (a3 : Int32) (M : Me) : Option (Int32 × Me) := fpX6_as_b99 a3 (1 : Int32) M
set_option maxRecDepth 20000 in
theorem ebX6_as_b94 {z : Zt} {Q : Option Value → Me → Prop} (a3 : Int32) (M : Me) (h : ok (fpX6_as_b94 a3 M) (fun a => Q (some (.int a.1)) a.2)) : Ev (wY, z) mtX6_as 2 43 94 [some (.ref 0), none, none, some (.int a3), none, none] [] M Q := by
  unfold fpX6_as_b94 at h
  refine e_iconst (1 : Int32) dX6_as_94 (by decide) ?_
  refine e_goto 99 dX6_as_95 (by decide) ?_
  refine e_forget [some (.ref 0), none, none, some (.int a3), none, none] (leL_s (leL_n (leL_n (leL_s (leL_n (leL_n leL_0)))))) ?_
  exact ebX6_as_b99 a3 (1 : Int32) M h
def fpX6_as_b98 (a3 : Int32) (M : Me) : Option (Int32 × Me) := fpX6_as_b99 a3 (0 : Int32) M
set_option maxRecDepth 20000 in
theorem ebX6_as_b98 {z : Zt} {Q : Option Value → Me → Prop} (a3 : Int32) (M : Me) (h : ok (fpX6_as_b98 a3 M) (fun a => Q (some (.int a.1)) a.2)) : Ev (wY, z) mtX6_as 2 43 98 [some (.ref 0), none, none, some (.int a3), none, none] [] M Q := by
  unfold fpX6_as_b98 at h
  refine e_iconst (0 : Int32) dX6_as_98 (by decide) ?_
  refine e_forget [some (.ref 0), none, none, some (.int a3), none, none] (leL_s (leL_n (leL_n (leL_s (leL_n (leL_n leL_0)))))) ?_
  exact ebX6_as_b99 a3 (0 : Int32) M h
def fpX6_as_b82 (a2 : Int32) (a3 : Int32) (a4 : Int32) (M : Me) : Option (Int32 × Me) := (if a2 = (3 : Int32) then
 (if a4 = (6 : Int32) then
 fpX6_as_b94 a3 M
 else
 fpX6_as_b98 a3 M)
 else
 fpX6_as_b98 a3 M)
set_option maxRecDepth 20000 in
theorem ebX6_as_b82 {z : Zt} {Q : Option Value → Me → Prop} (a2 : Int32) (a3 : Int32) (a4 : Int32) (M : Me) (h : ok (fpX6_as_b82 a2 a3 a4 M) (fun a => Q (some (.int a.1)) a.2)) : Ev (wY, z) mtX6_as 2 43 82 [some (.ref 0), none, some (.int a2), some (.int a3), some (.int a4), none] [] M Q := by
  unfold fpX6_as_b82 at h
  refine e_iload_n dX6_as_82 rfl ?_
  refine e_iconst (3 : Int32) dX6_as_83 (by decide) ?_
  refine e_icmp_ne 98 dX6_as_84 (by decide) (fun c13 => ?_) (fun c13 => ?_)
  · have h := ok_f c13 h
    refine e_forget [some (.ref 0), none, none, some (.int a3), none, none] (leL_s (leL_n (leL_n (leL_s (leL_n (leL_n leL_0)))))) ?_
    exact ebX6_as_b98 a3 M h
  · have h := ok_t c13 h
    refine e_iload dX6_as_87 rfl ?_
    refine e_bipush (6 : Int32) dX6_as_89 (by decide) ?_
    refine e_icmp_ne 98 dX6_as_91 (by decide) (fun c14 => ?_) (fun c14 => ?_)
    · have h := ok_f c14 h
      refine e_forget [some (.ref 0), none, none, some (.int a3), none, none] (leL_s (leL_n (leL_n (leL_s (leL_n (leL_n leL_0)))))) ?_
      exact ebX6_as_b98 a3 M h
    · have h := ok_t c14 h
      refine e_forget [some (.ref 0), none, none, some (.int a3), none, none] (leL_s (leL_n (leL_n (leL_s (leL_n (leL_n leL_0)))))) ?_
      exact ebX6_as_b94 a3 M h
def fpX6_as (a1 : Int32) (a2 : Int32) (M : Me) : Option (Int32 × Me) := (if (fpX6_in (a1.toInt64) (0 : Int64) (9 : Int64)) = 0 then
 (fpX6_finds (-1000001 : Int32) M).bind fun q2 =>
 some (q2.1, q2.2)
 else
 (if (fpX6_in (a2.toInt64) (0 : Int64) (6 : Int64)) = 0 then
 (fpX6_finds (-1000001 : Int32) M).bind fun q17 =>
 some (q17.1, q17.2)
 else
 (inb ((60 : Int32) + a1) 70).bind fun k4 =>
 letv (M.1 1 k4) fun v5 =>
 (if 0 ≤ v5 then
 (fpX6_its v5 (0 : Int32) M).bind fun v7 =>
 (if a2 = 0 then
 fpX6_as_b94 v5 M
 else
 (if v7 = a2 then
 fpX6_as_b94 v5 M
 else
 (if a2 = (1 : Int32) then
 (if v7 = (4 : Int32) then
 fpX6_as_b94 v5 M
 else
 fpX6_as_b82 a2 v5 v7 M)
 else
 fpX6_as_b82 a2 v5 v7 M)))
 else
 (fpX6_finds (-1000006 : Int32) M).bind fun q16 =>
 some (q16.1, q16.2))))
set_option maxRecDepth 20000 in
theorem ctX6_as {z : Zt} {M : Me} {Q : Option Value → Me → Prop} (a1 : Int32) (a2 : Int32)  (h : ok (fpX6_as a1 a2 M) (fun a => Q (some (.int a.1)) a.2)) : EvM (wY, z) mtX6_as 2 43 [.ref 0, .int a1, .int a2] M Q := by
  refine evm_of [some (.ref 0), some (.int a1), some (.int a2), none, none, none] 3 (by decide +kernel) (Nat.le_of_ble_eq_true rfl) rfl ?_
  unfold fpX6_as at h
  refine e_iload_n dX6_as_0 rfl ?_
  refine e_i2l dX6_as_1 ?_
  refine e_lconst (0 : Int64) dX6_as_2 (by decide) ?_
  refine e_ldc2 wk_RX6_109 dX6_as_3 ?_
  refine e_callS (f2 := 0) (l2 := 0) (ν := mtX6_in) (as := [.long (a1.toInt64), .long (0 : Int64), .long (9 : Int64)]) cs_RX6_58 ⟨Nat.le_of_ble_eq_true rfl, Nat.le_of_ble_eq_true rfl⟩ rfl rfl (Nat.le_of_ble_eq_true rfl) dX6_as_6 ?_
  refine ctX6_in (a1.toInt64) (0 : Int64) (9 : Int64) ?_
  show Ev (wY, z) mtX6_as 2 43 9 [some (.ref 0), some (.int a1), some (.int a2), none, none, none] [.int (fpX6_in (a1.toInt64) (0 : Int64) (9 : Int64))] M Q
  refine e_if_eq 24 dX6_as_9 (by decide) (fun c1 => ?_) (fun c1 => ?_)
  · have h := ok_t c1 h
    refine e_aload_n dX6_as_24 rfl ?_
    refine e_ldc wk_RX6_55 dX6_as_25 ?_
    refine e_callV (f2 := 0) (l2 := 0) (ν := mtX6_finds) (as := [.int (-1000001 : Int32)]) cv_RX6_81 is_Y0 kc_7 ⟨Nat.le_of_ble_eq_true rfl, Nat.le_of_ble_eq_true rfl⟩ rfl rfl (Nat.le_of_ble_eq_true rfl) dX6_as_27 ?_
    refine ctX6_finds (-1000001 : Int32) (ok_bnd h (fun q2 h => ?_))
    show Ev (wY, z) mtX6_as 2 43 30 [some (.ref 0), some (.int a1), some (.int a2), none, none, none] [.int q2.1] q2.2 Q
    have h := ok_some h
    exact e_iret rfl dX6_as_30 h
  · have h := ok_f c1 h
    refine e_iload_n dX6_as_12 rfl ?_
    refine e_i2l dX6_as_13 ?_
    refine e_lconst (0 : Int64) dX6_as_14 (by decide) ?_
    refine e_ldc2 wk_RX6_67 dX6_as_15 ?_
    refine e_callS (f2 := 0) (l2 := 0) (ν := mtX6_in) (as := [.long (a2.toInt64), .long (0 : Int64), .long (6 : Int64)]) cs_RX6_58 ⟨Nat.le_of_ble_eq_true rfl, Nat.le_of_ble_eq_true rfl⟩ rfl rfl (Nat.le_of_ble_eq_true rfl) dX6_as_18 ?_
    refine ctX6_in (a2.toInt64) (0 : Int64) (6 : Int64) ?_
    show Ev (wY, z) mtX6_as 2 43 21 [some (.ref 0), some (.int a1), some (.int a2), none, none, none] [.int (fpX6_in (a2.toInt64) (0 : Int64) (6 : Int64))] M Q
    refine e_if_ne 31 dX6_as_21 (by decide) (fun c3 => ?_) (fun c3 => ?_)
    · have h := ok_f c3 h
      refine e_aload_n dX6_as_31 rfl ?_
      refine e_getR fa_RX6_7 is_Y0 rfl dX6_as_32 ?_
      refine e_bipush (60 : Int32) dX6_as_35 (by decide) ?_
      refine e_iload_n dX6_as_37 rfl ?_
      refine e_iadd dX6_as_38 ?_
      refine ok_inb h (fun k4 ek4 ik4 h => ?_)
      refine e_ialdK ia_Y1 ik4 ek4 dX6_as_39 ?_
      refine lv1 (P := fun v5 => Ev (wY, z) mtX6_as 2 43 40 [some (.ref 0), some (.int a1), some (.int a2), none, none, none] [.int v5] M Q) h (fun v5 h => ?_)
      refine e_istore_n dX6_as_40 (by decide) rfl ?_
      refine e_iload_n dX6_as_41 rfl ?_
      refine e_if_ge 53 dX6_as_42 (by decide) (fun c6 => ?_) (fun c6 => ?_)
      · have h := ok_t c6 h
        refine e_aload_n dX6_as_53 rfl ?_
        refine e_iload_n dX6_as_54 rfl ?_
        refine e_iconst (0 : Int32) dX6_as_55 (by decide) ?_
        refine e_callV (f2 := 1) (l2 := 21) (ν := mtX6_its) (as := [.int v5, .int (0 : Int32)]) cv_RX6_90 is_Y0 kc_7 ⟨Nat.le_of_ble_eq_true rfl, Nat.le_of_ble_eq_true rfl⟩ rfl rfl (Nat.le_of_ble_eq_true rfl) dX6_as_56 ?_
        refine ctX6_its v5 (0 : Int32) (ok_bnd h (fun v7 h => ?_))
        show Ev (wY, z) mtX6_as 2 43 59 [some (.ref 0), some (.int a1), some (.int a2), some (.int v5), none, none] [.int v7] M Q
        refine e_istore dX6_as_59 (by decide) rfl ?_
        refine e_iload_n dX6_as_61 rfl ?_
        refine e_if_eq 94 dX6_as_62 (by decide) (fun c8 => ?_) (fun c8 => ?_)
        · have h := ok_t c8 h
          refine e_forget [some (.ref 0), none, none, some (.int v5), none, none] (leL_s (leL_n (leL_n (leL_s (leL_n (leL_n leL_0)))))) ?_
          exact ebX6_as_b94 v5 M h
        · have h := ok_f c8 h
          refine e_iload dX6_as_65 rfl ?_
          refine e_iload_n dX6_as_67 rfl ?_
          refine e_icmp_eq 94 dX6_as_68 (by decide) (fun c11 => ?_) (fun c11 => ?_)
          · have h := ok_t c11 h
            refine e_forget [some (.ref 0), none, none, some (.int v5), none, none] (leL_s (leL_n (leL_n (leL_s (leL_n (leL_n leL_0)))))) ?_
            exact ebX6_as_b94 v5 M h
          · have h := ok_f c11 h
            refine e_iload_n dX6_as_71 rfl ?_
            refine e_iconst (1 : Int32) dX6_as_72 (by decide) ?_
            refine e_icmp_ne 82 dX6_as_73 (by decide) (fun c12 => ?_) (fun c12 => ?_)
            · have h := ok_f c12 h
              refine e_forget [some (.ref 0), none, some (.int a2), some (.int v5), some (.int v7), none] (leL_s (leL_n (leL_s (leL_s (leL_s (leL_n leL_0)))))) ?_
              exact ebX6_as_b82 a2 v5 v7 M h
            · have h := ok_t c12 h
              refine e_iload dX6_as_76 rfl ?_
              refine e_iconst (4 : Int32) dX6_as_78 (by decide) ?_
              refine e_icmp_eq 94 dX6_as_79 (by decide) (fun c15 => ?_) (fun c15 => ?_)
              · have h := ok_t c15 h
                refine e_forget [some (.ref 0), none, none, some (.int v5), none, none] (leL_s (leL_n (leL_n (leL_s (leL_n (leL_n leL_0)))))) ?_
                exact ebX6_as_b94 v5 M h
              · have h := ok_f c15 h
                refine e_forget [some (.ref 0), none, some (.int a2), some (.int v5), some (.int v7), none] (leL_s (leL_n (leL_s (leL_s (leL_s (leL_n leL_0)))))) ?_
                exact ebX6_as_b82 a2 v5 v7 M h
      · have h := ok_f c6 h
        refine e_aload_n dX6_as_45 rfl ?_
        refine e_ldcw wk_RX6_293 dX6_as_46 ?_
        refine e_callV (f2 := 0) (l2 := 0) (ν := mtX6_finds) (as := [.int (-1000006 : Int32)]) cv_RX6_81 is_Y0 kc_7 ⟨Nat.le_of_ble_eq_true rfl, Nat.le_of_ble_eq_true rfl⟩ rfl rfl (Nat.le_of_ble_eq_true rfl) dX6_as_49 ?_
        refine ctX6_finds (-1000006 : Int32) (ok_bnd h (fun q16 h => ?_))
        show Ev (wY, z) mtX6_as 2 43 52 [some (.ref 0), some (.int a1), some (.int a2), some (.int v5), none, none] [.int q16.1] q16.2 Q
        have h := ok_some h
        exact e_iret rfl dX6_as_52 h
    · have h := ok_t c3 h
      refine e_aload_n dX6_as_24 rfl ?_
      refine e_ldc wk_RX6_55 dX6_as_25 ?_
      refine e_callV (f2 := 0) (l2 := 0) (ν := mtX6_finds) (as := [.int (-1000001 : Int32)]) cv_RX6_81 is_Y0 kc_7 ⟨Nat.le_of_ble_eq_true rfl, Nat.le_of_ble_eq_true rfl⟩ rfl rfl (Nat.le_of_ble_eq_true rfl) dX6_as_27 ?_
      refine ctX6_finds (-1000001 : Int32) (ok_bnd h (fun q17 h => ?_))
      show Ev (wY, z) mtX6_as 2 43 30 [some (.ref 0), some (.int a1), some (.int a2), none, none, none] [.int q17.1] q17.2 Q
      have h := ok_some h
      exact e_iret rfl dX6_as_30 h
def fpX6_isOne (a0 : Int32) : Int32 := (fpX6_in (a0.toInt64) (0 : Int64) (3 : Int64))
theorem fpzX6_isOne (a0 : Int32) : fpX6_isOne a0 = 0 ∨ fpX6_isOne a0 = 1 := by
  unfold fpX6_isOne
  (repeat' split) <;> first | exact Or.inl rfl | exact Or.inr rfl | apply fpzX6_in
set_option maxRecDepth 20000 in
theorem ctX6_isOne {z : Zt} {M : Me} {Q : Option Value → Me → Prop} (a0 : Int32)  (h : Q (some (.int (fpX6_isOne a0))) M) : EvM (wY, z) mtX6_isOne 1 25 [.int a0] M Q := by
  refine evm_of [some (.int a0)] 0 (by decide +kernel) (Nat.le_of_ble_eq_true rfl) rfl ?_
  refine e_iload_n dX6_isOne_0 rfl ?_
  refine e_i2l dX6_isOne_1 ?_
  refine e_lconst (0 : Int64) dX6_isOne_2 (by decide) ?_
  refine e_ldc2 wk_RX6_295 dX6_isOne_3 ?_
  refine e_callS (f2 := 0) (l2 := 0) (ν := mtX6_in) (as := [.long (a0.toInt64), .long (0 : Int64), .long (3 : Int64)]) cs_RX6_58 ⟨Nat.le_of_ble_eq_true rfl, Nat.le_of_ble_eq_true rfl⟩ rfl rfl (Nat.le_of_ble_eq_true rfl) dX6_isOne_6 ?_
  refine ctX6_in (a0.toInt64) (0 : Int64) (3 : Int64) ?_
  show Ev (wY, z) mtX6_isOne 1 25 9 [some (.int a0)] [.int (fpX6_in (a0.toInt64) (0 : Int64) (3 : Int64))] M Q
  have e0 : fpX6_isOne a0 = (fpX6_in (a0.toInt64) (0 : Int64) (3 : Int64)) := rfl
  rw [e0] at h
  exact e_zret rfl (fpzX6_in (a0.toInt64) (0 : Int64) (3 : Int64)) dX6_isOne_9 h
def XX6_sheet_86 (z : Zt) (a1 : Int32) (Q : Option Value → Me → Prop) : (Me) → Prop := fun t => Ev (wY, z) mtX6_sheet 2 45 112 [some (.ref 0), some (.int a1), none, none, none] [] t Q
def EX6_sheet_86 (z : Zt) (a1 : Int32) (Q : Option Value → Me → Prop) : (Int32 × Me) → Prop := fun s => Ev (wY, z) mtX6_sheet 2 45 86 [some (.ref 0), some (.int a1), none, none, some (.int s.1)] [] s.2 Q
def GX6_sheet_86 (z : Zt) (a1 : Int32) (Q : Option Value → Me → Prop) : (Int32 × Me) ⊕ (Me) → Prop := Sum.elim (EX6_sheet_86 z a1 Q) (XX6_sheet_86 z a1 Q)
def fpX6_sheet_l86s (a1 : Int32) (a4 : Int32) (M : Me) : Option ((Int32 × Me) ⊕ (Me)) := (if (40 : Int32) ≤ a4 then
 some (.inr M)
 else
 (inb (((40 : Int32) * a1) + a4) 160).bind fun k12 =>
 letv (wrM M 14 k12 (0 : Int32)) fun M13 =>
 letv (a4 + (1 : Int32)) fun v14 =>
 some (.inl (v14, M13)))
def fpX6_sheet_l86 (a1 : Int32) (s : Int32 × Me) : Option ((Int32 × Me) ⊕ (Me)) := fpX6_sheet_l86s a1 s.1 s.2
set_option maxRecDepth 20000 in
theorem ebX6_sheet_l86s {z : Zt} {Q : Option Value → Me → Prop} (a1 : Int32) (a4 : Int32) (M : Me) (h : ok (fpX6_sheet_l86s a1 a4 M) (GX6_sheet_86 z a1 Q)) : Ev (wY, z) mtX6_sheet 2 45 86 [some (.ref 0), some (.int a1), none, none, some (.int a4)] [] M Q := by
  unfold fpX6_sheet_l86s at h
  refine e_iload dX6_sheet_86 rfl ?_
  refine e_bipush (40 : Int32) dX6_sheet_88 (by decide) ?_
  refine e_icmp_ge 112 dX6_sheet_90 (by decide) (fun c11 => ?_) (fun c11 => ?_)
  · have h := ok_t c11 h
    refine e_forget [some (.ref 0), some (.int a1), none, none, none] (leL_s (leL_s (leL_n (leL_n (leL_n leL_0))))) ?_
    have h := ok_some h
    exact h
  · have h := ok_f c11 h
    refine e_aload_n dX6_sheet_93 rfl ?_
    refine e_getR fa_RX6_49 is_Y0 rfl dX6_sheet_94 ?_
    refine e_bipush (40 : Int32) dX6_sheet_97 (by decide) ?_
    refine e_iload_n dX6_sheet_99 rfl ?_
    refine e_imul dX6_sheet_100 ?_
    refine e_iload dX6_sheet_101 rfl ?_
    refine e_iadd dX6_sheet_103 ?_
    refine e_iconst (0 : Int32) dX6_sheet_104 (by decide) ?_
    refine ok_inb h (fun k12 ek12 ik12 h => ?_)
    refine e_iastK ia_Y14 ik12 ek12 dX6_sheet_105 ?_
    refine lv1 (P := fun M13 => Ev (wY, z) mtX6_sheet 2 45 106 [some (.ref 0), some (.int a1), none, none, some (.int a4)] [] M13 Q) h (fun M13 h => ?_)
    refine lv1e h (fun v14 ev14 h => ?_)
    refine e_iinc v14 dX6_sheet_106 rfl ev14 (by decide) rfl ?_
    refine e_goto 86 dX6_sheet_109 (by decide) ?_
    refine e_forget [some (.ref 0), some (.int a1), none, none, some (.int v14)] (leL_s (leL_s (leL_n (leL_n (leL_s leL_0))))) ?_
    have h := ok_some h
    exact h
theorem elX6_sheet_l86 {z : Zt} {Q : Option Value → Me → Prop} (a1 : Int32) (N : Nat) (s : Int32 × Me) (h : ok (lp (fpX6_sheet_l86 a1) N s) (XX6_sheet_86 z a1 Q)) : EX6_sheet_86 z a1 Q s :=
  lp_ind (fun s h => ebX6_sheet_l86s a1 s.1 s.2 h) N s h
def fpX6_sheet_b82 (a1 : Int32) (t1 : Int32) (t2 : Int32) (M : Me) : Option (Int32 × Me) := (inb t1 4).bind fun k9 =>
 letv (wrM M 13 k9 t2) fun M10 =>
 (lp (fpX6_sheet_l86 a1) FU ((0 : Int32), M10)).bind fun r15 =>
 (inb a1 4).bind fun k16 =>
 some ((r15.1 13 k16), r15)
set_option maxRecDepth 20000 in
theorem ebX6_sheet_b82 {z : Zt} {Q : Option Value → Me → Prop} (a1 : Int32) (t1 : Int32) (t2 : Int32) (M : Me) (h : ok (fpX6_sheet_b82 a1 t1 t2 M) (fun a => Q (some (.int a.1)) a.2)) : Ev (wY, z) mtX6_sheet 2 45 82 [some (.ref 0), some (.int a1), none, none, none] [.int t2, .int t1, .ref 13] M Q := by
  unfold fpX6_sheet_b82 at h
  refine ok_inb h (fun k9 ek9 ik9 h => ?_)
  refine e_iastK ia_Y13 ik9 ek9 dX6_sheet_82 ?_
  refine lv1 (P := fun M10 => Ev (wY, z) mtX6_sheet 2 45 83 [some (.ref 0), some (.int a1), none, none, none] [] M10 Q) h (fun M10 h => ?_)
  refine e_iconst (0 : Int32) dX6_sheet_83 (by decide) ?_
  refine e_istore dX6_sheet_84 (by decide) rfl ?_
  refine e_forget [some (.ref 0), some (.int a1), none, none, some (.int (0 : Int32))] (leL_s (leL_s (leL_n (leL_n (leL_s leL_0))))) ?_
  refine elX6_sheet_l86 a1 FU ((0 : Int32), M10) (ok_bnd h (fun r15 h => ?_))
  show Ev (wY, z) mtX6_sheet 2 45 112 [some (.ref 0), some (.int a1), none, none, none] [] r15 Q
  refine e_aload_n dX6_sheet_112 rfl ?_
  refine e_getR fa_RX6_46 is_Y0 rfl dX6_sheet_113 ?_
  refine e_iload_n dX6_sheet_116 rfl ?_
  refine ok_inb h (fun k16 ek16 ik16 h => ?_)
  refine e_ialdK ia_Y13 ik16 ek16 dX6_sheet_117 ?_
  have h := ok_some h
  exact e_iret rfl dX6_sheet_118 h
def fpX6_sheet_b36 (a1 : Int32) (a2 : Int32) (a3 : Int32) (M : Me) : Option (Int32 × Me) := (if 0 ≤ a3 then
 (if a3 ≤ (40 : Int32) then
 (inb a1 4).bind fun k6 =>
 letv (wrM M 12 k6 a2) fun M7 =>
 (if a2 = 0 then
 fpX6_sheet_b82 a1 a1 (0 : Int32) M7
 else
 fpX6_sheet_b82 a1 a1 a3 M7)
 else
 (fpX6_finds (-1000001 : Int32) M).bind fun q17 =>
 some (q17.1, q17.2))
 else
 (fpX6_finds (-1000007 : Int32) M).bind fun q18 =>
 some (q18.1, q18.2))
set_option maxRecDepth 20000 in
theorem ebX6_sheet_b36 {z : Zt} {Q : Option Value → Me → Prop} (a1 : Int32) (a2 : Int32) (a3 : Int32) (M : Me) (h : ok (fpX6_sheet_b36 a1 a2 a3 M) (fun a => Q (some (.int a.1)) a.2)) : Ev (wY, z) mtX6_sheet 2 45 36 [some (.ref 0), some (.int a1), some (.int a2), some (.int a3), none] [] M Q := by
  unfold fpX6_sheet_b36 at h
  refine e_iload_n dX6_sheet_36 rfl ?_
  refine e_if_ge 48 dX6_sheet_37 (by decide) (fun c4 => ?_) (fun c4 => ?_)
  · have h := ok_t c4 h
    refine e_iload_n dX6_sheet_48 rfl ?_
    refine e_bipush (40 : Int32) dX6_sheet_49 (by decide) ?_
    refine e_icmp_le 61 dX6_sheet_51 (by decide) (fun c5 => ?_) (fun c5 => ?_)
    · have h := ok_t c5 h
      refine e_aload_n dX6_sheet_61 rfl ?_
      refine e_getR fa_RX6_43 is_Y0 rfl dX6_sheet_62 ?_
      refine e_iload_n dX6_sheet_65 rfl ?_
      refine e_iload_n dX6_sheet_66 rfl ?_
      refine ok_inb h (fun k6 ek6 ik6 h => ?_)
      refine e_iastK ia_Y12 ik6 ek6 dX6_sheet_67 ?_
      refine lv1 (P := fun M7 => Ev (wY, z) mtX6_sheet 2 45 68 [some (.ref 0), some (.int a1), some (.int a2), some (.int a3), none] [] M7 Q) h (fun M7 h => ?_)
      refine e_aload_n dX6_sheet_68 rfl ?_
      refine e_getR fa_RX6_46 is_Y0 rfl dX6_sheet_69 ?_
      refine e_iload_n dX6_sheet_72 rfl ?_
      refine e_iload_n dX6_sheet_73 rfl ?_
      refine e_if_ne 81 dX6_sheet_74 (by decide) (fun c8 => ?_) (fun c8 => ?_)
      · have h := ok_f c8 h
        refine e_iload_n dX6_sheet_81 rfl ?_
        refine e_forget [some (.ref 0), some (.int a1), none, none, none] (leL_s (leL_s (leL_n (leL_n (leL_n leL_0))))) ?_
        exact ebX6_sheet_b82 a1 a1 a3 M7 h
      · have h := ok_t c8 h
        refine e_iconst (0 : Int32) dX6_sheet_77 (by decide) ?_
        refine e_goto 82 dX6_sheet_78 (by decide) ?_
        refine e_forget [some (.ref 0), some (.int a1), none, none, none] (leL_s (leL_s (leL_n (leL_n (leL_n leL_0))))) ?_
        exact ebX6_sheet_b82 a1 a1 (0 : Int32) M7 h
    · have h := ok_f c5 h
      refine e_aload_n dX6_sheet_54 rfl ?_
      refine e_ldc wk_RX6_55 dX6_sheet_55 ?_
      refine e_callV (f2 := 0) (l2 := 0) (ν := mtX6_finds) (as := [.int (-1000001 : Int32)]) cv_RX6_81 is_Y0 kc_7 ⟨Nat.le_of_ble_eq_true rfl, Nat.le_of_ble_eq_true rfl⟩ rfl rfl (Nat.le_of_ble_eq_true rfl) dX6_sheet_57 ?_
      refine ctX6_finds (-1000001 : Int32) (ok_bnd h (fun q17 h => ?_))
      show Ev (wY, z) mtX6_sheet 2 45 60 [some (.ref 0), some (.int a1), some (.int a2), some (.int a3), none] [.int q17.1] q17.2 Q
      have h := ok_some h
      exact e_iret rfl dX6_sheet_60 h
  · have h := ok_f c4 h
    refine e_aload_n dX6_sheet_40 rfl ?_
    refine e_ldcw wk_RX6_300 dX6_sheet_41 ?_
    refine e_callV (f2 := 0) (l2 := 0) (ν := mtX6_finds) (as := [.int (-1000007 : Int32)]) cv_RX6_81 is_Y0 kc_7 ⟨Nat.le_of_ble_eq_true rfl, Nat.le_of_ble_eq_true rfl⟩ rfl rfl (Nat.le_of_ble_eq_true rfl) dX6_sheet_44 ?_
    refine ctX6_finds (-1000007 : Int32) (ok_bnd h (fun q18 h => ?_))
    show Ev (wY, z) mtX6_sheet 2 45 47 [some (.ref 0), some (.int a1), some (.int a2), some (.int a3), none] [.int q18.1] q18.2 Q
    have h := ok_some h
    exact e_iret rfl dX6_sheet_47 h
def fpX6_sheet (a1 : Int32) (a2 : Int32) (a3 : Int32) (M : Me) : Option (Int32 × Me) := (if (fpX6_isOne a1) = 0 then
 (fpX6_finds (-1000001 : Int32) M).bind fun q2 =>
 some (q2.1, q2.2)
 else
 (if a2 = 0 then
 fpX6_sheet_b36 a1 a2 a3 M
 else
 (if a2 = (8 : Int32) then
 fpX6_sheet_b36 a1 a2 a3 M
 else
 (if a2 = (16 : Int32) then
 fpX6_sheet_b36 a1 a2 a3 M
 else
 (if a2 = (32 : Int32) then
 fpX6_sheet_b36 a1 a2 a3 M
 else
 (fpX6_finds (-1000001 : Int32) M).bind fun q22 =>
 some (q22.1, q22.2))))))
set_option maxRecDepth 20000 in
theorem ctX6_sheet {z : Zt} {M : Me} {Q : Option Value → Me → Prop} (a1 : Int32) (a2 : Int32) (a3 : Int32)  (h : ok (fpX6_sheet a1 a2 a3 M) (fun a => Q (some (.int a.1)) a.2)) : EvM (wY, z) mtX6_sheet 2 45 [.ref 0, .int a1, .int a2, .int a3] M Q := by
  refine evm_of [some (.ref 0), some (.int a1), some (.int a2), some (.int a3), none] 1 (by decide +kernel) (Nat.le_of_ble_eq_true rfl) rfl ?_
  unfold fpX6_sheet at h
  refine e_iload_n dX6_sheet_0 rfl ?_
  refine e_callS (f2 := 1) (l2 := 25) (ν := mtX6_isOne) (as := [.int a1]) cs_RX6_297 ⟨Nat.le_of_ble_eq_true rfl, Nat.le_of_ble_eq_true rfl⟩ rfl rfl (Nat.le_of_ble_eq_true rfl) dX6_sheet_1 ?_
  refine ctX6_isOne a1 ?_
  show Ev (wY, z) mtX6_sheet 2 45 4 [some (.ref 0), some (.int a1), some (.int a2), some (.int a3), none] [.int (fpX6_isOne a1)] M Q
  refine e_if_eq 29 dX6_sheet_4 (by decide) (fun c1 => ?_) (fun c1 => ?_)
  · have h := ok_t c1 h
    refine e_aload_n dX6_sheet_29 rfl ?_
    refine e_ldc wk_RX6_55 dX6_sheet_30 ?_
    refine e_callV (f2 := 0) (l2 := 0) (ν := mtX6_finds) (as := [.int (-1000001 : Int32)]) cv_RX6_81 is_Y0 kc_7 ⟨Nat.le_of_ble_eq_true rfl, Nat.le_of_ble_eq_true rfl⟩ rfl rfl (Nat.le_of_ble_eq_true rfl) dX6_sheet_32 ?_
    refine ctX6_finds (-1000001 : Int32) (ok_bnd h (fun q2 h => ?_))
    show Ev (wY, z) mtX6_sheet 2 45 35 [some (.ref 0), some (.int a1), some (.int a2), some (.int a3), none] [.int q2.1] q2.2 Q
    have h := ok_some h
    exact e_iret rfl dX6_sheet_35 h
  · have h := ok_f c1 h
    refine e_iload_n dX6_sheet_7 rfl ?_
    refine e_if_eq 36 dX6_sheet_8 (by decide) (fun c3 => ?_) (fun c3 => ?_)
    · have h := ok_t c3 h
      refine e_forget [some (.ref 0), some (.int a1), some (.int a2), some (.int a3), none] (leL_s (leL_s (leL_s (leL_s (leL_n leL_0))))) ?_
      exact ebX6_sheet_b36 a1 a2 a3 M h
    · have h := ok_f c3 h
      refine e_iload_n dX6_sheet_11 rfl ?_
      refine e_bipush (8 : Int32) dX6_sheet_12 (by decide) ?_
      refine e_icmp_eq 36 dX6_sheet_14 (by decide) (fun c19 => ?_) (fun c19 => ?_)
      · have h := ok_t c19 h
        refine e_forget [some (.ref 0), some (.int a1), some (.int a2), some (.int a3), none] (leL_s (leL_s (leL_s (leL_s (leL_n leL_0))))) ?_
        exact ebX6_sheet_b36 a1 a2 a3 M h
      · have h := ok_f c19 h
        refine e_iload_n dX6_sheet_17 rfl ?_
        refine e_bipush (16 : Int32) dX6_sheet_18 (by decide) ?_
        refine e_icmp_eq 36 dX6_sheet_20 (by decide) (fun c20 => ?_) (fun c20 => ?_)
        · have h := ok_t c20 h
          refine e_forget [some (.ref 0), some (.int a1), some (.int a2), some (.int a3), none] (leL_s (leL_s (leL_s (leL_s (leL_n leL_0))))) ?_
          exact ebX6_sheet_b36 a1 a2 a3 M h
        · have h := ok_f c20 h
          refine e_iload_n dX6_sheet_23 rfl ?_
          refine e_bipush (32 : Int32) dX6_sheet_24 (by decide) ?_
          refine e_icmp_eq 36 dX6_sheet_26 (by decide) (fun c21 => ?_) (fun c21 => ?_)
          · have h := ok_t c21 h
            refine e_forget [some (.ref 0), some (.int a1), some (.int a2), some (.int a3), none] (leL_s (leL_s (leL_s (leL_s (leL_n leL_0))))) ?_
            exact ebX6_sheet_b36 a1 a2 a3 M h
          · have h := ok_f c21 h
            refine e_aload_n dX6_sheet_29 rfl ?_
            refine e_ldc wk_RX6_55 dX6_sheet_30 ?_
            refine e_callV (f2 := 0) (l2 := 0) (ν := mtX6_finds) (as := [.int (-1000001 : Int32)]) cv_RX6_81 is_Y0 kc_7 ⟨Nat.le_of_ble_eq_true rfl, Nat.le_of_ble_eq_true rfl⟩ rfl rfl (Nat.le_of_ble_eq_true rfl) dX6_sheet_32 ?_
            refine ctX6_finds (-1000001 : Int32) (ok_bnd h (fun q22 h => ?_))
            show Ev (wY, z) mtX6_sheet 2 45 35 [some (.ref 0), some (.int a1), some (.int a2), some (.int a3), none] [.int q22.1] q22.2 Q
            have h := ok_some h
            exact e_iret rfl dX6_sheet_35 h
def fpX6_narrowed (a0 : Int32) (a1 : Int32) : Int32 := (if a0 = (8 : Int32) then (a1.toInt8.toInt32) else (if a0 = (16 : Int32) then (a1.toInt16.toInt32) else a1))
set_option maxRecDepth 20000 in
theorem ctX6_narrowed {z : Zt} {M : Me} {Q : Option Value → Me → Prop} (a0 : Int32) (a1 : Int32)  (h : Q (some (.int (fpX6_narrowed a0 a1))) M) : EvM (wY, z) mtX6_narrowed 0 0 [.int a0, .int a1] M Q := by
  refine evm_of [some (.int a0), some (.int a1)] 0 (by decide +kernel) (Nat.le_of_ble_eq_true rfl) rfl ?_
  refine e_iload_n dX6_narrowed_0 rfl ?_
  refine e_bipush (8 : Int32) dX6_narrowed_1 (by decide) ?_
  refine e_icmp_ne 11 dX6_narrowed_3 (by decide) (fun c1 => ?_) (fun c1 => ?_)
  · refine e_iload_n dX6_narrowed_11 rfl ?_
    refine e_bipush (16 : Int32) dX6_narrowed_12 (by decide) ?_
    refine e_icmp_ne 22 dX6_narrowed_14 (by decide) (fun c2 => ?_) (fun c2 => ?_)
    · refine e_iload_n dX6_narrowed_22 rfl ?_
      have e0 : fpX6_narrowed a0 a1 = a1 := by
        unfold fpX6_narrowed
        rw [if_neg c1, if_neg c2]
      rw [e0] at h
      exact e_iret rfl dX6_narrowed_23 h
    · refine e_iload_n dX6_narrowed_17 rfl ?_
      refine e_i2s dX6_narrowed_18 ?_
      refine e_goto 23 dX6_narrowed_19 (by decide) ?_
      have e0 : fpX6_narrowed a0 a1 = (a1.toInt16.toInt32) := by
        unfold fpX6_narrowed
        rw [if_neg c1, if_pos c2]
      rw [e0] at h
      exact e_iret rfl dX6_narrowed_23 h
  · refine e_iload_n dX6_narrowed_6 rfl ?_
    refine e_i2b dX6_narrowed_7 ?_
    refine e_goto 23 dX6_narrowed_8 (by decide) ?_
    have e0 : fpX6_narrowed a0 a1 = (a1.toInt8.toInt32) := by
      unfold fpX6_narrowed
      rw [if_pos c1]
    rw [e0] at h
    exact e_iret rfl dX6_narrowed_23 h
def fpX6_wrong (a1 : Int32) (M : Me) : Option (Int32) := (if (fpX6_isOne a1) = 0 then
 some (-1000001 : Int32)
 else
 (inb a1 4).bind fun k3 =>
 (if (M.1 12 k3) = 0 then
 some (-1000006 : Int32)
 else
 some (0 : Int32)))
set_option maxRecDepth 20000 in
theorem ctX6_wrong {z : Zt} {M : Me} {Q : Option Value → Me → Prop} (a1 : Int32)  (h : ok (fpX6_wrong a1 M) (fun a => Q (some (.int a)) M)) : EvM (wY, z) mtX6_wrong 2 45 [.ref 0, .int a1] M Q := by
  refine evm_of [some (.ref 0), some (.int a1)] 0 (by decide +kernel) (Nat.le_of_ble_eq_true rfl) rfl ?_
  unfold fpX6_wrong at h
  refine e_iload_n dX6_wrong_0 rfl ?_
  refine e_callS (f2 := 1) (l2 := 25) (ν := mtX6_isOne) (as := [.int a1]) cs_RX6_297 ⟨Nat.le_of_ble_eq_true rfl, Nat.le_of_ble_eq_true rfl⟩ rfl rfl (Nat.le_of_ble_eq_true rfl) dX6_wrong_1 ?_
  refine ctX6_isOne a1 ?_
  show Ev (wY, z) mtX6_wrong 2 45 4 [some (.ref 0), some (.int a1)] [.int (fpX6_isOne a1)] M Q
  refine e_if_ne 12 dX6_wrong_4 (by decide) (fun c2 => ?_) (fun c2 => ?_)
  · have h := ok_f c2 h
    refine e_aload_n dX6_wrong_12 rfl ?_
    refine e_getR fa_RX6_43 is_Y0 rfl dX6_wrong_13 ?_
    refine e_iload_n dX6_wrong_16 rfl ?_
    refine ok_inb h (fun k3 ek3 ik3 h => ?_)
    refine e_ialdK ia_Y12 ik3 ek3 dX6_wrong_17 ?_
    refine e_if_ne 27 dX6_wrong_18 (by decide) (fun c4 => ?_) (fun c4 => ?_)
    · have h := ok_f c4 h
      refine e_iconst (0 : Int32) dX6_wrong_27 (by decide) ?_
      have h := ok_some h
      exact e_iret rfl dX6_wrong_28 h
    · have h := ok_t c4 h
      refine e_ldcw wk_RX6_293 dX6_wrong_21 ?_
      refine e_goto 28 dX6_wrong_24 (by decide) ?_
      have h := ok_some h
      exact e_iret rfl dX6_wrong_28 h
  · have h := ok_t c2 h
    refine e_ldc wk_RX6_55 dX6_wrong_7 ?_
    refine e_goto 28 dX6_wrong_9 (by decide) ?_
    have h := ok_some h
    exact e_iret rfl dX6_wrong_28 h
def fpX6_write (a1 : Int32) (a2 : Int32) (a3 : Int32) (M : Me) : Option (Int32 × Me) := (fpX6_wrong a1 M).bind fun v1 =>
 (if v1 = 0 then
 (inb a1 4).bind fun k3 =>
 (if (fpX6_in (a2.toInt64) (0 : Int64) (((M.1 13 k3) - (1 : Int32)).toInt64)) = 0 then
 (fpX6_finds (-1000001 : Int32) M).bind fun q7 =>
 some (q7.1, q7.2)
 else
 (inb (((40 : Int32) * a1) + a2) 160).bind fun k5 =>
 letv (wrM M 14 k5 (fpX6_narrowed (M.1 12 k3) a3)) fun M6 =>
 some ((1 : Int32), M6))
 else
 (fpX6_finds v1 M).bind fun q8 =>
 some (q8.1, q8.2))
set_option maxRecDepth 20000 in
theorem ctX6_write {z : Zt} {M : Me} {Q : Option Value → Me → Prop} (a1 : Int32) (a2 : Int32) (a3 : Int32)  (h : ok (fpX6_write a1 a2 a3 M) (fun a => Q (some (.int a.1)) a.2)) : EvM (wY, z) mtX6_write 3 66 [.ref 0, .int a1, .int a2, .int a3] M Q := by
  refine evm_of [some (.ref 0), some (.int a1), some (.int a2), some (.int a3), none] 1 (by decide +kernel) (Nat.le_of_ble_eq_true rfl) rfl ?_
  unfold fpX6_write at h
  refine e_aload_n dX6_write_0 rfl ?_
  refine e_iload_n dX6_write_1 rfl ?_
  refine e_callV (f2 := 2) (l2 := 45) (ν := mtX6_wrong) (as := [.int a1]) cv_RX6_301 is_Y0 kc_7 ⟨Nat.le_of_ble_eq_true rfl, Nat.le_of_ble_eq_true rfl⟩ rfl rfl (Nat.le_of_ble_eq_true rfl) dX6_write_2 ?_
  refine ctX6_wrong a1 (ok_bnd h (fun v1 h => ?_))
  show Ev (wY, z) mtX6_write 3 66 5 [some (.ref 0), some (.int a1), some (.int a2), some (.int a3), none] [.int v1] M Q
  refine e_istore dX6_write_5 (by decide) rfl ?_
  refine e_iload dX6_write_7 rfl ?_
  refine e_if_eq 19 dX6_write_9 (by decide) (fun c2 => ?_) (fun c2 => ?_)
  · have h := ok_t c2 h
    refine e_iload_n dX6_write_19 rfl ?_
    refine e_i2l dX6_write_20 ?_
    refine e_lconst (0 : Int64) dX6_write_21 (by decide) ?_
    refine e_aload_n dX6_write_22 rfl ?_
    refine e_getR fa_RX6_46 is_Y0 rfl dX6_write_23 ?_
    refine e_iload_n dX6_write_26 rfl ?_
    refine ok_inb h (fun k3 ek3 ik3 h => ?_)
    refine e_ialdK ia_Y13 ik3 ek3 dX6_write_27 ?_
    refine e_iconst (1 : Int32) dX6_write_28 (by decide) ?_
    refine e_isub dX6_write_29 ?_
    refine e_i2l dX6_write_30 ?_
    refine e_callS (f2 := 0) (l2 := 0) (ν := mtX6_in) (as := [.long (a2.toInt64), .long (0 : Int64), .long (((M.1 13 k3) - (1 : Int32)).toInt64)]) cs_RX6_58 ⟨Nat.le_of_ble_eq_true rfl, Nat.le_of_ble_eq_true rfl⟩ rfl rfl (Nat.le_of_ble_eq_true rfl) dX6_write_31 ?_
    refine ctX6_in (a2.toInt64) (0 : Int64) (((M.1 13 k3) - (1 : Int32)).toInt64) ?_
    show Ev (wY, z) mtX6_write 3 66 34 [some (.ref 0), some (.int a1), some (.int a2), some (.int a3), some (.int v1)] [.int (fpX6_in (a2.toInt64) (0 : Int64) (((M.1 13 k3) - (1 : Int32)).toInt64))] M Q
    refine e_if_ne 44 dX6_write_34 (by decide) (fun c4 => ?_) (fun c4 => ?_)
    · have h := ok_f c4 h
      refine e_aload_n dX6_write_44 rfl ?_
      refine e_getR fa_RX6_49 is_Y0 rfl dX6_write_45 ?_
      refine e_bipush (40 : Int32) dX6_write_48 (by decide) ?_
      refine e_iload_n dX6_write_50 rfl ?_
      refine e_imul dX6_write_51 ?_
      refine e_iload_n dX6_write_52 rfl ?_
      refine e_iadd dX6_write_53 ?_
      refine e_aload_n dX6_write_54 rfl ?_
      refine e_getR fa_RX6_43 is_Y0 rfl dX6_write_55 ?_
      refine e_iload_n dX6_write_58 rfl ?_
      refine e_ialdK ia_Y12 ik3 ek3 dX6_write_59 ?_
      refine e_iload_n dX6_write_60 rfl ?_
      refine e_callS (f2 := 0) (l2 := 0) (ν := mtX6_narrowed) (as := [.int (M.1 12 k3), .int a3]) cs_RX6_304 ⟨Nat.le_of_ble_eq_true rfl, Nat.le_of_ble_eq_true rfl⟩ rfl rfl (Nat.le_of_ble_eq_true rfl) dX6_write_61 ?_
      refine ctX6_narrowed (M.1 12 k3) a3 ?_
      show Ev (wY, z) mtX6_write 3 66 64 [some (.ref 0), some (.int a1), some (.int a2), some (.int a3), some (.int v1)] [.int (fpX6_narrowed (M.1 12 k3) a3), .int (((40 : Int32) * a1) + a2), .ref 14] M Q
      refine ok_inb h (fun k5 ek5 ik5 h => ?_)
      refine e_iastK ia_Y14 ik5 ek5 dX6_write_64 ?_
      refine lv1 (P := fun M6 => Ev (wY, z) mtX6_write 3 66 65 [some (.ref 0), some (.int a1), some (.int a2), some (.int a3), some (.int v1)] [] M6 Q) h (fun M6 h => ?_)
      refine e_iconst (1 : Int32) dX6_write_65 (by decide) ?_
      have h := ok_some h
      exact e_iret rfl dX6_write_66 h
    · have h := ok_t c4 h
      refine e_aload_n dX6_write_37 rfl ?_
      refine e_ldc wk_RX6_55 dX6_write_38 ?_
      refine e_callV (f2 := 0) (l2 := 0) (ν := mtX6_finds) (as := [.int (-1000001 : Int32)]) cv_RX6_81 is_Y0 kc_7 ⟨Nat.le_of_ble_eq_true rfl, Nat.le_of_ble_eq_true rfl⟩ rfl rfl (Nat.le_of_ble_eq_true rfl) dX6_write_40 ?_
      refine ctX6_finds (-1000001 : Int32) (ok_bnd h (fun q7 h => ?_))
      show Ev (wY, z) mtX6_write 3 66 43 [some (.ref 0), some (.int a1), some (.int a2), some (.int a3), some (.int v1)] [.int q7.1] q7.2 Q
      have h := ok_some h
      exact e_iret rfl dX6_write_43 h
  · have h := ok_f c2 h
    refine e_aload_n dX6_write_12 rfl ?_
    refine e_iload dX6_write_13 rfl ?_
    refine e_callV (f2 := 0) (l2 := 0) (ν := mtX6_finds) (as := [.int v1]) cv_RX6_81 is_Y0 kc_7 ⟨Nat.le_of_ble_eq_true rfl, Nat.le_of_ble_eq_true rfl⟩ rfl rfl (Nat.le_of_ble_eq_true rfl) dX6_write_15 ?_
    refine ctX6_finds v1 (ok_bnd h (fun q8 h => ?_))
    show Ev (wY, z) mtX6_write 3 66 18 [some (.ref 0), some (.int a1), some (.int a2), some (.int a3), some (.int v1)] [.int q8.1] q8.2 Q
    have h := ok_some h
    exact e_iret rfl dX6_write_18 h
def XX6_copy_121 (z : Zt) (a1 : Int32) (a2 : Int32) (a3 : Int32) (a4 : Int32) (a5 : Int32) (Q : Option Value → Me → Prop) : (Me) → Prop := fun t => Ev (wY, z) mtX6_copy 2 45 155 [some (.ref 0), none, none, some (.int a3), some (.int a4), some (.int a5), none] [] t Q
def EX6_copy_121 (z : Zt) (a1 : Int32) (a2 : Int32) (a3 : Int32) (a4 : Int32) (a5 : Int32) (Q : Option Value → Me → Prop) : (Int32 × Me) → Prop := fun s => Ev (wY, z) mtX6_copy 2 45 121 [some (.ref 0), some (.int a1), some (.int a2), some (.int a3), some (.int a4), some (.int a5), some (.int s.1)] [] s.2 Q
def GX6_copy_121 (z : Zt) (a1 : Int32) (a2 : Int32) (a3 : Int32) (a4 : Int32) (a5 : Int32) (Q : Option Value → Me → Prop) : (Int32 × Me) ⊕ (Me) → Prop := Sum.elim (EX6_copy_121 z a1 a2 a3 a4 a5 Q) (XX6_copy_121 z a1 a2 a3 a4 a5 Q)
def fpX6_copy_l121s (a1 : Int32) (a2 : Int32) (a3 : Int32) (a4 : Int32) (a5 : Int32) (a6 : Int32) (M : Me) : Option ((Int32 × Me) ⊕ (Me)) := (if a5 ≤ a6 then
 some (.inr M)
 else
 (inb ((((40 : Int32) * a1) + a2) + a6) 160).bind fun k20 =>
 (inb a6 40).bind fun k21 =>
 letv (wrM M 15 k21 (M.1 14 k20)) fun M22 =>
 letv (a6 + (1 : Int32)) fun v23 =>
 some (.inl (v23, M22)))
def fpX6_copy_l121 (a1 : Int32) (a2 : Int32) (a3 : Int32) (a4 : Int32) (a5 : Int32) (s : Int32 × Me) : Option ((Int32 × Me) ⊕ (Me)) := fpX6_copy_l121s a1 a2 a3 a4 a5 s.1 s.2
set_option maxRecDepth 20000 in
theorem ebX6_copy_l121s {z : Zt} {Q : Option Value → Me → Prop} (a1 : Int32) (a2 : Int32) (a3 : Int32) (a4 : Int32) (a5 : Int32) (a6 : Int32) (M : Me) (h : ok (fpX6_copy_l121s a1 a2 a3 a4 a5 a6 M) (GX6_copy_121 z a1 a2 a3 a4 a5 Q)) : Ev (wY, z) mtX6_copy 2 45 121 [some (.ref 0), some (.int a1), some (.int a2), some (.int a3), some (.int a4), some (.int a5), some (.int a6)] [] M Q := by
  unfold fpX6_copy_l121s at h
  refine e_iload dX6_copy_121 rfl ?_
  refine e_iload dX6_copy_123 rfl ?_
  refine e_icmp_ge 155 dX6_copy_125 (by decide) (fun c19 => ?_) (fun c19 => ?_)
  · have h := ok_t c19 h
    refine e_forget [some (.ref 0), none, none, some (.int a3), some (.int a4), some (.int a5), none] (leL_s (leL_n (leL_n (leL_s (leL_s (leL_s (leL_n leL_0))))))) ?_
    have h := ok_some h
    exact h
  · have h := ok_f c19 h
    refine e_aload_n dX6_copy_128 rfl ?_
    refine e_getR fa_RX6_52 is_Y0 rfl dX6_copy_129 ?_
    refine e_iload dX6_copy_132 rfl ?_
    refine e_aload_n dX6_copy_134 rfl ?_
    refine e_getR fa_RX6_49 is_Y0 rfl dX6_copy_135 ?_
    refine e_bipush (40 : Int32) dX6_copy_138 (by decide) ?_
    refine e_iload_n dX6_copy_140 rfl ?_
    refine e_imul dX6_copy_141 ?_
    refine e_iload_n dX6_copy_142 rfl ?_
    refine e_iadd dX6_copy_143 ?_
    refine e_iload dX6_copy_144 rfl ?_
    refine e_iadd dX6_copy_146 ?_
    refine ok_inb h (fun k20 ek20 ik20 h => ?_)
    refine e_ialdK ia_Y14 ik20 ek20 dX6_copy_147 ?_
    refine ok_inb h (fun k21 ek21 ik21 h => ?_)
    refine e_iastK ia_Y15 ik21 ek21 dX6_copy_148 ?_
    refine lv1 (P := fun M22 => Ev (wY, z) mtX6_copy 2 45 149 [some (.ref 0), some (.int a1), some (.int a2), some (.int a3), some (.int a4), some (.int a5), some (.int a6)] [] M22 Q) h (fun M22 h => ?_)
    refine lv1e h (fun v23 ev23 h => ?_)
    refine e_iinc v23 dX6_copy_149 rfl ev23 (by decide) rfl ?_
    refine e_goto 121 dX6_copy_152 (by decide) ?_
    refine e_forget [some (.ref 0), some (.int a1), some (.int a2), some (.int a3), some (.int a4), some (.int a5), some (.int v23)] (leL_s (leL_s (leL_s (leL_s (leL_s (leL_s (leL_s leL_0))))))) ?_
    have h := ok_some h
    exact h
theorem elX6_copy_l121 {z : Zt} {Q : Option Value → Me → Prop} (a1 : Int32) (a2 : Int32) (a3 : Int32) (a4 : Int32) (a5 : Int32) (N : Nat) (s : Int32 × Me) (h : ok (lp (fpX6_copy_l121 a1 a2 a3 a4 a5) N s) (XX6_copy_121 z a1 a2 a3 a4 a5 Q)) : EX6_copy_121 z a1 a2 a3 a4 a5 Q s :=
  lp_ind (fun s h => ebX6_copy_l121s a1 a2 a3 a4 a5 s.1 s.2 h) N s h
def XX6_copy_158 (z : Zt) (a3 : Int32) (a4 : Int32) (a5 : Int32) (Q : Option Value → Me → Prop) : (Me) → Prop := fun t => Ev (wY, z) mtX6_copy 2 45 193 [none, none, none, none, none, some (.int a5), none] [] t Q
def EX6_copy_158 (z : Zt) (a3 : Int32) (a4 : Int32) (a5 : Int32) (Q : Option Value → Me → Prop) : (Int32 × Me) → Prop := fun s => Ev (wY, z) mtX6_copy 2 45 158 [some (.ref 0), none, none, some (.int a3), some (.int a4), some (.int a5), some (.int s.1)] [] s.2 Q
def GX6_copy_158 (z : Zt) (a3 : Int32) (a4 : Int32) (a5 : Int32) (Q : Option Value → Me → Prop) : (Int32 × Me) ⊕ (Me) → Prop := Sum.elim (EX6_copy_158 z a3 a4 a5 Q) (XX6_copy_158 z a3 a4 a5 Q)
def fpX6_copy_l158s (a3 : Int32) (a4 : Int32) (a5 : Int32) (a6 : Int32) (M : Me) : Option ((Int32 × Me) ⊕ (Me)) := (if a5 ≤ a6 then
 some (.inr M)
 else
 (inb a6 40).bind fun k26 =>
 (inb ((((40 : Int32) * a3) + a4) + a6) 160).bind fun k27 =>
 letv (wrM M 14 k27 (M.1 15 k26)) fun M28 =>
 letv (a6 + (1 : Int32)) fun v29 =>
 some (.inl (v29, M28)))
def fpX6_copy_l158 (a3 : Int32) (a4 : Int32) (a5 : Int32) (s : Int32 × Me) : Option ((Int32 × Me) ⊕ (Me)) := fpX6_copy_l158s a3 a4 a5 s.1 s.2
set_option maxRecDepth 20000 in
theorem ebX6_copy_l158s {z : Zt} {Q : Option Value → Me → Prop} (a3 : Int32) (a4 : Int32) (a5 : Int32) (a6 : Int32) (M : Me) (h : ok (fpX6_copy_l158s a3 a4 a5 a6 M) (GX6_copy_158 z a3 a4 a5 Q)) : Ev (wY, z) mtX6_copy 2 45 158 [some (.ref 0), none, none, some (.int a3), some (.int a4), some (.int a5), some (.int a6)] [] M Q := by
  unfold fpX6_copy_l158s at h
  refine e_iload dX6_copy_158 rfl ?_
  refine e_iload dX6_copy_160 rfl ?_
  refine e_icmp_ge 193 dX6_copy_162 (by decide) (fun c25 => ?_) (fun c25 => ?_)
  · have h := ok_t c25 h
    refine e_forget [none, none, none, none, none, some (.int a5), none] (leL_n (leL_n (leL_n (leL_n (leL_n (leL_s (leL_n leL_0))))))) ?_
    have h := ok_some h
    exact h
  · have h := ok_f c25 h
    refine e_aload_n dX6_copy_165 rfl ?_
    refine e_getR fa_RX6_49 is_Y0 rfl dX6_copy_166 ?_
    refine e_bipush (40 : Int32) dX6_copy_169 (by decide) ?_
    refine e_iload_n dX6_copy_171 rfl ?_
    refine e_imul dX6_copy_172 ?_
    refine e_iload dX6_copy_173 rfl ?_
    refine e_iadd dX6_copy_175 ?_
    refine e_iload dX6_copy_176 rfl ?_
    refine e_iadd dX6_copy_178 ?_
    refine e_aload_n dX6_copy_179 rfl ?_
    refine e_getR fa_RX6_52 is_Y0 rfl dX6_copy_180 ?_
    refine e_iload dX6_copy_183 rfl ?_
    refine ok_inb h (fun k26 ek26 ik26 h => ?_)
    refine e_ialdK ia_Y15 ik26 ek26 dX6_copy_185 ?_
    refine ok_inb h (fun k27 ek27 ik27 h => ?_)
    refine e_iastK ia_Y14 ik27 ek27 dX6_copy_186 ?_
    refine lv1 (P := fun M28 => Ev (wY, z) mtX6_copy 2 45 187 [some (.ref 0), none, none, some (.int a3), some (.int a4), some (.int a5), some (.int a6)] [] M28 Q) h (fun M28 h => ?_)
    refine lv1e h (fun v29 ev29 h => ?_)
    refine e_iinc v29 dX6_copy_187 rfl ev29 (by decide) rfl ?_
    refine e_goto 158 dX6_copy_190 (by decide) ?_
    refine e_forget [some (.ref 0), none, none, some (.int a3), some (.int a4), some (.int a5), some (.int v29)] (leL_s (leL_n (leL_n (leL_s (leL_s (leL_s (leL_s leL_0))))))) ?_
    have h := ok_some h
    exact h
theorem elX6_copy_l158 {z : Zt} {Q : Option Value → Me → Prop} (a3 : Int32) (a4 : Int32) (a5 : Int32) (N : Nat) (s : Int32 × Me) (h : ok (lp (fpX6_copy_l158 a3 a4 a5) N s) (XX6_copy_158 z a3 a4 a5 Q)) : EX6_copy_158 z a3 a4 a5 Q s :=
  lp_ind (fun s h => ebX6_copy_l158s a3 a4 a5 s.1 s.2 h) N s h
def fpX6_copy (a1 : Int32) (a2 : Int32) (a3 : Int32) (a4 : Int32) (a5 : Int32) (M : Me) : Option (Int32 × Me) := (if (fpX6_isOne a1) = 0 then
 (fpX6_finds (-1000001 : Int32) M).bind fun q2 =>
 some (q2.1, q2.2)
 else
 (if (fpX6_isOne a3) = 0 then
 (fpX6_finds (-1000001 : Int32) M).bind fun q34 =>
 some (q34.1, q34.2)
 else
 (inb a1 4).bind fun k4 =>
 (if (M.1 12 k4) = 0 then
 (fpX6_finds (-1000006 : Int32) M).bind fun q6 =>
 some (q6.1, q6.2)
 else
 (inb a3 4).bind fun k7 =>
 (if (M.1 12 k7) = 0 then
 (fpX6_finds (-1000006 : Int32) M).bind fun q33 =>
 some (q33.1, q33.2)
 else
 (if (M.1 12 k4) = (M.1 12 k7) then
 (if a2 < 0 then
 (fpX6_finds (-1000001 : Int32) M).bind fun q11 =>
 some (q11.1, q11.2)
 else
 (if a4 < 0 then
 (fpX6_finds (-1000001 : Int32) M).bind fun q13 =>
 some (q13.1, q13.2)
 else
 (if a5 < 0 then
 (fpX6_finds (-1000001 : Int32) M).bind fun q15 =>
 some (q15.1, q15.2)
 else
 (if ((M.1 13 k4) - a2) < a5 then
 (fpX6_finds (-1000001 : Int32) M).bind fun q17 =>
 some (q17.1, q17.2)
 else
 (if a5 ≤ ((M.1 13 k7) - a4) then
 (lp (fpX6_copy_l121 a1 a2 a3 a4 a5) FU ((0 : Int32), M)).bind fun r24 =>
 (lp (fpX6_copy_l158 a3 a4 a5) FU ((0 : Int32), r24)).bind fun r30 =>
 some (a5, r30)
 else
 (fpX6_finds (-1000001 : Int32) M).bind fun q31 =>
 some (q31.1, q31.2))))))
 else
 (fpX6_finds (-1000003 : Int32) M).bind fun q32 =>
 some (q32.1, q32.2))))))
set_option maxRecDepth 20000 in
theorem ctX6_copy {z : Zt} {M : Me} {Q : Option Value → Me → Prop} (a1 : Int32) (a2 : Int32) (a3 : Int32) (a4 : Int32) (a5 : Int32)  (h : ok (fpX6_copy a1 a2 a3 a4 a5 M) (fun a => Q (some (.int a.1)) a.2)) : EvM (wY, z) mtX6_copy 2 45 [.ref 0, .int a1, .int a2, .int a3, .int a4, .int a5] M Q := by
  refine evm_of [some (.ref 0), some (.int a1), some (.int a2), some (.int a3), some (.int a4), some (.int a5), none] 1 (by decide +kernel) (Nat.le_of_ble_eq_true rfl) rfl ?_
  unfold fpX6_copy at h
  refine e_iload_n dX6_copy_0 rfl ?_
  refine e_callS (f2 := 1) (l2 := 25) (ν := mtX6_isOne) (as := [.int a1]) cs_RX6_297 ⟨Nat.le_of_ble_eq_true rfl, Nat.le_of_ble_eq_true rfl⟩ rfl rfl (Nat.le_of_ble_eq_true rfl) dX6_copy_1 ?_
  refine ctX6_isOne a1 ?_
  show Ev (wY, z) mtX6_copy 2 45 4 [some (.ref 0), some (.int a1), some (.int a2), some (.int a3), some (.int a4), some (.int a5), none] [.int (fpX6_isOne a1)] M Q
  refine e_if_eq 14 dX6_copy_4 (by decide) (fun c1 => ?_) (fun c1 => ?_)
  · have h := ok_t c1 h
    refine e_aload_n dX6_copy_14 rfl ?_
    refine e_ldc wk_RX6_55 dX6_copy_15 ?_
    refine e_callV (f2 := 0) (l2 := 0) (ν := mtX6_finds) (as := [.int (-1000001 : Int32)]) cv_RX6_81 is_Y0 kc_7 ⟨Nat.le_of_ble_eq_true rfl, Nat.le_of_ble_eq_true rfl⟩ rfl rfl (Nat.le_of_ble_eq_true rfl) dX6_copy_17 ?_
    refine ctX6_finds (-1000001 : Int32) (ok_bnd h (fun q2 h => ?_))
    show Ev (wY, z) mtX6_copy 2 45 20 [some (.ref 0), some (.int a1), some (.int a2), some (.int a3), some (.int a4), some (.int a5), none] [.int q2.1] q2.2 Q
    have h := ok_some h
    exact e_iret rfl dX6_copy_20 h
  · have h := ok_f c1 h
    refine e_iload_n dX6_copy_7 rfl ?_
    refine e_callS (f2 := 1) (l2 := 25) (ν := mtX6_isOne) (as := [.int a3]) cs_RX6_297 ⟨Nat.le_of_ble_eq_true rfl, Nat.le_of_ble_eq_true rfl⟩ rfl rfl (Nat.le_of_ble_eq_true rfl) dX6_copy_8 ?_
    refine ctX6_isOne a3 ?_
    show Ev (wY, z) mtX6_copy 2 45 11 [some (.ref 0), some (.int a1), some (.int a2), some (.int a3), some (.int a4), some (.int a5), none] [.int (fpX6_isOne a3)] M Q
    refine e_if_ne 21 dX6_copy_11 (by decide) (fun c3 => ?_) (fun c3 => ?_)
    · have h := ok_f c3 h
      refine e_aload_n dX6_copy_21 rfl ?_
      refine e_getR fa_RX6_43 is_Y0 rfl dX6_copy_22 ?_
      refine e_iload_n dX6_copy_25 rfl ?_
      refine ok_inb h (fun k4 ek4 ik4 h => ?_)
      refine e_ialdK ia_Y12 ik4 ek4 dX6_copy_26 ?_
      refine e_if_eq 39 dX6_copy_27 (by decide) (fun c5 => ?_) (fun c5 => ?_)
      · have h := ok_t c5 h
        refine e_aload_n dX6_copy_39 rfl ?_
        refine e_ldcw wk_RX6_293 dX6_copy_40 ?_
        refine e_callV (f2 := 0) (l2 := 0) (ν := mtX6_finds) (as := [.int (-1000006 : Int32)]) cv_RX6_81 is_Y0 kc_7 ⟨Nat.le_of_ble_eq_true rfl, Nat.le_of_ble_eq_true rfl⟩ rfl rfl (Nat.le_of_ble_eq_true rfl) dX6_copy_43 ?_
        refine ctX6_finds (-1000006 : Int32) (ok_bnd h (fun q6 h => ?_))
        show Ev (wY, z) mtX6_copy 2 45 46 [some (.ref 0), some (.int a1), some (.int a2), some (.int a3), some (.int a4), some (.int a5), none] [.int q6.1] q6.2 Q
        have h := ok_some h
        exact e_iret rfl dX6_copy_46 h
      · have h := ok_f c5 h
        refine e_aload_n dX6_copy_30 rfl ?_
        refine e_getR fa_RX6_43 is_Y0 rfl dX6_copy_31 ?_
        refine e_iload_n dX6_copy_34 rfl ?_
        refine ok_inb h (fun k7 ek7 ik7 h => ?_)
        refine e_ialdK ia_Y12 ik7 ek7 dX6_copy_35 ?_
        refine e_if_ne 47 dX6_copy_36 (by decide) (fun c8 => ?_) (fun c8 => ?_)
        · have h := ok_f c8 h
          refine e_aload_n dX6_copy_47 rfl ?_
          refine e_getR fa_RX6_43 is_Y0 rfl dX6_copy_48 ?_
          refine e_iload_n dX6_copy_51 rfl ?_
          refine e_ialdK ia_Y12 ik4 ek4 dX6_copy_52 ?_
          refine e_aload_n dX6_copy_53 rfl ?_
          refine e_getR fa_RX6_43 is_Y0 rfl dX6_copy_54 ?_
          refine e_iload_n dX6_copy_57 rfl ?_
          refine e_ialdK ia_Y12 ik7 ek7 dX6_copy_58 ?_
          refine e_icmp_eq 70 dX6_copy_59 (by decide) (fun c9 => ?_) (fun c9 => ?_)
          · have h := ok_t c9 h
            refine e_iload_n dX6_copy_70 rfl ?_
            refine e_if_lt 111 dX6_copy_71 (by decide) (fun c10 => ?_) (fun c10 => ?_)
            · have h := ok_t c10 h
              refine e_aload_n dX6_copy_111 rfl ?_
              refine e_ldc wk_RX6_55 dX6_copy_112 ?_
              refine e_callV (f2 := 0) (l2 := 0) (ν := mtX6_finds) (as := [.int (-1000001 : Int32)]) cv_RX6_81 is_Y0 kc_7 ⟨Nat.le_of_ble_eq_true rfl, Nat.le_of_ble_eq_true rfl⟩ rfl rfl (Nat.le_of_ble_eq_true rfl) dX6_copy_114 ?_
              refine ctX6_finds (-1000001 : Int32) (ok_bnd h (fun q11 h => ?_))
              show Ev (wY, z) mtX6_copy 2 45 117 [some (.ref 0), some (.int a1), some (.int a2), some (.int a3), some (.int a4), some (.int a5), none] [.int q11.1] q11.2 Q
              have h := ok_some h
              exact e_iret rfl dX6_copy_117 h
            · have h := ok_f c10 h
              refine e_iload dX6_copy_74 rfl ?_
              refine e_if_lt 111 dX6_copy_76 (by decide) (fun c12 => ?_) (fun c12 => ?_)
              · have h := ok_t c12 h
                refine e_aload_n dX6_copy_111 rfl ?_
                refine e_ldc wk_RX6_55 dX6_copy_112 ?_
                refine e_callV (f2 := 0) (l2 := 0) (ν := mtX6_finds) (as := [.int (-1000001 : Int32)]) cv_RX6_81 is_Y0 kc_7 ⟨Nat.le_of_ble_eq_true rfl, Nat.le_of_ble_eq_true rfl⟩ rfl rfl (Nat.le_of_ble_eq_true rfl) dX6_copy_114 ?_
                refine ctX6_finds (-1000001 : Int32) (ok_bnd h (fun q13 h => ?_))
                show Ev (wY, z) mtX6_copy 2 45 117 [some (.ref 0), some (.int a1), some (.int a2), some (.int a3), some (.int a4), some (.int a5), none] [.int q13.1] q13.2 Q
                have h := ok_some h
                exact e_iret rfl dX6_copy_117 h
              · have h := ok_f c12 h
                refine e_iload dX6_copy_79 rfl ?_
                refine e_if_lt 111 dX6_copy_81 (by decide) (fun c14 => ?_) (fun c14 => ?_)
                · have h := ok_t c14 h
                  refine e_aload_n dX6_copy_111 rfl ?_
                  refine e_ldc wk_RX6_55 dX6_copy_112 ?_
                  refine e_callV (f2 := 0) (l2 := 0) (ν := mtX6_finds) (as := [.int (-1000001 : Int32)]) cv_RX6_81 is_Y0 kc_7 ⟨Nat.le_of_ble_eq_true rfl, Nat.le_of_ble_eq_true rfl⟩ rfl rfl (Nat.le_of_ble_eq_true rfl) dX6_copy_114 ?_
                  refine ctX6_finds (-1000001 : Int32) (ok_bnd h (fun q15 h => ?_))
                  show Ev (wY, z) mtX6_copy 2 45 117 [some (.ref 0), some (.int a1), some (.int a2), some (.int a3), some (.int a4), some (.int a5), none] [.int q15.1] q15.2 Q
                  have h := ok_some h
                  exact e_iret rfl dX6_copy_117 h
                · have h := ok_f c14 h
                  refine e_iload dX6_copy_84 rfl ?_
                  refine e_aload_n dX6_copy_86 rfl ?_
                  refine e_getR fa_RX6_46 is_Y0 rfl dX6_copy_87 ?_
                  refine e_iload_n dX6_copy_90 rfl ?_
                  refine e_ialdK ia_Y13 ik4 ek4 dX6_copy_91 ?_
                  refine e_iload_n dX6_copy_92 rfl ?_
                  refine e_isub dX6_copy_93 ?_
                  refine e_icmp_gt 111 dX6_copy_94 (by decide) (fun c16 => ?_) (fun c16 => ?_)
                  · have h := ok_t c16 h
                    refine e_aload_n dX6_copy_111 rfl ?_
                    refine e_ldc wk_RX6_55 dX6_copy_112 ?_
                    refine e_callV (f2 := 0) (l2 := 0) (ν := mtX6_finds) (as := [.int (-1000001 : Int32)]) cv_RX6_81 is_Y0 kc_7 ⟨Nat.le_of_ble_eq_true rfl, Nat.le_of_ble_eq_true rfl⟩ rfl rfl (Nat.le_of_ble_eq_true rfl) dX6_copy_114 ?_
                    refine ctX6_finds (-1000001 : Int32) (ok_bnd h (fun q17 h => ?_))
                    show Ev (wY, z) mtX6_copy 2 45 117 [some (.ref 0), some (.int a1), some (.int a2), some (.int a3), some (.int a4), some (.int a5), none] [.int q17.1] q17.2 Q
                    have h := ok_some h
                    exact e_iret rfl dX6_copy_117 h
                  · have h := ok_f c16 h
                    refine e_iload dX6_copy_97 rfl ?_
                    refine e_aload_n dX6_copy_99 rfl ?_
                    refine e_getR fa_RX6_46 is_Y0 rfl dX6_copy_100 ?_
                    refine e_iload_n dX6_copy_103 rfl ?_
                    refine e_ialdK ia_Y13 ik7 ek7 dX6_copy_104 ?_
                    refine e_iload dX6_copy_105 rfl ?_
                    refine e_isub dX6_copy_107 ?_
                    refine e_icmp_le 118 dX6_copy_108 (by decide) (fun c18 => ?_) (fun c18 => ?_)
                    · have h := ok_t c18 h
                      refine e_iconst (0 : Int32) dX6_copy_118 (by decide) ?_
                      refine e_istore dX6_copy_119 (by decide) rfl ?_
                      refine e_forget [some (.ref 0), some (.int a1), some (.int a2), some (.int a3), some (.int a4), some (.int a5), some (.int (0 : Int32))] (leL_s (leL_s (leL_s (leL_s (leL_s (leL_s (leL_s leL_0))))))) ?_
                      refine elX6_copy_l121 a1 a2 a3 a4 a5 FU ((0 : Int32), M) (ok_bnd h (fun r24 h => ?_))
                      show Ev (wY, z) mtX6_copy 2 45 155 [some (.ref 0), none, none, some (.int a3), some (.int a4), some (.int a5), none] [] r24 Q
                      refine e_iconst (0 : Int32) dX6_copy_155 (by decide) ?_
                      refine e_istore dX6_copy_156 (by decide) rfl ?_
                      refine e_forget [some (.ref 0), none, none, some (.int a3), some (.int a4), some (.int a5), some (.int (0 : Int32))] (leL_s (leL_n (leL_n (leL_s (leL_s (leL_s (leL_s leL_0))))))) ?_
                      refine elX6_copy_l158 a3 a4 a5 FU ((0 : Int32), r24) (ok_bnd h (fun r30 h => ?_))
                      show Ev (wY, z) mtX6_copy 2 45 193 [none, none, none, none, none, some (.int a5), none] [] r30 Q
                      refine e_iload dX6_copy_193 rfl ?_
                      have h := ok_some h
                      exact e_iret rfl dX6_copy_195 h
                    · have h := ok_f c18 h
                      refine e_aload_n dX6_copy_111 rfl ?_
                      refine e_ldc wk_RX6_55 dX6_copy_112 ?_
                      refine e_callV (f2 := 0) (l2 := 0) (ν := mtX6_finds) (as := [.int (-1000001 : Int32)]) cv_RX6_81 is_Y0 kc_7 ⟨Nat.le_of_ble_eq_true rfl, Nat.le_of_ble_eq_true rfl⟩ rfl rfl (Nat.le_of_ble_eq_true rfl) dX6_copy_114 ?_
                      refine ctX6_finds (-1000001 : Int32) (ok_bnd h (fun q31 h => ?_))
                      show Ev (wY, z) mtX6_copy 2 45 117 [some (.ref 0), some (.int a1), some (.int a2), some (.int a3), some (.int a4), some (.int a5), none] [.int q31.1] q31.2 Q
                      have h := ok_some h
                      exact e_iret rfl dX6_copy_117 h
          · have h := ok_f c9 h
            refine e_aload_n dX6_copy_62 rfl ?_
            refine e_ldcw wk_RX6_294 dX6_copy_63 ?_
            refine e_callV (f2 := 0) (l2 := 0) (ν := mtX6_finds) (as := [.int (-1000003 : Int32)]) cv_RX6_81 is_Y0 kc_7 ⟨Nat.le_of_ble_eq_true rfl, Nat.le_of_ble_eq_true rfl⟩ rfl rfl (Nat.le_of_ble_eq_true rfl) dX6_copy_66 ?_
            refine ctX6_finds (-1000003 : Int32) (ok_bnd h (fun q32 h => ?_))
            show Ev (wY, z) mtX6_copy 2 45 69 [some (.ref 0), some (.int a1), some (.int a2), some (.int a3), some (.int a4), some (.int a5), none] [.int q32.1] q32.2 Q
            have h := ok_some h
            exact e_iret rfl dX6_copy_69 h
        · have h := ok_t c8 h
          refine e_aload_n dX6_copy_39 rfl ?_
          refine e_ldcw wk_RX6_293 dX6_copy_40 ?_
          refine e_callV (f2 := 0) (l2 := 0) (ν := mtX6_finds) (as := [.int (-1000006 : Int32)]) cv_RX6_81 is_Y0 kc_7 ⟨Nat.le_of_ble_eq_true rfl, Nat.le_of_ble_eq_true rfl⟩ rfl rfl (Nat.le_of_ble_eq_true rfl) dX6_copy_43 ?_
          refine ctX6_finds (-1000006 : Int32) (ok_bnd h (fun q33 h => ?_))
          show Ev (wY, z) mtX6_copy 2 45 46 [some (.ref 0), some (.int a1), some (.int a2), some (.int a3), some (.int a4), some (.int a5), none] [.int q33.1] q33.2 Q
          have h := ok_some h
          exact e_iret rfl dX6_copy_46 h
    · have h := ok_t c3 h
      refine e_aload_n dX6_copy_14 rfl ?_
      refine e_ldc wk_RX6_55 dX6_copy_15 ?_
      refine e_callV (f2 := 0) (l2 := 0) (ν := mtX6_finds) (as := [.int (-1000001 : Int32)]) cv_RX6_81 is_Y0 kc_7 ⟨Nat.le_of_ble_eq_true rfl, Nat.le_of_ble_eq_true rfl⟩ rfl rfl (Nat.le_of_ble_eq_true rfl) dX6_copy_17 ?_
      refine ctX6_finds (-1000001 : Int32) (ok_bnd h (fun q34 h => ?_))
      show Ev (wY, z) mtX6_copy 2 45 20 [some (.ref 0), some (.int a1), some (.int a2), some (.int a3), some (.int a4), some (.int a5), none] [.int q34.1] q34.2 Q
      have h := ok_some h
      exact e_iret rfl dX6_copy_20 h
def XX6_load_18 (z : Zt) (a1 : Int32) (Q : Option Value → Me → Prop) : (Int32 × Me) → Prop := fun t => Ev (wY, z) mtX6_load 3 66 87 [none, none, none, some (.int t.1)] [] t.2 Q
def EX6_load_18 (z : Zt) (a1 : Int32) (Q : Option Value → Me → Prop) : (Int32 × Me) → Prop := fun s => Ev (wY, z) mtX6_load 3 66 18 [some (.ref 0), some (.int a1), none, some (.int s.1)] [] s.2 Q
def GX6_load_18 (z : Zt) (a1 : Int32) (Q : Option Value → Me → Prop) : (Int32 × Me) ⊕ (Int32 × Me) → Prop := Sum.elim (EX6_load_18 z a1 Q) (XX6_load_18 z a1 Q)
def fpX6_load_l18s (a1 : Int32) (a3 : Int32) (M : Me) : Option ((Int32 × Me) ⊕ (Int32 × Me)) := (inb a1 4).bind fun k3 =>
 (if (M.1 13 k3) ≤ a3 then
 some (.inr (a3, M))
 else
 (if (M.1 1 0) ≤ a3 then
 some (.inr (a3, M))
 else
 (inb (((40 : Int32) * a1) + a3) 160).bind fun k6 =>
 (if (fpX6_in ((M.1 14 k6).toInt64) (1 : Int64) (60 : Int64)) = 0 then
 some (.inr (a3, M))
 else
 (inb (fpX6_at a3 (2 : Int32)) 70).bind fun k8 =>
 letv (wrM M 1 k8 (M.1 14 k6)) fun M9 =>
 letv (a3 + (1 : Int32)) fun v10 =>
 some (.inl (v10, M9)))))
def fpX6_load_l18 (a1 : Int32) (s : Int32 × Me) : Option ((Int32 × Me) ⊕ (Int32 × Me)) := fpX6_load_l18s a1 s.1 s.2
set_option maxRecDepth 20000 in
theorem ebX6_load_l18s {z : Zt} {Q : Option Value → Me → Prop} (a1 : Int32) (a3 : Int32) (M : Me) (h : ok (fpX6_load_l18s a1 a3 M) (GX6_load_18 z a1 Q)) : Ev (wY, z) mtX6_load 3 66 18 [some (.ref 0), some (.int a1), none, some (.int a3)] [] M Q := by
  unfold fpX6_load_l18s at h
  refine e_iload_n dX6_load_18 rfl ?_
  refine e_aload_n dX6_load_19 rfl ?_
  refine e_getR fa_RX6_46 is_Y0 rfl dX6_load_20 ?_
  refine e_iload_n dX6_load_23 rfl ?_
  refine ok_inb h (fun k3 ek3 ik3 h => ?_)
  refine e_ialdK ia_Y13 ik3 ek3 dX6_load_24 ?_
  refine e_icmp_ge 87 dX6_load_25 (by decide) (fun c4 => ?_) (fun c4 => ?_)
  · have h := ok_t c4 h
    refine e_forget [none, none, none, some (.int a3)] (leL_n (leL_n (leL_n (leL_s leL_0)))) ?_
    have h := ok_some h
    exact h
  · have h := ok_f c4 h
    refine e_iload_n dX6_load_28 rfl ?_
    refine e_aload_n dX6_load_29 rfl ?_
    refine e_getR fa_RX6_7 is_Y0 rfl dX6_load_30 ?_
    refine e_iconst (0 : Int32) dX6_load_33 (by decide) ?_
    refine e_ialdK ia_Y1 (by unfold vp_in; decide) (q := 0) (by decide) dX6_load_34 ?_
    refine e_icmp_ge 87 dX6_load_35 (by decide) (fun c5 => ?_) (fun c5 => ?_)
    · have h := ok_t c5 h
      refine e_forget [none, none, none, some (.int a3)] (leL_n (leL_n (leL_n (leL_s leL_0)))) ?_
      have h := ok_some h
      exact h
    · have h := ok_f c5 h
      refine e_aload_n dX6_load_38 rfl ?_
      refine e_getR fa_RX6_49 is_Y0 rfl dX6_load_39 ?_
      refine e_bipush (40 : Int32) dX6_load_42 (by decide) ?_
      refine e_iload_n dX6_load_44 rfl ?_
      refine e_imul dX6_load_45 ?_
      refine e_iload_n dX6_load_46 rfl ?_
      refine e_iadd dX6_load_47 ?_
      refine ok_inb h (fun k6 ek6 ik6 h => ?_)
      refine e_ialdK ia_Y14 ik6 ek6 dX6_load_48 ?_
      refine e_i2l dX6_load_49 ?_
      refine e_lconst (1 : Int64) dX6_load_50 (by decide) ?_
      refine e_ldc2 wk_RX6_73 dX6_load_51 ?_
      refine e_callS (f2 := 0) (l2 := 0) (ν := mtX6_in) (as := [.long ((M.1 14 k6).toInt64), .long (1 : Int64), .long (60 : Int64)]) cs_RX6_58 ⟨Nat.le_of_ble_eq_true rfl, Nat.le_of_ble_eq_true rfl⟩ rfl rfl (Nat.le_of_ble_eq_true rfl) dX6_load_54 ?_
      refine ctX6_in ((M.1 14 k6).toInt64) (1 : Int64) (60 : Int64) ?_
      show Ev (wY, z) mtX6_load 3 66 57 [some (.ref 0), some (.int a1), none, some (.int a3)] [.int (fpX6_in ((M.1 14 k6).toInt64) (1 : Int64) (60 : Int64))] M Q
      refine e_if_eq 87 dX6_load_57 (by decide) (fun c7 => ?_) (fun c7 => ?_)
      · have h := ok_t c7 h
        refine e_forget [none, none, none, some (.int a3)] (leL_n (leL_n (leL_n (leL_s leL_0)))) ?_
        have h := ok_some h
        exact h
      · have h := ok_f c7 h
        refine e_aload_n dX6_load_60 rfl ?_
        refine e_getR fa_RX6_7 is_Y0 rfl dX6_load_61 ?_
        refine e_iload_n dX6_load_64 rfl ?_
        refine e_iconst (2 : Int32) dX6_load_65 (by decide) ?_
        refine e_callS (f2 := 0) (l2 := 0) (ν := mtX6_at) (as := [.int a3, .int (2 : Int32)]) cs_RX6_63 ⟨Nat.le_of_ble_eq_true rfl, Nat.le_of_ble_eq_true rfl⟩ rfl rfl (Nat.le_of_ble_eq_true rfl) dX6_load_66 ?_
        refine ctX6_at a3 (2 : Int32) ?_
        show Ev (wY, z) mtX6_load 3 66 69 [some (.ref 0), some (.int a1), none, some (.int a3)] [.int (fpX6_at a3 (2 : Int32)), .ref 1] M Q
        refine e_aload_n dX6_load_69 rfl ?_
        refine e_getR fa_RX6_49 is_Y0 rfl dX6_load_70 ?_
        refine e_bipush (40 : Int32) dX6_load_73 (by decide) ?_
        refine e_iload_n dX6_load_75 rfl ?_
        refine e_imul dX6_load_76 ?_
        refine e_iload_n dX6_load_77 rfl ?_
        refine e_iadd dX6_load_78 ?_
        refine e_ialdK ia_Y14 ik6 ek6 dX6_load_79 ?_
        refine ok_inb h (fun k8 ek8 ik8 h => ?_)
        refine e_iastK ia_Y1 ik8 ek8 dX6_load_80 ?_
        refine lv1 (P := fun M9 => Ev (wY, z) mtX6_load 3 66 81 [some (.ref 0), some (.int a1), none, some (.int a3)] [] M9 Q) h (fun M9 h => ?_)
        refine lv1e h (fun v10 ev10 h => ?_)
        refine e_iinc v10 dX6_load_81 rfl ev10 (by decide) rfl ?_
        refine e_goto 18 dX6_load_84 (by decide) ?_
        refine e_forget [some (.ref 0), some (.int a1), none, some (.int v10)] (leL_s (leL_s (leL_n (leL_s leL_0)))) ?_
        have h := ok_some h
        exact h
theorem elX6_load_l18 {z : Zt} {Q : Option Value → Me → Prop} (a1 : Int32) (N : Nat) (s : Int32 × Me) (h : ok (lp (fpX6_load_l18 a1) N s) (XX6_load_18 z a1 Q)) : EX6_load_18 z a1 Q s :=
  lp_ind (fun s h => ebX6_load_l18s a1 s.1 s.2 h) N s h
def fpX6_load (a1 : Int32) (M : Me) : Option (Int32 × Me) := (fpX6_wrong a1 M).bind fun v1 =>
 (if v1 = 0 then
 (lp (fpX6_load_l18 a1) FU ((0 : Int32), M)).bind fun r11 =>
 some (r11.1, r11.2)
 else
 (fpX6_finds v1 M).bind fun q12 =>
 some (q12.1, q12.2))
set_option maxRecDepth 20000 in
theorem ctX6_load {z : Zt} {M : Me} {Q : Option Value → Me → Prop} (a1 : Int32)  (h : ok (fpX6_load a1 M) (fun a => Q (some (.int a.1)) a.2)) : EvM (wY, z) mtX6_load 3 66 [.ref 0, .int a1] M Q := by
  refine evm_of [some (.ref 0), some (.int a1), none, none] 2 (by decide +kernel) (Nat.le_of_ble_eq_true rfl) rfl ?_
  unfold fpX6_load at h
  refine e_aload_n dX6_load_0 rfl ?_
  refine e_iload_n dX6_load_1 rfl ?_
  refine e_callV (f2 := 2) (l2 := 45) (ν := mtX6_wrong) (as := [.int a1]) cv_RX6_301 is_Y0 kc_7 ⟨Nat.le_of_ble_eq_true rfl, Nat.le_of_ble_eq_true rfl⟩ rfl rfl (Nat.le_of_ble_eq_true rfl) dX6_load_2 ?_
  refine ctX6_wrong a1 (ok_bnd h (fun v1 h => ?_))
  show Ev (wY, z) mtX6_load 3 66 5 [some (.ref 0), some (.int a1), none, none] [.int v1] M Q
  refine e_istore_n dX6_load_5 (by decide) rfl ?_
  refine e_iload_n dX6_load_6 rfl ?_
  refine e_if_eq 16 dX6_load_7 (by decide) (fun c2 => ?_) (fun c2 => ?_)
  · have h := ok_t c2 h
    refine e_iconst (0 : Int32) dX6_load_16 (by decide) ?_
    refine e_istore_n dX6_load_17 (by decide) rfl ?_
    refine e_forget [some (.ref 0), some (.int a1), none, some (.int (0 : Int32))] (leL_s (leL_s (leL_n (leL_s leL_0)))) ?_
    refine elX6_load_l18 a1 FU ((0 : Int32), M) (ok_bnd h (fun r11 h => ?_))
    show Ev (wY, z) mtX6_load 3 66 87 [none, none, none, some (.int r11.1)] [] r11.2 Q
    refine e_iload_n dX6_load_87 rfl ?_
    have h := ok_some h
    exact e_iret rfl dX6_load_88 h
  · have h := ok_f c2 h
    refine e_aload_n dX6_load_10 rfl ?_
    refine e_iload_n dX6_load_11 rfl ?_
    refine e_callV (f2 := 0) (l2 := 0) (ν := mtX6_finds) (as := [.int v1]) cv_RX6_81 is_Y0 kc_7 ⟨Nat.le_of_ble_eq_true rfl, Nat.le_of_ble_eq_true rfl⟩ rfl rfl (Nat.le_of_ble_eq_true rfl) dX6_load_12 ?_
    refine ctX6_finds v1 (ok_bnd h (fun q12 h => ?_))
    show Ev (wY, z) mtX6_load 3 66 15 [some (.ref 0), some (.int a1), some (.int v1), none] [.int q12.1] q12.2 Q
    have h := ok_some h
    exact e_iret rfl dX6_load_15 h
def XX6_takesSheet_4 (z : Zt) (a1 : Int32) (Q : Option Value → Me → Prop) : (Int32 × Me) → Prop := fun t => Ev (wY, z) mtX6_takesSheet 2 46 84 [none, none, none, some (.int t.1)] [] t.2 Q
def EX6_takesSheet_4 (z : Zt) (a1 : Int32) (Q : Option Value → Me → Prop) : (Int32 × Int32 × Me) → Prop := fun s => Ev (wY, z) mtX6_takesSheet 2 46 4 [some (.ref 0), some (.int a1), some (.int s.1), some (.int s.2.1)] [] s.2.2 Q
def GX6_takesSheet_4 (z : Zt) (a1 : Int32) (Q : Option Value → Me → Prop) : (Int32 × Int32 × Me) ⊕ (Int32 × Me) → Prop := Sum.elim (EX6_takesSheet_4 z a1 Q) (XX6_takesSheet_4 z a1 Q)
def fpX6_takesSheet_l4s (a1 : Int32) (a2 : Int32) (a3 : Int32) (M : Me) : Option ((Int32 × Int32 × Me) ⊕ (Int32 × Me)) := (inb a1 4).bind fun k1 =>
 (if (M.1 13 k1) ≤ a3 then
 some (.inr (a3, M))
 else
 (inb (((40 : Int32) * a1) + a3) 160).bind fun k3 =>
 (if (fpX6_isPump (M.1 14 k3) M) = 0 then
 some (.inr (a3, M))
 else
 (if (fpX6_has a2 (M.1 14 k3)) = 0 then
 (inb a3 40).bind fun k6 =>
 letv (wrM M 9 k6 (M.1 14 k3)) fun M7 =>
 letv (a2 ||| ((1 : Int32) <<< ((M7.1 9 k6) &&& 31))) fun v8 =>
 letv (a3 + (1 : Int32)) fun v9 =>
 some (.inl (v8, v9, M7))
 else
 some (.inr (a3, M)))))
def fpX6_takesSheet_l4 (a1 : Int32) (s : Int32 × Int32 × Me) : Option ((Int32 × Int32 × Me) ⊕ (Int32 × Me)) := fpX6_takesSheet_l4s a1 s.1 s.2.1 s.2.2
set_option maxRecDepth 20000 in
theorem ebX6_takesSheet_l4s {z : Zt} {Q : Option Value → Me → Prop} (a1 : Int32) (a2 : Int32) (a3 : Int32) (M : Me) (h : ok (fpX6_takesSheet_l4s a1 a2 a3 M) (GX6_takesSheet_4 z a1 Q)) : Ev (wY, z) mtX6_takesSheet 2 46 4 [some (.ref 0), some (.int a1), some (.int a2), some (.int a3)] [] M Q := by
  unfold fpX6_takesSheet_l4s at h
  refine e_iload_n dX6_takesSheet_4 rfl ?_
  refine e_aload_n dX6_takesSheet_5 rfl ?_
  refine e_getR fa_RX6_46 is_Y0 rfl dX6_takesSheet_6 ?_
  refine e_iload_n dX6_takesSheet_9 rfl ?_
  refine ok_inb h (fun k1 ek1 ik1 h => ?_)
  refine e_ialdK ia_Y13 ik1 ek1 dX6_takesSheet_10 ?_
  refine e_icmp_ge 84 dX6_takesSheet_11 (by decide) (fun c2 => ?_) (fun c2 => ?_)
  · have h := ok_t c2 h
    refine e_forget [none, none, none, some (.int a3)] (leL_n (leL_n (leL_n (leL_s leL_0)))) ?_
    have h := ok_some h
    exact h
  · have h := ok_f c2 h
    refine e_aload_n dX6_takesSheet_14 rfl ?_
    refine e_aload_n dX6_takesSheet_15 rfl ?_
    refine e_getR fa_RX6_49 is_Y0 rfl dX6_takesSheet_16 ?_
    refine e_bipush (40 : Int32) dX6_takesSheet_19 (by decide) ?_
    refine e_iload_n dX6_takesSheet_21 rfl ?_
    refine e_imul dX6_takesSheet_22 ?_
    refine e_iload_n dX6_takesSheet_23 rfl ?_
    refine e_iadd dX6_takesSheet_24 ?_
    refine ok_inb h (fun k3 ek3 ik3 h => ?_)
    refine e_ialdK ia_Y14 ik3 ek3 dX6_takesSheet_25 ?_
    refine e_callV (f2 := 1) (l2 := 25) (ν := mtX6_isPump) (as := [.int (M.1 14 k3)]) cv_RX6_99 is_Y0 kc_7 ⟨Nat.le_of_ble_eq_true rfl, Nat.le_of_ble_eq_true rfl⟩ rfl rfl (Nat.le_of_ble_eq_true rfl) dX6_takesSheet_26 ?_
    refine ctX6_isPump (M.1 14 k3) ?_
    show Ev (wY, z) mtX6_takesSheet 2 46 29 [some (.ref 0), some (.int a1), some (.int a2), some (.int a3)] [.int (fpX6_isPump (M.1 14 k3) M)] M Q
    refine e_if_eq 84 dX6_takesSheet_29 (by decide) (fun c4 => ?_) (fun c4 => ?_)
    · have h := ok_t c4 h
      refine e_forget [none, none, none, some (.int a3)] (leL_n (leL_n (leL_n (leL_s leL_0)))) ?_
      have h := ok_some h
      exact h
    · have h := ok_f c4 h
      refine e_iload_n dX6_takesSheet_32 rfl ?_
      refine e_aload_n dX6_takesSheet_33 rfl ?_
      refine e_getR fa_RX6_49 is_Y0 rfl dX6_takesSheet_34 ?_
      refine e_bipush (40 : Int32) dX6_takesSheet_37 (by decide) ?_
      refine e_iload_n dX6_takesSheet_39 rfl ?_
      refine e_imul dX6_takesSheet_40 ?_
      refine e_iload_n dX6_takesSheet_41 rfl ?_
      refine e_iadd dX6_takesSheet_42 ?_
      refine e_ialdK ia_Y14 ik3 ek3 dX6_takesSheet_43 ?_
      refine e_callS (f2 := 0) (l2 := 0) (ν := mtX6_has) (as := [.int a2, .int (M.1 14 k3)]) cs_RX6_141 ⟨Nat.le_of_ble_eq_true rfl, Nat.le_of_ble_eq_true rfl⟩ rfl rfl (Nat.le_of_ble_eq_true rfl) dX6_takesSheet_44 ?_
      refine ctX6_has a2 (M.1 14 k3) ?_
      show Ev (wY, z) mtX6_takesSheet 2 46 47 [some (.ref 0), some (.int a1), some (.int a2), some (.int a3)] [.int (fpX6_has a2 (M.1 14 k3))] M Q
      refine e_if_ne 84 dX6_takesSheet_47 (by decide) (fun c5 => ?_) (fun c5 => ?_)
      · have h := ok_f c5 h
        refine e_forget [none, none, none, some (.int a3)] (leL_n (leL_n (leL_n (leL_s leL_0)))) ?_
        have h := ok_some h
        exact h
      · have h := ok_t c5 h
        refine e_aload_n dX6_takesSheet_50 rfl ?_
        refine e_getR fa_RX6_34 is_Y0 rfl dX6_takesSheet_51 ?_
        refine e_iload_n dX6_takesSheet_54 rfl ?_
        refine e_aload_n dX6_takesSheet_55 rfl ?_
        refine e_getR fa_RX6_49 is_Y0 rfl dX6_takesSheet_56 ?_
        refine e_bipush (40 : Int32) dX6_takesSheet_59 (by decide) ?_
        refine e_iload_n dX6_takesSheet_61 rfl ?_
        refine e_imul dX6_takesSheet_62 ?_
        refine e_iload_n dX6_takesSheet_63 rfl ?_
        refine e_iadd dX6_takesSheet_64 ?_
        refine e_ialdK ia_Y14 ik3 ek3 dX6_takesSheet_65 ?_
        refine ok_inb h (fun k6 ek6 ik6 h => ?_)
        refine e_iastK ia_Y9 ik6 ek6 dX6_takesSheet_66 ?_
        refine lv1 (P := fun M7 => Ev (wY, z) mtX6_takesSheet 2 46 67 [some (.ref 0), some (.int a1), some (.int a2), some (.int a3)] [] M7 Q) h (fun M7 h => ?_)
        refine e_iload_n dX6_takesSheet_67 rfl ?_
        refine e_iconst (1 : Int32) dX6_takesSheet_68 (by decide) ?_
        refine e_aload_n dX6_takesSheet_69 rfl ?_
        refine e_getR fa_RX6_34 is_Y0 rfl dX6_takesSheet_70 ?_
        refine e_iload_n dX6_takesSheet_73 rfl ?_
        refine e_ialdK ia_Y9 ik6 ek6 dX6_takesSheet_74 ?_
        refine e_ishl dX6_takesSheet_75 ?_
        refine e_ior dX6_takesSheet_76 ?_
        refine lv1 (P := fun v8 => Ev (wY, z) mtX6_takesSheet 2 46 77 [some (.ref 0), some (.int a1), some (.int a2), some (.int a3)] [.int v8] M7 Q) h (fun v8 h => ?_)
        refine e_istore_n dX6_takesSheet_77 (by decide) rfl ?_
        refine lv1e h (fun v9 ev9 h => ?_)
        refine e_iinc v9 dX6_takesSheet_78 rfl ev9 (by decide) rfl ?_
        refine e_goto 4 dX6_takesSheet_81 (by decide) ?_
        refine e_forget [some (.ref 0), some (.int a1), some (.int v8), some (.int v9)] (leL_s (leL_s (leL_s (leL_s leL_0)))) ?_
        have h := ok_some h
        exact h
theorem elX6_takesSheet_l4 {z : Zt} {Q : Option Value → Me → Prop} (a1 : Int32) (N : Nat) (s : Int32 × Int32 × Me) (h : ok (lp (fpX6_takesSheet_l4 a1) N s) (XX6_takesSheet_4 z a1 Q)) : EX6_takesSheet_4 z a1 Q s :=
  lp_ind (fun s h => ebX6_takesSheet_l4s a1 s.1 s.2.1 s.2.2 h) N s h
def fpX6_takesSheet (a1 : Int32) (M : Me) : Option (Int32 × Me) := (lp (fpX6_takesSheet_l4 a1) FU ((0 : Int32), (0 : Int32), M)).bind fun r10 =>
 some (r10.1, r10.2)
set_option maxRecDepth 20000 in
theorem ctX6_takesSheet {z : Zt} {M : Me} {Q : Option Value → Me → Prop} (a1 : Int32)  (h : ok (fpX6_takesSheet a1 M) (fun a => Q (some (.int a.1)) a.2)) : EvM (wY, z) mtX6_takesSheet 2 46 [.ref 0, .int a1] M Q := by
  refine evm_of [some (.ref 0), some (.int a1), none, none] 2 (by decide +kernel) (Nat.le_of_ble_eq_true rfl) rfl ?_
  unfold fpX6_takesSheet at h
  refine e_iconst (0 : Int32) dX6_takesSheet_0 (by decide) ?_
  refine e_istore_n dX6_takesSheet_1 (by decide) rfl ?_
  refine e_iconst (0 : Int32) dX6_takesSheet_2 (by decide) ?_
  refine e_istore_n dX6_takesSheet_3 (by decide) rfl ?_
  refine e_forget [some (.ref 0), some (.int a1), some (.int (0 : Int32)), some (.int (0 : Int32))] (leL_s (leL_s (leL_s (leL_s leL_0)))) ?_
  refine elX6_takesSheet_l4 a1 FU ((0 : Int32), (0 : Int32), M) (ok_bnd h (fun r10 h => ?_))
  show Ev (wY, z) mtX6_takesSheet 2 46 84 [none, none, none, some (.int r10.1)] [] r10.2 Q
  refine e_iload_n dX6_takesSheet_84 rfl ?_
  have h := ok_some h
  exact e_iret rfl dX6_takesSheet_85 h
def XX6_barrel_67 (z : Zt) (a2 : Int32) (a4 : Int32) (M : Me) (Q : Option Value → Me → Prop) : (Int32) → Prop := fun t => Ev (wY, z) mtX6_barrel 5 111 97 [some (.ref 0), none, none, none, none, some (.int t)] [] M Q
def EX6_barrel_67 (z : Zt) (a2 : Int32) (a4 : Int32) (M : Me) (Q : Option Value → Me → Prop) : (Int32) → Prop := fun s => Ev (wY, z) mtX6_barrel 5 111 67 [some (.ref 0), none, some (.int a2), none, some (.int a4), some (.int s)] [] M Q
def GX6_barrel_67 (z : Zt) (a2 : Int32) (a4 : Int32) (M : Me) (Q : Option Value → Me → Prop) : (Int32) ⊕ (Int32) → Prop := Sum.elim (EX6_barrel_67 z a2 a4 M Q) (XX6_barrel_67 z a2 a4 M Q)
def fpX6_barrel_l67s (a2 : Int32) (a4 : Int32) (a5 : Int32) (M : Me) : Option ((Int32) ⊕ (Int32)) := (if (M.1 1 2) < a5 then
 some (.inr a5)
 else
 (fpX6_brings a5 a4 (-1 : Int32) M).bind fun v9 =>
 (if v9 = a2 then
 some (.inr a5)
 else
 letv (a5 + (1 : Int32)) fun v11 =>
 some (.inl v11)))
def fpX6_barrel_l67 (a2 : Int32) (a4 : Int32) (M : Me) (s : Int32) : Option ((Int32) ⊕ (Int32)) := fpX6_barrel_l67s a2 a4 s M
set_option maxRecDepth 20000 in
theorem ebX6_barrel_l67s {z : Zt} {Q : Option Value → Me → Prop} (a2 : Int32) (a4 : Int32) (a5 : Int32) (M : Me) (h : ok (fpX6_barrel_l67s a2 a4 a5 M) (GX6_barrel_67 z a2 a4 M Q)) : Ev (wY, z) mtX6_barrel 5 111 67 [some (.ref 0), none, some (.int a2), none, some (.int a4), some (.int a5)] [] M Q := by
  unfold fpX6_barrel_l67s at h
  refine e_iload dX6_barrel_67 rfl ?_
  refine e_aload_n dX6_barrel_69 rfl ?_
  refine e_getR fa_RX6_7 is_Y0 rfl dX6_barrel_70 ?_
  refine e_iconst (2 : Int32) dX6_barrel_73 (by decide) ?_
  refine e_ialdK ia_Y1 (by unfold vp_in; decide) (q := 2) (by decide) dX6_barrel_74 ?_
  refine e_icmp_gt 97 dX6_barrel_75 (by decide) (fun c8 => ?_) (fun c8 => ?_)
  · have h := ok_t c8 h
    refine e_forget [some (.ref 0), none, none, none, none, some (.int a5)] (leL_s (leL_n (leL_n (leL_n (leL_n (leL_s leL_0)))))) ?_
    have h := ok_some h
    exact h
  · have h := ok_f c8 h
    refine e_aload_n dX6_barrel_78 rfl ?_
    refine e_iload dX6_barrel_79 rfl ?_
    refine e_iload dX6_barrel_81 rfl ?_
    refine e_iconst (-1 : Int32) dX6_barrel_83 (by decide) ?_
    refine e_callV (f2 := 2) (l2 := 44) (ν := mtX6_brings) (as := [.int a5, .int a4, .int (-1 : Int32)]) cv_RX6_166 is_Y0 kc_7 ⟨Nat.le_of_ble_eq_true rfl, Nat.le_of_ble_eq_true rfl⟩ rfl rfl (Nat.le_of_ble_eq_true rfl) dX6_barrel_84 ?_
    refine ctX6_brings a5 a4 (-1 : Int32) (ok_bnd h (fun v9 h => ?_))
    show Ev (wY, z) mtX6_barrel 5 111 87 [some (.ref 0), none, some (.int a2), none, some (.int a4), some (.int a5)] [.int v9] M Q
    refine e_iload_n dX6_barrel_87 rfl ?_
    refine e_icmp_eq 97 dX6_barrel_88 (by decide) (fun c10 => ?_) (fun c10 => ?_)
    · have h := ok_t c10 h
      refine e_forget [some (.ref 0), none, none, none, none, some (.int a5)] (leL_s (leL_n (leL_n (leL_n (leL_n (leL_s leL_0)))))) ?_
      have h := ok_some h
      exact h
    · have h := ok_f c10 h
      refine lv1e h (fun v11 ev11 h => ?_)
      refine e_iinc v11 dX6_barrel_91 rfl ev11 (by decide) rfl ?_
      refine e_goto 67 dX6_barrel_94 (by decide) ?_
      refine e_forget [some (.ref 0), none, some (.int a2), none, some (.int a4), some (.int v11)] (leL_s (leL_n (leL_s (leL_n (leL_s (leL_s leL_0)))))) ?_
      have h := ok_some h
      exact h
theorem elX6_barrel_l67 {z : Zt} {Q : Option Value → Me → Prop} (a2 : Int32) (a4 : Int32) (M : Me) (N : Nat) (s : Int32) (h : ok (lp (fpX6_barrel_l67 a2 a4 M) N s) (XX6_barrel_67 z a2 a4 M Q)) : EX6_barrel_67 z a2 a4 M Q s :=
  lp_ind (fun s h => ebX6_barrel_l67s a2 a4 s M h) N s h
def fpX6_barrel_b97 (a5 : Int32) (M : Me) : Option (Int32 × Me) := (if a5 ≤ (M.1 1 2) then
 some (a5, M)
 else
 (fpX6_finds (-1000004 : Int32) M).bind fun q14 =>
 some (q14.1, q14.2))
set_option maxRecDepth 20000 in
theorem ebX6_barrel_b97 {z : Zt} {Q : Option Value → Me → Prop} (a5 : Int32) (M : Me) (h : ok (fpX6_barrel_b97 a5 M) (fun a => Q (some (.int a.1)) a.2)) : Ev (wY, z) mtX6_barrel 5 111 97 [some (.ref 0), none, none, none, none, some (.int a5)] [] M Q := by
  unfold fpX6_barrel_b97 at h
  refine e_iload dX6_barrel_97 rfl ?_
  refine e_aload_n dX6_barrel_99 rfl ?_
  refine e_getR fa_RX6_7 is_Y0 rfl dX6_barrel_100 ?_
  refine e_iconst (2 : Int32) dX6_barrel_103 (by decide) ?_
  refine e_ialdK ia_Y1 (by unfold vp_in; decide) (q := 2) (by decide) dX6_barrel_104 ?_
  refine e_icmp_le 117 dX6_barrel_105 (by decide) (fun c13 => ?_) (fun c13 => ?_)
  · have h := ok_t c13 h
    refine e_iload dX6_barrel_117 rfl ?_
    have h := ok_some h
    exact e_iret rfl dX6_barrel_119 h
  · have h := ok_f c13 h
    refine e_aload_n dX6_barrel_108 rfl ?_
    refine e_ldc wk_RX6_172 dX6_barrel_109 ?_
    refine e_callV (f2 := 0) (l2 := 0) (ν := mtX6_finds) (as := [.int (-1000004 : Int32)]) cv_RX6_81 is_Y0 kc_7 ⟨Nat.le_of_ble_eq_true rfl, Nat.le_of_ble_eq_true rfl⟩ rfl rfl (Nat.le_of_ble_eq_true rfl) dX6_barrel_111 ?_
    refine ctX6_finds (-1000004 : Int32) (ok_bnd h (fun q14 h => ?_))
    show Ev (wY, z) mtX6_barrel 5 111 114 [some (.ref 0), none, none, none, none, some (.int a5)] [.int q14.1] q14.2 Q
    refine e_goto 119 dX6_barrel_114 (by decide) ?_
    have h := ok_some h
    exact e_iret rfl dX6_barrel_119 h
def fpX6_barrel (a1 : Int32) (a2 : Int32) (M : Me) : Option (Int32 × Me) := (fpX6_wrong a1 M).bind fun v1 =>
 (if v1 = 0 then
 (fpX6_takesSheet a1 M).bind fun q3 =>
 (inb a1 4).bind fun k4 =>
 (if (q3.2.1 13 k4) ≤ q3.1 then
 (if (fpX6_in (a2.toInt64) (0 : Int64) (999 : Int64)) = 0 then
 (fpX6_finds (-1000001 : Int32) q3.2).bind fun q15 =>
 some (q15.1, q15.2)
 else
 (fpX6_findYields q3.2).bind fun q7 =>
 (lp (fpX6_barrel_l67 a2 q3.1 q7) FU (0 : Int32)).bind fun r12 =>
 fpX6_barrel_b97 r12 q7)
 else
 (fpX6_finds (-1000005 : Int32) q3.2).bind fun q16 =>
 some (q16.1, q16.2))
 else
 (fpX6_finds v1 M).bind fun q17 =>
 some (q17.1, q17.2))
set_option maxRecDepth 20000 in
theorem ctX6_barrel {z : Zt} {M : Me} {Q : Option Value → Me → Prop} (a1 : Int32) (a2 : Int32)  (h : ok (fpX6_barrel a1 a2 M) (fun a => Q (some (.int a.1)) a.2)) : EvM (wY, z) mtX6_barrel 5 111 [.ref 0, .int a1, .int a2] M Q := by
  refine evm_of [some (.ref 0), some (.int a1), some (.int a2), none, none, none] 3 (by decide +kernel) (Nat.le_of_ble_eq_true rfl) rfl ?_
  unfold fpX6_barrel at h
  refine e_aload_n dX6_barrel_0 rfl ?_
  refine e_iload_n dX6_barrel_1 rfl ?_
  refine e_callV (f2 := 2) (l2 := 45) (ν := mtX6_wrong) (as := [.int a1]) cv_RX6_301 is_Y0 kc_7 ⟨Nat.le_of_ble_eq_true rfl, Nat.le_of_ble_eq_true rfl⟩ rfl rfl (Nat.le_of_ble_eq_true rfl) dX6_barrel_2 ?_
  refine ctX6_wrong a1 (ok_bnd h (fun v1 h => ?_))
  show Ev (wY, z) mtX6_barrel 5 111 5 [some (.ref 0), some (.int a1), some (.int a2), none, none, none] [.int v1] M Q
  refine e_istore_n dX6_barrel_5 (by decide) rfl ?_
  refine e_iload_n dX6_barrel_6 rfl ?_
  refine e_if_eq 16 dX6_barrel_7 (by decide) (fun c2 => ?_) (fun c2 => ?_)
  · have h := ok_t c2 h
    refine e_aload_n dX6_barrel_16 rfl ?_
    refine e_iload_n dX6_barrel_17 rfl ?_
    refine e_callV (f2 := 2) (l2 := 46) (ν := mtX6_takesSheet) (as := [.int a1]) cv_RX6_307 is_Y0 kc_7 ⟨Nat.le_of_ble_eq_true rfl, Nat.le_of_ble_eq_true rfl⟩ rfl rfl (Nat.le_of_ble_eq_true rfl) dX6_barrel_18 ?_
    refine ctX6_takesSheet a1 (ok_bnd h (fun q3 h => ?_))
    show Ev (wY, z) mtX6_barrel 5 111 21 [some (.ref 0), some (.int a1), some (.int a2), some (.int v1), none, none] [.int q3.1] q3.2 Q
    refine e_istore dX6_barrel_21 (by decide) rfl ?_
    refine e_iload dX6_barrel_23 rfl ?_
    refine e_aload_n dX6_barrel_25 rfl ?_
    refine e_getR fa_RX6_46 is_Y0 rfl dX6_barrel_26 ?_
    refine e_iload_n dX6_barrel_29 rfl ?_
    refine ok_inb h (fun k4 ek4 ik4 h => ?_)
    refine e_ialdK ia_Y13 ik4 ek4 dX6_barrel_30 ?_
    refine e_icmp_ge 41 dX6_barrel_31 (by decide) (fun c5 => ?_) (fun c5 => ?_)
    · have h := ok_t c5 h
      refine e_iload_n dX6_barrel_41 rfl ?_
      refine e_i2l dX6_barrel_42 ?_
      refine e_lconst (0 : Int64) dX6_barrel_43 (by decide) ?_
      refine e_ldc2 wk_RX6_107 dX6_barrel_44 ?_
      refine e_callS (f2 := 0) (l2 := 0) (ν := mtX6_in) (as := [.long (a2.toInt64), .long (0 : Int64), .long (999 : Int64)]) cs_RX6_58 ⟨Nat.le_of_ble_eq_true rfl, Nat.le_of_ble_eq_true rfl⟩ rfl rfl (Nat.le_of_ble_eq_true rfl) dX6_barrel_47 ?_
      refine ctX6_in (a2.toInt64) (0 : Int64) (999 : Int64) ?_
      show Ev (wY, z) mtX6_barrel 5 111 50 [some (.ref 0), some (.int a1), some (.int a2), some (.int v1), some (.int q3.1), none] [.int (fpX6_in (a2.toInt64) (0 : Int64) (999 : Int64))] q3.2 Q
      refine e_if_ne 60 dX6_barrel_50 (by decide) (fun c6 => ?_) (fun c6 => ?_)
      · have h := ok_f c6 h
        refine e_aload_n dX6_barrel_60 rfl ?_
        refine e_callV (f2 := 4) (l2 := 89) (ν := mtX6_findYields) (as := []) cv_RX6_153 is_Y0 kc_7 ⟨Nat.le_of_ble_eq_true rfl, Nat.le_of_ble_eq_true rfl⟩ rfl rfl (Nat.le_of_ble_eq_true rfl) dX6_barrel_61 ?_
        refine ctX6_findYields (ok_bnd h (fun q7 h => ?_))
        show Ev (wY, z) mtX6_barrel 5 111 64 [some (.ref 0), some (.int a1), some (.int a2), some (.int v1), some (.int q3.1), none] [] q7 Q
        refine e_iconst (0 : Int32) dX6_barrel_64 (by decide) ?_
        refine e_istore dX6_barrel_65 (by decide) rfl ?_
        refine e_forget [some (.ref 0), none, some (.int a2), none, some (.int q3.1), some (.int (0 : Int32))] (leL_s (leL_n (leL_s (leL_n (leL_s (leL_s leL_0)))))) ?_
        refine elX6_barrel_l67 a2 q3.1 q7 FU (0 : Int32) (ok_bnd h (fun r12 h => ?_))
        show Ev (wY, z) mtX6_barrel 5 111 97 [some (.ref 0), none, none, none, none, some (.int r12)] [] q7 Q
        refine e_forget [some (.ref 0), none, none, none, none, some (.int r12)] (leL_s (leL_n (leL_n (leL_n (leL_n (leL_s leL_0)))))) ?_
        exact ebX6_barrel_b97 r12 q7 h
      · have h := ok_t c6 h
        refine e_aload_n dX6_barrel_53 rfl ?_
        refine e_ldc wk_RX6_55 dX6_barrel_54 ?_
        refine e_callV (f2 := 0) (l2 := 0) (ν := mtX6_finds) (as := [.int (-1000001 : Int32)]) cv_RX6_81 is_Y0 kc_7 ⟨Nat.le_of_ble_eq_true rfl, Nat.le_of_ble_eq_true rfl⟩ rfl rfl (Nat.le_of_ble_eq_true rfl) dX6_barrel_56 ?_
        refine ctX6_finds (-1000001 : Int32) (ok_bnd h (fun q15 h => ?_))
        show Ev (wY, z) mtX6_barrel 5 111 59 [some (.ref 0), some (.int a1), some (.int a2), some (.int v1), some (.int q3.1), none] [.int q15.1] q15.2 Q
        have h := ok_some h
        exact e_iret rfl dX6_barrel_59 h
    · have h := ok_f c5 h
      refine e_aload_n dX6_barrel_34 rfl ?_
      refine e_ldc wk_RX6_122 dX6_barrel_35 ?_
      refine e_callV (f2 := 0) (l2 := 0) (ν := mtX6_finds) (as := [.int (-1000005 : Int32)]) cv_RX6_81 is_Y0 kc_7 ⟨Nat.le_of_ble_eq_true rfl, Nat.le_of_ble_eq_true rfl⟩ rfl rfl (Nat.le_of_ble_eq_true rfl) dX6_barrel_37 ?_
      refine ctX6_finds (-1000005 : Int32) (ok_bnd h (fun q16 h => ?_))
      show Ev (wY, z) mtX6_barrel 5 111 40 [some (.ref 0), some (.int a1), some (.int a2), some (.int v1), some (.int q3.1), none] [.int q16.1] q16.2 Q
      have h := ok_some h
      exact e_iret rfl dX6_barrel_40 h
  · have h := ok_f c2 h
    refine e_aload_n dX6_barrel_10 rfl ?_
    refine e_iload_n dX6_barrel_11 rfl ?_
    refine e_callV (f2 := 0) (l2 := 0) (ν := mtX6_finds) (as := [.int v1]) cv_RX6_81 is_Y0 kc_7 ⟨Nat.le_of_ble_eq_true rfl, Nat.le_of_ble_eq_true rfl⟩ rfl rfl (Nat.le_of_ble_eq_true rfl) dX6_barrel_12 ?_
    refine ctX6_finds v1 (ok_bnd h (fun q17 h => ?_))
    show Ev (wY, z) mtX6_barrel 5 111 15 [some (.ref 0), some (.int a1), some (.int a2), some (.int v1), none, none] [.int q17.1] q17.2 Q
    have h := ok_some h
    exact e_iret rfl dX6_barrel_15 h
def XX6_judge_57 (z : Zt) (a1 : Int32) (a4 : Int32) (M : Me) (Q : Option Value → Me → Prop) : (Int32) → Prop := fun t => Ev (wY, z) mtX6_judge 5 111 134 [some (.ref 0), some (.int a1), none, none, none, none, none, some (.int t)] [] M Q
def EX6_judge_57 (z : Zt) (a1 : Int32) (a4 : Int32) (M : Me) (Q : Option Value → Me → Prop) : (Int32 × Int32 × Int32) → Prop := fun s => Ev (wY, z) mtX6_judge 5 111 57 [some (.ref 0), some (.int a1), none, none, some (.int a4), some (.int s.1), some (.int s.2.1), some (.int s.2.2)] [] M Q
def GX6_judge_57 (z : Zt) (a1 : Int32) (a4 : Int32) (M : Me) (Q : Option Value → Me → Prop) : (Int32 × Int32 × Int32) ⊕ (Int32) → Prop := Sum.elim (EX6_judge_57 z a1 a4 M Q) (XX6_judge_57 z a1 a4 M Q)
def fpX6_judge_l57s (a1 : Int32) (a4 : Int32) (a5 : Int32) (a6 : Int32) (a7 : Int32) (M : Me) : Option ((Int32 × Int32 × Int32) ⊕ (Int32)) := (if a4 ≤ a7 then
 some (.inr a7)
 else
 (if a6 < 0 then
 some (.inr a7)
 else
 (inb a7 40).bind fun k9 =>
 (fpX6_its (M.1 9 k9) (1 : Int32) M).bind fun v10 =>
 (fpX6_left a6 a5 v10 M).bind fun v11 =>
 (fpX6_ran v11 (M.1 9 k9) M).bind fun v12 =>
 (fpX6_its (M.1 9 k9) (1 : Int32) M).bind fun v13 =>
 (if 0 ≤ v12 then
 letv (a7 + (1 : Int32)) fun v15 =>
 some (.inl (v13, v12, v15))
 else
 letv (a7 + (0 : Int32)) fun v16 =>
 some (.inl (v13, v12, v16)))))
def fpX6_judge_l57 (a1 : Int32) (a4 : Int32) (M : Me) (s : Int32 × Int32 × Int32) : Option ((Int32 × Int32 × Int32) ⊕ (Int32)) := fpX6_judge_l57s a1 a4 s.1 s.2.1 s.2.2 M
set_option maxRecDepth 20000 in
theorem ebX6_judge_l57s {z : Zt} {Q : Option Value → Me → Prop} (a1 : Int32) (a4 : Int32) (a5 : Int32) (a6 : Int32) (a7 : Int32) (M : Me) (h : ok (fpX6_judge_l57s a1 a4 a5 a6 a7 M) (GX6_judge_57 z a1 a4 M Q)) : Ev (wY, z) mtX6_judge 5 111 57 [some (.ref 0), some (.int a1), none, none, some (.int a4), some (.int a5), some (.int a6), some (.int a7)] [] M Q := by
  unfold fpX6_judge_l57s at h
  refine e_iload dX6_judge_57 rfl ?_
  refine e_iload dX6_judge_59 rfl ?_
  refine e_icmp_ge 134 dX6_judge_61 (by decide) (fun c7 => ?_) (fun c7 => ?_)
  · have h := ok_t c7 h
    refine e_forget [some (.ref 0), some (.int a1), none, none, none, none, none, some (.int a7)] (leL_s (leL_s (leL_n (leL_n (leL_n (leL_n (leL_n (leL_s leL_0)))))))) ?_
    have h := ok_some h
    exact h
  · have h := ok_f c7 h
    refine e_iload dX6_judge_64 rfl ?_
    refine e_if_lt 134 dX6_judge_66 (by decide) (fun c8 => ?_) (fun c8 => ?_)
    · have h := ok_t c8 h
      refine e_forget [some (.ref 0), some (.int a1), none, none, none, none, none, some (.int a7)] (leL_s (leL_s (leL_n (leL_n (leL_n (leL_n (leL_n (leL_s leL_0)))))))) ?_
      have h := ok_some h
      exact h
    · have h := ok_f c8 h
      refine e_aload_n dX6_judge_69 rfl ?_
      refine e_aload_n dX6_judge_70 rfl ?_
      refine e_iload dX6_judge_71 rfl ?_
      refine e_iload dX6_judge_73 rfl ?_
      refine e_aload_n dX6_judge_75 rfl ?_
      refine e_aload_n dX6_judge_76 rfl ?_
      refine e_getR fa_RX6_34 is_Y0 rfl dX6_judge_77 ?_
      refine e_iload dX6_judge_80 rfl ?_
      refine ok_inb h (fun k9 ek9 ik9 h => ?_)
      refine e_ialdK ia_Y9 ik9 ek9 dX6_judge_82 ?_
      refine e_iconst (1 : Int32) dX6_judge_83 (by decide) ?_
      refine e_callV (f2 := 1) (l2 := 21) (ν := mtX6_its) (as := [.int (M.1 9 k9), .int (1 : Int32)]) cv_RX6_90 is_Y0 kc_7 ⟨Nat.le_of_ble_eq_true rfl, Nat.le_of_ble_eq_true rfl⟩ rfl rfl (Nat.le_of_ble_eq_true rfl) dX6_judge_84 ?_
      refine ctX6_its (M.1 9 k9) (1 : Int32) (ok_bnd h (fun v10 h => ?_))
      show Ev (wY, z) mtX6_judge 5 111 87 [some (.ref 0), some (.int a1), none, none, some (.int a4), some (.int a5), some (.int a6), some (.int a7)] [.int v10, .int a5, .int a6, .ref 0, .ref 0] M Q
      refine e_callV (f2 := 1) (l2 := 21) (ν := mtX6_left) (as := [.int a6, .int a5, .int v10]) cv_RX6_123 is_Y0 kc_7 ⟨Nat.le_of_ble_eq_true rfl, Nat.le_of_ble_eq_true rfl⟩ rfl rfl (Nat.le_of_ble_eq_true rfl) dX6_judge_87 ?_
      refine ctX6_left a6 a5 v10 (ok_bnd h (fun v11 h => ?_))
      show Ev (wY, z) mtX6_judge 5 111 90 [some (.ref 0), some (.int a1), none, none, some (.int a4), some (.int a5), some (.int a6), some (.int a7)] [.int v11, .ref 0] M Q
      refine e_aload_n dX6_judge_90 rfl ?_
      refine e_getR fa_RX6_34 is_Y0 rfl dX6_judge_91 ?_
      refine e_iload dX6_judge_94 rfl ?_
      refine e_ialdK ia_Y9 ik9 ek9 dX6_judge_96 ?_
      refine e_callV (f2 := 1) (l2 := 21) (ν := mtX6_ran) (as := [.int v11, .int (M.1 9 k9)]) cv_RX6_150 is_Y0 kc_7 ⟨Nat.le_of_ble_eq_true rfl, Nat.le_of_ble_eq_true rfl⟩ rfl rfl (Nat.le_of_ble_eq_true rfl) dX6_judge_97 ?_
      refine ctX6_ran v11 (M.1 9 k9) (ok_bnd h (fun v12 h => ?_))
      show Ev (wY, z) mtX6_judge 5 111 100 [some (.ref 0), some (.int a1), none, none, some (.int a4), some (.int a5), some (.int a6), some (.int a7)] [.int v12] M Q
      refine e_istore dX6_judge_100 (by decide) rfl ?_
      refine e_aload_n dX6_judge_102 rfl ?_
      refine e_aload_n dX6_judge_103 rfl ?_
      refine e_getR fa_RX6_34 is_Y0 rfl dX6_judge_104 ?_
      refine e_iload dX6_judge_107 rfl ?_
      refine e_ialdK ia_Y9 ik9 ek9 dX6_judge_109 ?_
      refine e_iconst (1 : Int32) dX6_judge_110 (by decide) ?_
      refine e_callV (f2 := 1) (l2 := 21) (ν := mtX6_its) (as := [.int (M.1 9 k9), .int (1 : Int32)]) cv_RX6_90 is_Y0 kc_7 ⟨Nat.le_of_ble_eq_true rfl, Nat.le_of_ble_eq_true rfl⟩ rfl rfl (Nat.le_of_ble_eq_true rfl) dX6_judge_111 ?_
      refine ctX6_its (M.1 9 k9) (1 : Int32) (ok_bnd h (fun v13 h => ?_))
      show Ev (wY, z) mtX6_judge 5 111 114 [some (.ref 0), some (.int a1), none, none, some (.int a4), some (.int a5), some (.int v12), some (.int a7)] [.int v13] M Q
      refine e_istore dX6_judge_114 (by decide) rfl ?_
      refine e_iload dX6_judge_116 rfl ?_
      refine e_iload dX6_judge_118 rfl ?_
      refine e_if_ge 127 dX6_judge_120 (by decide) (fun c14 => ?_) (fun c14 => ?_)
      · have h := ok_t c14 h
        refine e_iconst (1 : Int32) dX6_judge_127 (by decide) ?_
        refine e_iadd dX6_judge_128 ?_
        refine lv1 (P := fun v15 => Ev (wY, z) mtX6_judge 5 111 129 [some (.ref 0), some (.int a1), none, none, some (.int a4), some (.int v13), some (.int v12), some (.int a7)] [.int v15] M Q) h (fun v15 h => ?_)
        refine e_istore dX6_judge_129 (by decide) rfl ?_
        refine e_goto 57 dX6_judge_131 (by decide) ?_
        refine e_forget [some (.ref 0), some (.int a1), none, none, some (.int a4), some (.int v13), some (.int v12), some (.int v15)] (leL_s (leL_s (leL_n (leL_n (leL_s (leL_s (leL_s (leL_s leL_0)))))))) ?_
        have h := ok_some h
        exact h
      · have h := ok_f c14 h
        refine e_iconst (0 : Int32) dX6_judge_123 (by decide) ?_
        refine e_goto 128 dX6_judge_124 (by decide) ?_
        refine e_iadd dX6_judge_128 ?_
        refine lv1 (P := fun v16 => Ev (wY, z) mtX6_judge 5 111 129 [some (.ref 0), some (.int a1), none, none, some (.int a4), some (.int v13), some (.int v12), some (.int a7)] [.int v16] M Q) h (fun v16 h => ?_)
        refine e_istore dX6_judge_129 (by decide) rfl ?_
        refine e_goto 57 dX6_judge_131 (by decide) ?_
        refine e_forget [some (.ref 0), some (.int a1), none, none, some (.int a4), some (.int v13), some (.int v12), some (.int v16)] (leL_s (leL_s (leL_n (leL_n (leL_s (leL_s (leL_s (leL_s leL_0)))))))) ?_
        have h := ok_some h
        exact h
theorem elX6_judge_l57 {z : Zt} {Q : Option Value → Me → Prop} (a1 : Int32) (a4 : Int32) (M : Me) (N : Nat) (s : Int32 × Int32 × Int32) (h : ok (lp (fpX6_judge_l57 a1 a4 M) N s) (XX6_judge_57 z a1 a4 M Q)) : EX6_judge_57 z a1 a4 M Q s :=
  lp_ind (fun s h => ebX6_judge_l57s a1 a4 s.1 s.2.1 s.2.2 M h) N s h
def fpX6_judge_b134 (a1 : Int32) (a7 : Int32) (M : Me) : Option (Int32 × Me) := (inb a1 4).bind fun k18 =>
 (if a7 = (M.1 13 k18) then
 some ((0 : Int32), M)
 else
 some (((1 : Int32) + a7), M))
set_option maxRecDepth 20000 in
theorem ebX6_judge_b134 {z : Zt} {Q : Option Value → Me → Prop} (a1 : Int32) (a7 : Int32) (M : Me) (h : ok (fpX6_judge_b134 a1 a7 M) (fun a => Q (some (.int a.1)) a.2)) : Ev (wY, z) mtX6_judge 5 111 134 [some (.ref 0), some (.int a1), none, none, none, none, none, some (.int a7)] [] M Q := by
  unfold fpX6_judge_b134 at h
  refine e_iload dX6_judge_134 rfl ?_
  refine e_aload_n dX6_judge_136 rfl ?_
  refine e_getR fa_RX6_46 is_Y0 rfl dX6_judge_137 ?_
  refine e_iload_n dX6_judge_140 rfl ?_
  refine ok_inb h (fun k18 ek18 ik18 h => ?_)
  refine e_ialdK ia_Y13 ik18 ek18 dX6_judge_141 ?_
  refine e_icmp_ne 149 dX6_judge_142 (by decide) (fun c19 => ?_) (fun c19 => ?_)
  · have h := ok_f c19 h
    refine e_iconst (1 : Int32) dX6_judge_149 (by decide) ?_
    refine e_iload dX6_judge_150 rfl ?_
    refine e_iadd dX6_judge_152 ?_
    have h := ok_some h
    exact e_iret rfl dX6_judge_153 h
  · have h := ok_t c19 h
    refine e_iconst (0 : Int32) dX6_judge_145 (by decide) ?_
    refine e_goto 153 dX6_judge_146 (by decide) ?_
    have h := ok_some h
    exact e_iret rfl dX6_judge_153 h
def fpX6_judge (a1 : Int32) (a2 : Int32) (M : Me) : Option (Int32 × Me) := (fpX6_wrong a1 M).bind fun v1 =>
 (if v1 = 0 then
 (if (fpX6_isWater a2 M) = 0 then
 (fpX6_finds (-1000001 : Int32) M).bind fun q20 =>
 some (q20.1, q20.2)
 else
 (fpX6_findYields M).bind fun q4 =>
 (fpX6_takesSheet a1 q4).bind fun q5 =>
 letv (q5.2.1 1 7) fun v6 =>
 (lp (fpX6_judge_l57 a1 q5.1 q5.2) FU (v6, a2, (0 : Int32))).bind fun r17 =>
 fpX6_judge_b134 a1 r17 q5.2)
 else
 (fpX6_finds v1 M).bind fun q21 =>
 some (q21.1, q21.2))
set_option maxRecDepth 20000 in
theorem ctX6_judge {z : Zt} {M : Me} {Q : Option Value → Me → Prop} (a1 : Int32) (a2 : Int32)  (h : ok (fpX6_judge a1 a2 M) (fun a => Q (some (.int a.1)) a.2)) : EvM (wY, z) mtX6_judge 5 111 [.ref 0, .int a1, .int a2] M Q := by
  refine evm_of [some (.ref 0), some (.int a1), some (.int a2), none, none, none, none, none] 5 (by decide +kernel) (Nat.le_of_ble_eq_true rfl) rfl ?_
  unfold fpX6_judge at h
  refine e_aload_n dX6_judge_0 rfl ?_
  refine e_iload_n dX6_judge_1 rfl ?_
  refine e_callV (f2 := 2) (l2 := 45) (ν := mtX6_wrong) (as := [.int a1]) cv_RX6_301 is_Y0 kc_7 ⟨Nat.le_of_ble_eq_true rfl, Nat.le_of_ble_eq_true rfl⟩ rfl rfl (Nat.le_of_ble_eq_true rfl) dX6_judge_2 ?_
  refine ctX6_wrong a1 (ok_bnd h (fun v1 h => ?_))
  show Ev (wY, z) mtX6_judge 5 111 5 [some (.ref 0), some (.int a1), some (.int a2), none, none, none, none, none] [.int v1] M Q
  refine e_istore_n dX6_judge_5 (by decide) rfl ?_
  refine e_iload_n dX6_judge_6 rfl ?_
  refine e_if_eq 16 dX6_judge_7 (by decide) (fun c2 => ?_) (fun c2 => ?_)
  · have h := ok_t c2 h
    refine e_aload_n dX6_judge_16 rfl ?_
    refine e_iload_n dX6_judge_17 rfl ?_
    refine e_callV (f2 := 1) (l2 := 25) (ν := mtX6_isWater) (as := [.int a2]) cv_RX6_116 is_Y0 kc_7 ⟨Nat.le_of_ble_eq_true rfl, Nat.le_of_ble_eq_true rfl⟩ rfl rfl (Nat.le_of_ble_eq_true rfl) dX6_judge_18 ?_
    refine ctX6_isWater a2 ?_
    show Ev (wY, z) mtX6_judge 5 111 21 [some (.ref 0), some (.int a1), some (.int a2), some (.int v1), none, none, none, none] [.int (fpX6_isWater a2 M)] M Q
    refine e_if_ne 31 dX6_judge_21 (by decide) (fun c3 => ?_) (fun c3 => ?_)
    · have h := ok_f c3 h
      refine e_aload_n dX6_judge_31 rfl ?_
      refine e_callV (f2 := 4) (l2 := 89) (ν := mtX6_findYields) (as := []) cv_RX6_153 is_Y0 kc_7 ⟨Nat.le_of_ble_eq_true rfl, Nat.le_of_ble_eq_true rfl⟩ rfl rfl (Nat.le_of_ble_eq_true rfl) dX6_judge_32 ?_
      refine ctX6_findYields (ok_bnd h (fun q4 h => ?_))
      show Ev (wY, z) mtX6_judge 5 111 35 [some (.ref 0), some (.int a1), some (.int a2), some (.int v1), none, none, none, none] [] q4 Q
      refine e_aload_n dX6_judge_35 rfl ?_
      refine e_iload_n dX6_judge_36 rfl ?_
      refine e_callV (f2 := 2) (l2 := 46) (ν := mtX6_takesSheet) (as := [.int a1]) cv_RX6_307 is_Y0 kc_7 ⟨Nat.le_of_ble_eq_true rfl, Nat.le_of_ble_eq_true rfl⟩ rfl rfl (Nat.le_of_ble_eq_true rfl) dX6_judge_37 ?_
      refine ctX6_takesSheet a1 (ok_bnd h (fun q5 h => ?_))
      show Ev (wY, z) mtX6_judge 5 111 40 [some (.ref 0), some (.int a1), some (.int a2), some (.int v1), none, none, none, none] [.int q5.1] q5.2 Q
      refine e_istore dX6_judge_40 (by decide) rfl ?_
      refine e_aload_n dX6_judge_42 rfl ?_
      refine e_getR fa_RX6_7 is_Y0 rfl dX6_judge_43 ?_
      refine e_bipush (7 : Int32) dX6_judge_46 (by decide) ?_
      refine e_ialdK ia_Y1 (by unfold vp_in; decide) (q := 7) (by decide) dX6_judge_48 ?_
      refine lv1 (P := fun v6 => Ev (wY, z) mtX6_judge 5 111 49 [some (.ref 0), some (.int a1), some (.int a2), some (.int v1), some (.int q5.1), none, none, none] [.int v6] q5.2 Q) h (fun v6 h => ?_)
      refine e_istore dX6_judge_49 (by decide) rfl ?_
      refine e_iload_n dX6_judge_51 rfl ?_
      refine e_istore dX6_judge_52 (by decide) rfl ?_
      refine e_iconst (0 : Int32) dX6_judge_54 (by decide) ?_
      refine e_istore dX6_judge_55 (by decide) rfl ?_
      refine e_forget [some (.ref 0), some (.int a1), none, none, some (.int q5.1), some (.int v6), some (.int a2), some (.int (0 : Int32))] (leL_s (leL_s (leL_n (leL_n (leL_s (leL_s (leL_s (leL_s leL_0)))))))) ?_
      refine elX6_judge_l57 a1 q5.1 q5.2 FU (v6, a2, (0 : Int32)) (ok_bnd h (fun r17 h => ?_))
      show Ev (wY, z) mtX6_judge 5 111 134 [some (.ref 0), some (.int a1), none, none, none, none, none, some (.int r17)] [] q5.2 Q
      refine e_forget [some (.ref 0), some (.int a1), none, none, none, none, none, some (.int r17)] (leL_s (leL_s (leL_n (leL_n (leL_n (leL_n (leL_n (leL_s leL_0)))))))) ?_
      exact ebX6_judge_b134 a1 r17 q5.2 h
    · have h := ok_t c3 h
      refine e_aload_n dX6_judge_24 rfl ?_
      refine e_ldc wk_RX6_55 dX6_judge_25 ?_
      refine e_callV (f2 := 0) (l2 := 0) (ν := mtX6_finds) (as := [.int (-1000001 : Int32)]) cv_RX6_81 is_Y0 kc_7 ⟨Nat.le_of_ble_eq_true rfl, Nat.le_of_ble_eq_true rfl⟩ rfl rfl (Nat.le_of_ble_eq_true rfl) dX6_judge_27 ?_
      refine ctX6_finds (-1000001 : Int32) (ok_bnd h (fun q20 h => ?_))
      show Ev (wY, z) mtX6_judge 5 111 30 [some (.ref 0), some (.int a1), some (.int a2), some (.int v1), none, none, none, none] [.int q20.1] q20.2 Q
      have h := ok_some h
      exact e_iret rfl dX6_judge_30 h
  · have h := ok_f c2 h
    refine e_aload_n dX6_judge_10 rfl ?_
    refine e_iload_n dX6_judge_11 rfl ?_
    refine e_callV (f2 := 0) (l2 := 0) (ν := mtX6_finds) (as := [.int v1]) cv_RX6_81 is_Y0 kc_7 ⟨Nat.le_of_ble_eq_true rfl, Nat.le_of_ble_eq_true rfl⟩ rfl rfl (Nat.le_of_ble_eq_true rfl) dX6_judge_12 ?_
    refine ctX6_finds v1 (ok_bnd h (fun q21 h => ?_))
    show Ev (wY, z) mtX6_judge 5 111 15 [some (.ref 0), some (.int a1), some (.int a2), some (.int v1), none, none, none, none] [.int q21.1] q21.2 Q
    have h := ok_some h
    exact e_iret rfl dX6_judge_15 h
def XX6_image_2 (z : Zt) (Q : Option Value → Me → Prop) : (Me) → Prop := fun t => Ev (wY, z) mtX6_image 0 0 26 [some (.ref 0), none] [] t Q
def EX6_image_2 (z : Zt) (Q : Option Value → Me → Prop) : (Int32 × Me) → Prop := fun s => Ev (wY, z) mtX6_image 0 0 2 [some (.ref 0), some (.int s.1)] [] s.2 Q
def GX6_image_2 (z : Zt) (Q : Option Value → Me → Prop) : (Int32 × Me) ⊕ (Me) → Prop := Sum.elim (EX6_image_2 z Q) (XX6_image_2 z Q)
def fpX6_image_l2s (a1 : Int32) (M : Me) : Option ((Int32 × Me) ⊕ (Me)) := (if (70 : Int32) ≤ a1 then
 some (.inr M)
 else
 (inb a1 70).bind fun k2 =>
 letv (wrM M 2 k2 (M.1 1 k2)) fun M3 =>
 letv (a1 + (1 : Int32)) fun v4 =>
 some (.inl (v4, M3)))
def fpX6_image_l2 (s : Int32 × Me) : Option ((Int32 × Me) ⊕ (Me)) := fpX6_image_l2s s.1 s.2
set_option maxRecDepth 20000 in
theorem ebX6_image_l2s {z : Zt} {Q : Option Value → Me → Prop} (a1 : Int32) (M : Me) (h : ok (fpX6_image_l2s a1 M) (GX6_image_2 z Q)) : Ev (wY, z) mtX6_image 0 0 2 [some (.ref 0), some (.int a1)] [] M Q := by
  unfold fpX6_image_l2s at h
  refine e_iload_n dX6_image_2 rfl ?_
  refine e_bipush (70 : Int32) dX6_image_3 (by decide) ?_
  refine e_icmp_ge 26 dX6_image_5 (by decide) (fun c1 => ?_) (fun c1 => ?_)
  · have h := ok_t c1 h
    refine e_forget [some (.ref 0), none] (leL_s (leL_n leL_0)) ?_
    have h := ok_some h
    exact h
  · have h := ok_f c1 h
    refine e_aload_n dX6_image_8 rfl ?_
    refine e_getR fa_RX6_13 is_Y0 rfl dX6_image_9 ?_
    refine e_iload_n dX6_image_12 rfl ?_
    refine e_aload_n dX6_image_13 rfl ?_
    refine e_getR fa_RX6_7 is_Y0 rfl dX6_image_14 ?_
    refine e_iload_n dX6_image_17 rfl ?_
    refine ok_inb h (fun k2 ek2 ik2 h => ?_)
    refine e_ialdK ia_Y1 ik2 ek2 dX6_image_18 ?_
    refine e_iastK ia_Y2 ik2 ek2 dX6_image_19 ?_
    refine lv1 (P := fun M3 => Ev (wY, z) mtX6_image 0 0 20 [some (.ref 0), some (.int a1)] [] M3 Q) h (fun M3 h => ?_)
    refine lv1e h (fun v4 ev4 h => ?_)
    refine e_iinc v4 dX6_image_20 rfl ev4 (by decide) rfl ?_
    refine e_goto 2 dX6_image_23 (by decide) ?_
    refine e_forget [some (.ref 0), some (.int v4)] (leL_s (leL_s leL_0)) ?_
    have h := ok_some h
    exact h
theorem elX6_image_l2 {z : Zt} {Q : Option Value → Me → Prop} (N : Nat) (s : Int32 × Me) (h : ok (lp (fpX6_image_l2) N s) (XX6_image_2 z Q)) : EX6_image_2 z Q s :=
  lp_ind (fun s h => ebX6_image_l2s s.1 s.2 h) N s h
def fpX6_image  (M : Me) : Option (Int32 × Me) := (lp (fpX6_image_l2) FU ((0 : Int32), M)).bind fun r5 =>
 letv (wrM r5 0 4 (1 : Int32)) fun M6 =>
 some ((1 : Int32), M6)
set_option maxRecDepth 20000 in
theorem ctX6_image {z : Zt} {M : Me} {Q : Option Value → Me → Prop}   (h : ok (fpX6_image M) (fun a => Q (some (.int a.1)) a.2)) : EvM (wY, z) mtX6_image 0 0 [.ref 0] M Q := by
  refine evm_of [some (.ref 0), none] 1 (by decide +kernel) (Nat.le_of_ble_eq_true rfl) rfl ?_
  unfold fpX6_image at h
  refine e_iconst (0 : Int32) dX6_image_0 (by decide) ?_
  refine e_istore_n dX6_image_1 (by decide) rfl ?_
  refine e_forget [some (.ref 0), some (.int (0 : Int32))] (leL_s (leL_s leL_0)) ?_
  refine elX6_image_l2 FU ((0 : Int32), M) (ok_bnd h (fun r5 h => ?_))
  show Ev (wY, z) mtX6_image 0 0 26 [some (.ref 0), none] [] r5 Q
  refine e_aload_n dX6_image_26 rfl ?_
  refine e_iconst (1 : Int32) dX6_image_27 (by decide) ?_
  refine e_putZ fw_RX6_310 is_Y0 (Or.inr rfl) dX6_image_28 ?_
  refine lv1 (P := fun M6 => Ev (wY, z) mtX6_image 0 0 31 [some (.ref 0), none] [] M6 Q) h (fun M6 h => ?_)
  refine e_iconst (1 : Int32) dX6_image_31 (by decide) ?_
  have h := ok_some h
  exact e_iret rfl dX6_image_32 h
def XX6_undo_16 (z : Zt) (Q : Option Value → Me → Prop) : (Me) → Prop := fun t => Ev (wY, z) mtX6_undo 1 21 40 [some (.ref 0), none] [] t Q
def EX6_undo_16 (z : Zt) (Q : Option Value → Me → Prop) : (Int32 × Me) → Prop := fun s => Ev (wY, z) mtX6_undo 1 21 16 [some (.ref 0), some (.int s.1)] [] s.2 Q
def GX6_undo_16 (z : Zt) (Q : Option Value → Me → Prop) : (Int32 × Me) ⊕ (Me) → Prop := Sum.elim (EX6_undo_16 z Q) (XX6_undo_16 z Q)
def fpX6_undo_l16s (a1 : Int32) (M : Me) : Option ((Int32 × Me) ⊕ (Me)) := (if (70 : Int32) ≤ a1 then
 some (.inr M)
 else
 (inb a1 70).bind fun k3 =>
 letv (wrM M 1 k3 (M.1 2 k3)) fun M4 =>
 letv (a1 + (1 : Int32)) fun v5 =>
 some (.inl (v5, M4)))
def fpX6_undo_l16 (s : Int32 × Me) : Option ((Int32 × Me) ⊕ (Me)) := fpX6_undo_l16s s.1 s.2
set_option maxRecDepth 20000 in
theorem ebX6_undo_l16s {z : Zt} {Q : Option Value → Me → Prop} (a1 : Int32) (M : Me) (h : ok (fpX6_undo_l16s a1 M) (GX6_undo_16 z Q)) : Ev (wY, z) mtX6_undo 1 21 16 [some (.ref 0), some (.int a1)] [] M Q := by
  unfold fpX6_undo_l16s at h
  refine e_iload_n dX6_undo_16 rfl ?_
  refine e_bipush (70 : Int32) dX6_undo_17 (by decide) ?_
  refine e_icmp_ge 40 dX6_undo_19 (by decide) (fun c2 => ?_) (fun c2 => ?_)
  · have h := ok_t c2 h
    refine e_forget [some (.ref 0), none] (leL_s (leL_n leL_0)) ?_
    have h := ok_some h
    exact h
  · have h := ok_f c2 h
    refine e_aload_n dX6_undo_22 rfl ?_
    refine e_getR fa_RX6_7 is_Y0 rfl dX6_undo_23 ?_
    refine e_iload_n dX6_undo_26 rfl ?_
    refine e_aload_n dX6_undo_27 rfl ?_
    refine e_getR fa_RX6_13 is_Y0 rfl dX6_undo_28 ?_
    refine e_iload_n dX6_undo_31 rfl ?_
    refine ok_inb h (fun k3 ek3 ik3 h => ?_)
    refine e_ialdK ia_Y2 ik3 ek3 dX6_undo_32 ?_
    refine e_iastK ia_Y1 ik3 ek3 dX6_undo_33 ?_
    refine lv1 (P := fun M4 => Ev (wY, z) mtX6_undo 1 21 34 [some (.ref 0), some (.int a1)] [] M4 Q) h (fun M4 h => ?_)
    refine lv1e h (fun v5 ev5 h => ?_)
    refine e_iinc v5 dX6_undo_34 rfl ev5 (by decide) rfl ?_
    refine e_goto 16 dX6_undo_37 (by decide) ?_
    refine e_forget [some (.ref 0), some (.int v5)] (leL_s (leL_s leL_0)) ?_
    have h := ok_some h
    exact h
theorem elX6_undo_l16 {z : Zt} {Q : Option Value → Me → Prop} (N : Nat) (s : Int32 × Me) (h : ok (lp (fpX6_undo_l16) N s) (XX6_undo_16 z Q)) : EX6_undo_16 z Q s :=
  lp_ind (fun s h => ebX6_undo_l16s s.1 s.2 h) N s h
def fpX6_undo  (M : Me) : Option (Int32 × Me) := (if (M.1 0 4) = 0 then
 (fpX6_finds (-1000004 : Int32) M).bind fun q7 =>
 some (q7.1, q7.2)
 else
 (lp (fpX6_undo_l16) FU ((0 : Int32), M)).bind fun r6 =>
 some ((r6.1 1 0), r6))
set_option maxRecDepth 20000 in
theorem ctX6_undo {z : Zt} {M : Me} {Q : Option Value → Me → Prop}   (h : ok (fpX6_undo M) (fun a => Q (some (.int a.1)) a.2)) : EvM (wY, z) mtX6_undo 1 21 [.ref 0] M Q := by
  refine evm_of [some (.ref 0), none] 1 (by decide +kernel) (Nat.le_of_ble_eq_true rfl) rfl ?_
  unfold fpX6_undo at h
  refine e_aload_n dX6_undo_0 rfl ?_
  refine e_getI fa_RX6_310 is_Y0 dX6_undo_1 ?_
  refine e_if_ne 14 dX6_undo_4 (by decide) (fun c1 => ?_) (fun c1 => ?_)
  · have h := ok_f c1 h
    refine e_iconst (0 : Int32) dX6_undo_14 (by decide) ?_
    refine e_istore_n dX6_undo_15 (by decide) rfl ?_
    refine e_forget [some (.ref 0), some (.int (0 : Int32))] (leL_s (leL_s leL_0)) ?_
    refine elX6_undo_l16 FU ((0 : Int32), M) (ok_bnd h (fun r6 h => ?_))
    show Ev (wY, z) mtX6_undo 1 21 40 [some (.ref 0), none] [] r6 Q
    refine e_aload_n dX6_undo_40 rfl ?_
    refine e_getR fa_RX6_7 is_Y0 rfl dX6_undo_41 ?_
    refine e_iconst (0 : Int32) dX6_undo_44 (by decide) ?_
    refine e_ialdK ia_Y1 (by unfold vp_in; decide) (q := 0) (by decide) dX6_undo_45 ?_
    have h := ok_some h
    exact e_iret rfl dX6_undo_46 h
  · have h := ok_t c1 h
    refine e_aload_n dX6_undo_7 rfl ?_
    refine e_ldc wk_RX6_172 dX6_undo_8 ?_
    refine e_callV (f2 := 0) (l2 := 0) (ν := mtX6_finds) (as := [.int (-1000004 : Int32)]) cv_RX6_81 is_Y0 kc_7 ⟨Nat.le_of_ble_eq_true rfl, Nat.le_of_ble_eq_true rfl⟩ rfl rfl (Nat.le_of_ble_eq_true rfl) dX6_undo_10 ?_
    refine ctX6_finds (-1000004 : Int32) (ok_bnd h (fun q7 h => ?_))
    show Ev (wY, z) mtX6_undo 1 21 13 [some (.ref 0), none] [.int q7.1] q7.2 Q
    have h := ok_some h
    exact e_iret rfl dX6_undo_13 h
def fpX6_tear_b12 (t0 : Int32) (M : Me) : Option (Int32 × Me) := letv (wrM M 0 4 (0 : Int32)) fun M2 =>
 some (t0, M2)
set_option maxRecDepth 20000 in
theorem ebX6_tear_b12 {z : Zt} {Q : Option Value → Me → Prop} (t0 : Int32) (M : Me) (h : ok (fpX6_tear_b12 t0 M) (fun a => Q (some (.int a.1)) a.2)) : Ev (wY, z) mtX6_tear 0 0 12 [some (.ref 0), none] [.int t0] M Q := by
  unfold fpX6_tear_b12 at h
  refine e_istore_n dX6_tear_12 (by decide) rfl ?_
  refine e_aload_n dX6_tear_13 rfl ?_
  refine e_iconst (0 : Int32) dX6_tear_14 (by decide) ?_
  refine e_putZ fw_RX6_310 is_Y0 (Or.inl rfl) dX6_tear_15 ?_
  refine lv1 (P := fun M2 => Ev (wY, z) mtX6_tear 0 0 18 [some (.ref 0), some (.int t0)] [] M2 Q) h (fun M2 h => ?_)
  refine e_iload_n dX6_tear_18 rfl ?_
  have h := ok_some h
  exact e_iret rfl dX6_tear_19 h
def fpX6_tear  (M : Me) : Option (Int32 × Me) := (if (M.1 0 4) = 0 then
 fpX6_tear_b12 (0 : Int32) M
 else
 fpX6_tear_b12 (1 : Int32) M)
set_option maxRecDepth 20000 in
theorem ctX6_tear {z : Zt} {M : Me} {Q : Option Value → Me → Prop}   (h : ok (fpX6_tear M) (fun a => Q (some (.int a.1)) a.2)) : EvM (wY, z) mtX6_tear 0 0 [.ref 0] M Q := by
  refine evm_of [some (.ref 0), none] 1 (by decide +kernel) (Nat.le_of_ble_eq_true rfl) rfl ?_
  unfold fpX6_tear at h
  refine e_aload_n dX6_tear_0 rfl ?_
  refine e_getI fa_RX6_310 is_Y0 dX6_tear_1 ?_
  refine e_if_eq 11 dX6_tear_4 (by decide) (fun c1 => ?_) (fun c1 => ?_)
  · have h := ok_t c1 h
    refine e_iconst (0 : Int32) dX6_tear_11 (by decide) ?_
    refine e_forget [some (.ref 0), none] (leL_s (leL_n leL_0)) ?_
    exact ebX6_tear_b12 (0 : Int32) M h
  · have h := ok_f c1 h
    refine e_iconst (1 : Int32) dX6_tear_7 (by decide) ?_
    refine e_goto 12 dX6_tear_8 (by decide) ?_
    refine e_forget [some (.ref 0), none] (leL_s (leL_n leL_0)) ?_
    exact ebX6_tear_b12 (1 : Int32) M h
def XX6_sumOf_4 (z : Zt) (a1 : Int32) (M : Me) (Q : Option Value → Me → Prop) : (Int32) → Prop := fun t => Ev (wY, z) mtX6_sumOf 4 89 57 [none, none, some (.int t), none] [] M Q
def EX6_sumOf_4 (z : Zt) (a1 : Int32) (M : Me) (Q : Option Value → Me → Prop) : (Int32 × Int32) → Prop := fun s => Ev (wY, z) mtX6_sumOf 4 89 4 [some (.ref 0), some (.int a1), some (.int s.1), some (.int s.2)] [] M Q
def GX6_sumOf_4 (z : Zt) (a1 : Int32) (M : Me) (Q : Option Value → Me → Prop) : (Int32 × Int32) ⊕ (Int32) → Prop := Sum.elim (EX6_sumOf_4 z a1 M Q) (XX6_sumOf_4 z a1 M Q)
def fpX6_sumOf_l4s (a1 : Int32) (a2 : Int32) (a3 : Int32) (M : Me) : Option ((Int32 × Int32) ⊕ (Int32)) := (if (M.1 1 0) ≤ a3 then
 some (.inr a2)
 else
 (if (6 : Int32) ≤ a1 then
 (if a1 = (6 : Int32) then
 (fpX6_yieldOf a3 M).bind fun v7 =>
 letv (a2 + v7) fun v8 =>
 letv (a3 + (1 : Int32)) fun v9 =>
 some (.inl (v8, v9))
 else
 (fpX6_needOf a3 M).bind fun v4 =>
 letv (a2 + v4) fun v5 =>
 letv (a3 + (1 : Int32)) fun v6 =>
 some (.inl (v5, v6)))
 else
 (fpX6_its a3 a1 M).bind fun v10 =>
 letv (a2 + v10) fun v11 =>
 letv (a3 + (1 : Int32)) fun v12 =>
 some (.inl (v11, v12))))
def fpX6_sumOf_l4 (a1 : Int32) (M : Me) (s : Int32 × Int32) : Option ((Int32 × Int32) ⊕ (Int32)) := fpX6_sumOf_l4s a1 s.1 s.2 M
set_option maxRecDepth 20000 in
theorem ebX6_sumOf_l4s {z : Zt} {Q : Option Value → Me → Prop} (a1 : Int32) (a2 : Int32) (a3 : Int32) (M : Me) (h : ok (fpX6_sumOf_l4s a1 a2 a3 M) (GX6_sumOf_4 z a1 M Q)) : Ev (wY, z) mtX6_sumOf 4 89 4 [some (.ref 0), some (.int a1), some (.int a2), some (.int a3)] [] M Q := by
  unfold fpX6_sumOf_l4s at h
  refine e_iload_n dX6_sumOf_4 rfl ?_
  refine e_aload_n dX6_sumOf_5 rfl ?_
  refine e_getR fa_RX6_7 is_Y0 rfl dX6_sumOf_6 ?_
  refine e_iconst (0 : Int32) dX6_sumOf_9 (by decide) ?_
  refine e_ialdK ia_Y1 (by unfold vp_in; decide) (q := 0) (by decide) dX6_sumOf_10 ?_
  refine e_icmp_ge 57 dX6_sumOf_11 (by decide) (fun c1 => ?_) (fun c1 => ?_)
  · have h := ok_t c1 h
    refine e_forget [none, none, some (.int a2), none] (leL_n (leL_n (leL_s (leL_n leL_0)))) ?_
    have h := ok_some h
    exact h
  · have h := ok_f c1 h
    refine e_iload_n dX6_sumOf_14 rfl ?_
    refine e_iload_n dX6_sumOf_15 rfl ?_
    refine e_bipush (6 : Int32) dX6_sumOf_16 (by decide) ?_
    refine e_icmp_ge 30 dX6_sumOf_18 (by decide) (fun c2 => ?_) (fun c2 => ?_)
    · have h := ok_t c2 h
      refine e_iload_n dX6_sumOf_30 rfl ?_
      refine e_bipush (6 : Int32) dX6_sumOf_31 (by decide) ?_
      refine e_icmp_ne 44 dX6_sumOf_33 (by decide) (fun c3 => ?_) (fun c3 => ?_)
      · have h := ok_f c3 h
        refine e_aload_n dX6_sumOf_44 rfl ?_
        refine e_iload_n dX6_sumOf_45 rfl ?_
        refine e_callV (f2 := 3) (l2 := 66) (ν := mtX6_needOf) (as := [.int a3]) cv_RX6_104 is_Y0 kc_7 ⟨Nat.le_of_ble_eq_true rfl, Nat.le_of_ble_eq_true rfl⟩ rfl rfl (Nat.le_of_ble_eq_true rfl) dX6_sumOf_46 ?_
        refine ctX6_needOf a3 (ok_bnd h (fun v4 h => ?_))
        show Ev (wY, z) mtX6_sumOf 4 89 49 [some (.ref 0), some (.int a1), some (.int a2), some (.int a3)] [.int v4, .int a2] M Q
        refine e_iadd dX6_sumOf_49 ?_
        refine lv1 (P := fun v5 => Ev (wY, z) mtX6_sumOf 4 89 50 [some (.ref 0), some (.int a1), some (.int a2), some (.int a3)] [.int v5] M Q) h (fun v5 h => ?_)
        refine e_istore_n dX6_sumOf_50 (by decide) rfl ?_
        refine lv1e h (fun v6 ev6 h => ?_)
        refine e_iinc v6 dX6_sumOf_51 rfl ev6 (by decide) rfl ?_
        refine e_goto 4 dX6_sumOf_54 (by decide) ?_
        refine e_forget [some (.ref 0), some (.int a1), some (.int v5), some (.int v6)] (leL_s (leL_s (leL_s (leL_s leL_0)))) ?_
        have h := ok_some h
        exact h
      · have h := ok_t c3 h
        refine e_aload_n dX6_sumOf_36 rfl ?_
        refine e_iload_n dX6_sumOf_37 rfl ?_
        refine e_callV (f2 := 2) (l2 := 43) (ν := mtX6_yieldOf) (as := [.int a3]) cv_RX6_96 is_Y0 kc_7 ⟨Nat.le_of_ble_eq_true rfl, Nat.le_of_ble_eq_true rfl⟩ rfl rfl (Nat.le_of_ble_eq_true rfl) dX6_sumOf_38 ?_
        refine ctX6_yieldOf a3 (ok_bnd h (fun v7 h => ?_))
        show Ev (wY, z) mtX6_sumOf 4 89 41 [some (.ref 0), some (.int a1), some (.int a2), some (.int a3)] [.int v7, .int a2] M Q
        refine e_goto 49 dX6_sumOf_41 (by decide) ?_
        refine e_iadd dX6_sumOf_49 ?_
        refine lv1 (P := fun v8 => Ev (wY, z) mtX6_sumOf 4 89 50 [some (.ref 0), some (.int a1), some (.int a2), some (.int a3)] [.int v8] M Q) h (fun v8 h => ?_)
        refine e_istore_n dX6_sumOf_50 (by decide) rfl ?_
        refine lv1e h (fun v9 ev9 h => ?_)
        refine e_iinc v9 dX6_sumOf_51 rfl ev9 (by decide) rfl ?_
        refine e_goto 4 dX6_sumOf_54 (by decide) ?_
        refine e_forget [some (.ref 0), some (.int a1), some (.int v8), some (.int v9)] (leL_s (leL_s (leL_s (leL_s leL_0)))) ?_
        have h := ok_some h
        exact h
    · have h := ok_f c2 h
      refine e_aload_n dX6_sumOf_21 rfl ?_
      refine e_iload_n dX6_sumOf_22 rfl ?_
      refine e_iload_n dX6_sumOf_23 rfl ?_
      refine e_callV (f2 := 1) (l2 := 21) (ν := mtX6_its) (as := [.int a3, .int a1]) cv_RX6_90 is_Y0 kc_7 ⟨Nat.le_of_ble_eq_true rfl, Nat.le_of_ble_eq_true rfl⟩ rfl rfl (Nat.le_of_ble_eq_true rfl) dX6_sumOf_24 ?_
      refine ctX6_its a3 a1 (ok_bnd h (fun v10 h => ?_))
      show Ev (wY, z) mtX6_sumOf 4 89 27 [some (.ref 0), some (.int a1), some (.int a2), some (.int a3)] [.int v10, .int a2] M Q
      refine e_goto 49 dX6_sumOf_27 (by decide) ?_
      refine e_iadd dX6_sumOf_49 ?_
      refine lv1 (P := fun v11 => Ev (wY, z) mtX6_sumOf 4 89 50 [some (.ref 0), some (.int a1), some (.int a2), some (.int a3)] [.int v11] M Q) h (fun v11 h => ?_)
      refine e_istore_n dX6_sumOf_50 (by decide) rfl ?_
      refine lv1e h (fun v12 ev12 h => ?_)
      refine e_iinc v12 dX6_sumOf_51 rfl ev12 (by decide) rfl ?_
      refine e_goto 4 dX6_sumOf_54 (by decide) ?_
      refine e_forget [some (.ref 0), some (.int a1), some (.int v11), some (.int v12)] (leL_s (leL_s (leL_s (leL_s leL_0)))) ?_
      have h := ok_some h
      exact h
theorem elX6_sumOf_l4 {z : Zt} {Q : Option Value → Me → Prop} (a1 : Int32) (M : Me) (N : Nat) (s : Int32 × Int32) (h : ok (lp (fpX6_sumOf_l4 a1 M) N s) (XX6_sumOf_4 z a1 M Q)) : EX6_sumOf_4 z a1 M Q s :=
  lp_ind (fun s h => ebX6_sumOf_l4s a1 s.1 s.2 M h) N s h
def fpX6_sumOf (a1 : Int32) (M : Me) : Option (Int32) := (lp (fpX6_sumOf_l4 a1 M) FU ((0 : Int32), (0 : Int32))).bind fun r13 =>
 some r13
set_option maxRecDepth 20000 in
theorem ctX6_sumOf {z : Zt} {M : Me} {Q : Option Value → Me → Prop} (a1 : Int32)  (h : ok (fpX6_sumOf a1 M) (fun a => Q (some (.int a)) M)) : EvM (wY, z) mtX6_sumOf 4 89 [.ref 0, .int a1] M Q := by
  refine evm_of [some (.ref 0), some (.int a1), none, none] 2 (by decide +kernel) (Nat.le_of_ble_eq_true rfl) rfl ?_
  unfold fpX6_sumOf at h
  refine e_iconst (0 : Int32) dX6_sumOf_0 (by decide) ?_
  refine e_istore_n dX6_sumOf_1 (by decide) rfl ?_
  refine e_iconst (0 : Int32) dX6_sumOf_2 (by decide) ?_
  refine e_istore_n dX6_sumOf_3 (by decide) rfl ?_
  refine e_forget [some (.ref 0), some (.int a1), some (.int (0 : Int32)), some (.int (0 : Int32))] (leL_s (leL_s (leL_s (leL_s leL_0)))) ?_
  refine elX6_sumOf_l4 a1 M FU ((0 : Int32), (0 : Int32)) (ok_bnd h (fun r13 h => ?_))
  show Ev (wY, z) mtX6_sumOf 4 89 57 [none, none, some (.int r13), none] [] M Q
  refine e_iload_n dX6_sumOf_57 rfl ?_
  have h := ok_some h
  exact e_iret rfl dX6_sumOf_58 h
def XX6_held_4 (z : Zt) (M : Me) (Q : Option Value → Me → Prop) : (Int32) → Prop := fun t => Ev (wY, z) mtX6_held 0 0 36 [none, some (.int t), none] [] M Q
def EX6_held_4 (z : Zt) (M : Me) (Q : Option Value → Me → Prop) : (Int32 × Int32) → Prop := fun s => Ev (wY, z) mtX6_held 0 0 4 [some (.ref 0), some (.int s.1), some (.int s.2)] [] M Q
def GX6_held_4 (z : Zt) (M : Me) (Q : Option Value → Me → Prop) : (Int32 × Int32) ⊕ (Int32) → Prop := Sum.elim (EX6_held_4 z M Q) (XX6_held_4 z M Q)
def fpX6_held_l4s (a1 : Int32) (a2 : Int32) (M : Me) : Option ((Int32 × Int32) ⊕ (Int32)) := (if (10 : Int32) ≤ a2 then
 some (.inr a1)
 else
 (inb ((60 : Int32) + a2) 70).bind fun k2 =>
 (if 0 ≤ (M.1 1 k2) then
 letv (a1 + (1 : Int32)) fun v4 =>
 letv (a2 + (1 : Int32)) fun v5 =>
 some (.inl (v4, v5))
 else
 letv (a1 + (0 : Int32)) fun v6 =>
 letv (a2 + (1 : Int32)) fun v7 =>
 some (.inl (v6, v7))))
def fpX6_held_l4 (M : Me) (s : Int32 × Int32) : Option ((Int32 × Int32) ⊕ (Int32)) := fpX6_held_l4s s.1 s.2 M
set_option maxRecDepth 20000 in
theorem ebX6_held_l4s {z : Zt} {Q : Option Value → Me → Prop} (a1 : Int32) (a2 : Int32) (M : Me) (h : ok (fpX6_held_l4s a1 a2 M) (GX6_held_4 z M Q)) : Ev (wY, z) mtX6_held 0 0 4 [some (.ref 0), some (.int a1), some (.int a2)] [] M Q := by
  unfold fpX6_held_l4s at h
  refine e_iload_n dX6_held_4 rfl ?_
  refine e_bipush (10 : Int32) dX6_held_5 (by decide) ?_
  refine e_icmp_ge 36 dX6_held_7 (by decide) (fun c1 => ?_) (fun c1 => ?_)
  · have h := ok_t c1 h
    refine e_forget [none, some (.int a1), none] (leL_n (leL_s (leL_n leL_0))) ?_
    have h := ok_some h
    exact h
  · have h := ok_f c1 h
    refine e_iload_n dX6_held_10 rfl ?_
    refine e_aload_n dX6_held_11 rfl ?_
    refine e_getR fa_RX6_7 is_Y0 rfl dX6_held_12 ?_
    refine e_bipush (60 : Int32) dX6_held_15 (by decide) ?_
    refine e_iload_n dX6_held_17 rfl ?_
    refine e_iadd dX6_held_18 ?_
    refine ok_inb h (fun k2 ek2 ik2 h => ?_)
    refine e_ialdK ia_Y1 ik2 ek2 dX6_held_19 ?_
    refine e_if_ge 27 dX6_held_20 (by decide) (fun c3 => ?_) (fun c3 => ?_)
    · have h := ok_t c3 h
      refine e_iconst (1 : Int32) dX6_held_27 (by decide) ?_
      refine e_iadd dX6_held_28 ?_
      refine lv1 (P := fun v4 => Ev (wY, z) mtX6_held 0 0 29 [some (.ref 0), some (.int a1), some (.int a2)] [.int v4] M Q) h (fun v4 h => ?_)
      refine e_istore_n dX6_held_29 (by decide) rfl ?_
      refine lv1e h (fun v5 ev5 h => ?_)
      refine e_iinc v5 dX6_held_30 rfl ev5 (by decide) rfl ?_
      refine e_goto 4 dX6_held_33 (by decide) ?_
      refine e_forget [some (.ref 0), some (.int v4), some (.int v5)] (leL_s (leL_s (leL_s leL_0))) ?_
      have h := ok_some h
      exact h
    · have h := ok_f c3 h
      refine e_iconst (0 : Int32) dX6_held_23 (by decide) ?_
      refine e_goto 28 dX6_held_24 (by decide) ?_
      refine e_iadd dX6_held_28 ?_
      refine lv1 (P := fun v6 => Ev (wY, z) mtX6_held 0 0 29 [some (.ref 0), some (.int a1), some (.int a2)] [.int v6] M Q) h (fun v6 h => ?_)
      refine e_istore_n dX6_held_29 (by decide) rfl ?_
      refine lv1e h (fun v7 ev7 h => ?_)
      refine e_iinc v7 dX6_held_30 rfl ev7 (by decide) rfl ?_
      refine e_goto 4 dX6_held_33 (by decide) ?_
      refine e_forget [some (.ref 0), some (.int v6), some (.int v7)] (leL_s (leL_s (leL_s leL_0))) ?_
      have h := ok_some h
      exact h
theorem elX6_held_l4 {z : Zt} {Q : Option Value → Me → Prop} (M : Me) (N : Nat) (s : Int32 × Int32) (h : ok (lp (fpX6_held_l4 M) N s) (XX6_held_4 z M Q)) : EX6_held_4 z M Q s :=
  lp_ind (fun s h => ebX6_held_l4s s.1 s.2 M h) N s h
def fpX6_held  (M : Me) : Option (Int32) := (lp (fpX6_held_l4 M) FU ((0 : Int32), (0 : Int32))).bind fun r8 =>
 some r8
set_option maxRecDepth 20000 in
theorem ctX6_held {z : Zt} {M : Me} {Q : Option Value → Me → Prop}   (h : ok (fpX6_held M) (fun a => Q (some (.int a)) M)) : EvM (wY, z) mtX6_held 0 0 [.ref 0] M Q := by
  refine evm_of [some (.ref 0), none, none] 2 (by decide +kernel) (Nat.le_of_ble_eq_true rfl) rfl ?_
  unfold fpX6_held at h
  refine e_iconst (0 : Int32) dX6_held_0 (by decide) ?_
  refine e_istore_n dX6_held_1 (by decide) rfl ?_
  refine e_iconst (0 : Int32) dX6_held_2 (by decide) ?_
  refine e_istore_n dX6_held_3 (by decide) rfl ?_
  refine e_forget [some (.ref 0), some (.int (0 : Int32)), some (.int (0 : Int32))] (leL_s (leL_s (leL_s leL_0))) ?_
  refine elX6_held_l4 M FU ((0 : Int32), (0 : Int32)) (ok_bnd h (fun r8 h => ?_))
  show Ev (wY, z) mtX6_held 0 0 36 [none, some (.int r8), none] [] M Q
  refine e_iload_n dX6_held_36 rfl ?_
  have h := ok_some h
  exact e_iret rfl dX6_held_37 h
def fpX6_count (a1 : Int32) (M : Me) : Option (Int32 × Me) := (if a1 = (0 : Int32) then
 some ((M.1 1 0), M)
 else
 (if a1 = (1 : Int32) then
 (fpX6_sumOf (5 : Int32) M).bind fun v3 =>
 some (v3, M)
 else
 (if a1 = (2 : Int32) then
 (fpX6_sumOf (4 : Int32) M).bind fun v5 =>
 some (v5, M)
 else
 (if a1 = (3 : Int32) then
 (fpX6_sumOf (6 : Int32) M).bind fun v7 =>
 some (v7, M)
 else
 (if a1 = (4 : Int32) then
 (fpX6_sumOf (7 : Int32) M).bind fun v9 =>
 some (v9, M)
 else
 (if a1 = (5 : Int32) then
 some ((M.1 0 15), M)
 else
 (if a1 = (6 : Int32) then
 some ((M.1 1 1), M)
 else
 (if a1 = (7 : Int32) then
 (fpX6_held M).bind fun v13 =>
 some (v13, M)
 else
 (fpX6_finds (-1000001 : Int32) M).bind fun q14 =>
 some (q14.1, q14.2)))))))))
set_option maxRecDepth 20000 in
theorem ctX6_count {z : Zt} {M : Me} {Q : Option Value → Me → Prop} (a1 : Int32)  (h : ok (fpX6_count a1 M) (fun a => Q (some (.int a.1)) a.2)) : EvM (wY, z) mtX6_count 5 112 [.ref 0, .int a1] M Q := by
  refine evm_of [some (.ref 0), some (.int a1)] 0 (by decide +kernel) (Nat.le_of_ble_eq_true rfl) rfl ?_
  unfold fpX6_count at h
  refine e_iload_n dX6_count_0 rfl ?_
  by_cases c1 : a1 = (0 : Int32)
  · refine e_tswC (0 : Int32) 48 c1 dX6_count_1 (by decide) (by decide) rfl (by decide) ?_
    have h := ok_t c1 h
    refine e_aload_n dX6_count_48 rfl ?_
    refine e_getR fa_RX6_7 is_Y0 rfl dX6_count_49 ?_
    refine e_iconst (0 : Int32) dX6_count_52 (by decide) ?_
    refine e_ialdK ia_Y1 (by unfold vp_in; decide) (q := 0) (by decide) dX6_count_53 ?_
    have h := ok_some h
    exact e_iret rfl dX6_count_54 h
  · have h := ok_f c1 h
    by_cases c2 : a1 = (1 : Int32)
    · refine e_tswC (1 : Int32) 55 c2 dX6_count_1 (by decide) (by decide) rfl (by decide) ?_
      have h := ok_t c2 h
      refine e_aload_n dX6_count_55 rfl ?_
      refine e_iconst (5 : Int32) dX6_count_56 (by decide) ?_
      refine e_callV (f2 := 4) (l2 := 89) (ν := mtX6_sumOf) (as := [.int (5 : Int32)]) cv_RX6_313 is_Y0 kc_7 ⟨Nat.le_of_ble_eq_true rfl, Nat.le_of_ble_eq_true rfl⟩ rfl rfl (Nat.le_of_ble_eq_true rfl) dX6_count_57 ?_
      refine ctX6_sumOf (5 : Int32) (ok_bnd h (fun v3 h => ?_))
      show Ev (wY, z) mtX6_count 5 112 60 [some (.ref 0), some (.int a1)] [.int v3] M Q
      have h := ok_some h
      exact e_iret rfl dX6_count_60 h
    · have h := ok_f c2 h
      by_cases c4 : a1 = (2 : Int32)
      · refine e_tswC (2 : Int32) 61 c4 dX6_count_1 (by decide) (by decide) rfl (by decide) ?_
        have h := ok_t c4 h
        refine e_aload_n dX6_count_61 rfl ?_
        refine e_iconst (4 : Int32) dX6_count_62 (by decide) ?_
        refine e_callV (f2 := 4) (l2 := 89) (ν := mtX6_sumOf) (as := [.int (4 : Int32)]) cv_RX6_313 is_Y0 kc_7 ⟨Nat.le_of_ble_eq_true rfl, Nat.le_of_ble_eq_true rfl⟩ rfl rfl (Nat.le_of_ble_eq_true rfl) dX6_count_63 ?_
        refine ctX6_sumOf (4 : Int32) (ok_bnd h (fun v5 h => ?_))
        show Ev (wY, z) mtX6_count 5 112 66 [some (.ref 0), some (.int a1)] [.int v5] M Q
        have h := ok_some h
        exact e_iret rfl dX6_count_66 h
      · have h := ok_f c4 h
        by_cases c6 : a1 = (3 : Int32)
        · refine e_tswC (3 : Int32) 67 c6 dX6_count_1 (by decide) (by decide) rfl (by decide) ?_
          have h := ok_t c6 h
          refine e_aload_n dX6_count_67 rfl ?_
          refine e_bipush (6 : Int32) dX6_count_68 (by decide) ?_
          refine e_callV (f2 := 4) (l2 := 89) (ν := mtX6_sumOf) (as := [.int (6 : Int32)]) cv_RX6_313 is_Y0 kc_7 ⟨Nat.le_of_ble_eq_true rfl, Nat.le_of_ble_eq_true rfl⟩ rfl rfl (Nat.le_of_ble_eq_true rfl) dX6_count_70 ?_
          refine ctX6_sumOf (6 : Int32) (ok_bnd h (fun v7 h => ?_))
          show Ev (wY, z) mtX6_count 5 112 73 [some (.ref 0), some (.int a1)] [.int v7] M Q
          have h := ok_some h
          exact e_iret rfl dX6_count_73 h
        · have h := ok_f c6 h
          by_cases c8 : a1 = (4 : Int32)
          · refine e_tswC (4 : Int32) 74 c8 dX6_count_1 (by decide) (by decide) rfl (by decide) ?_
            have h := ok_t c8 h
            refine e_aload_n dX6_count_74 rfl ?_
            refine e_bipush (7 : Int32) dX6_count_75 (by decide) ?_
            refine e_callV (f2 := 4) (l2 := 89) (ν := mtX6_sumOf) (as := [.int (7 : Int32)]) cv_RX6_313 is_Y0 kc_7 ⟨Nat.le_of_ble_eq_true rfl, Nat.le_of_ble_eq_true rfl⟩ rfl rfl (Nat.le_of_ble_eq_true rfl) dX6_count_77 ?_
            refine ctX6_sumOf (7 : Int32) (ok_bnd h (fun v9 h => ?_))
            show Ev (wY, z) mtX6_count 5 112 80 [some (.ref 0), some (.int a1)] [.int v9] M Q
            have h := ok_some h
            exact e_iret rfl dX6_count_80 h
          · have h := ok_f c8 h
            by_cases c10 : a1 = (5 : Int32)
            · refine e_tswC (5 : Int32) 81 c10 dX6_count_1 (by decide) (by decide) rfl (by decide) ?_
              have h := ok_t c10 h
              refine e_aload_n dX6_count_81 rfl ?_
              refine e_getI fa_RX6_196 is_Y0 dX6_count_82 ?_
              have h := ok_some h
              exact e_iret rfl dX6_count_85 h
            · have h := ok_f c10 h
              by_cases c11 : a1 = (6 : Int32)
              · refine e_tswC (6 : Int32) 86 c11 dX6_count_1 (by decide) (by decide) rfl (by decide) ?_
                have h := ok_t c11 h
                refine e_aload_n dX6_count_86 rfl ?_
                refine e_getR fa_RX6_7 is_Y0 rfl dX6_count_87 ?_
                refine e_iconst (1 : Int32) dX6_count_90 (by decide) ?_
                refine e_ialdK ia_Y1 (by unfold vp_in; decide) (q := 1) (by decide) dX6_count_91 ?_
                have h := ok_some h
                exact e_iret rfl dX6_count_92 h
              · have h := ok_f c11 h
                by_cases c12 : a1 = (7 : Int32)
                · refine e_tswC (7 : Int32) 93 c12 dX6_count_1 (by decide) (by decide) rfl (by decide) ?_
                  have h := ok_t c12 h
                  refine e_aload_n dX6_count_93 rfl ?_
                  refine e_callV (f2 := 0) (l2 := 0) (ν := mtX6_held) (as := []) cv_RX6_316 is_Y0 kc_7 ⟨Nat.le_of_ble_eq_true rfl, Nat.le_of_ble_eq_true rfl⟩ rfl rfl (Nat.le_of_ble_eq_true rfl) dX6_count_94 ?_
                  refine ctX6_held (ok_bnd h (fun v13 h => ?_))
                  show Ev (wY, z) mtX6_count 5 112 97 [some (.ref 0), some (.int a1)] [.int v13] M Q
                  have h := ok_some h
                  exact e_iret rfl dX6_count_97 h
                · have h := ok_f c12 h
                  refine e_tswD 98 dX6_count_1 (by have q0 := lv_neT (a := 0) c1 rfl; have q1 := lv_neT (a := 1) c2 rfl; have q2 := lv_neT (a := 2) c4 rfl; have q3 := lv_neT (a := 3) c6 rfl; have q4 := lv_neT (a := 4) c8 rfl; have q5 := lv_neT (a := 5) c10 rfl; have q6 := lv_neT (a := 6) c11 rfl; have q7 := lv_neT (a := 7) c12 rfl; omega) (by decide) ?_
                  refine e_aload_n dX6_count_98 rfl ?_
                  refine e_ldc wk_RX6_55 dX6_count_99 ?_
                  refine e_callV (f2 := 0) (l2 := 0) (ν := mtX6_finds) (as := [.int (-1000001 : Int32)]) cv_RX6_81 is_Y0 kc_7 ⟨Nat.le_of_ble_eq_true rfl, Nat.le_of_ble_eq_true rfl⟩ rfl rfl (Nat.le_of_ble_eq_true rfl) dX6_count_101 ?_
                  refine ctX6_finds (-1000001 : Int32) (ok_bnd h (fun q14 h => ?_))
                  show Ev (wY, z) mtX6_count 5 112 104 [some (.ref 0), some (.int a1)] [.int q14.1] q14.2 Q
                  have h := ok_some h
                  exact e_iret rfl dX6_count_104 h
def XX6_status_25 (z : Zt) (a1 : Int32) (M : Me) (Q : Option Value → Me → Prop) : (Int32) → Prop := fun t => Ev (wY, z) mtX6_status 1 25 59 [none, none, some (.int t), none] [] M Q
def EX6_status_25 (z : Zt) (a1 : Int32) (M : Me) (Q : Option Value → Me → Prop) : (Int32 × Int32) → Prop := fun s => Ev (wY, z) mtX6_status 1 25 25 [some (.ref 0), some (.int a1), some (.int s.1), some (.int s.2)] [] M Q
def GX6_status_25 (z : Zt) (a1 : Int32) (M : Me) (Q : Option Value → Me → Prop) : (Int32 × Int32) ⊕ (Int32) → Prop := Sum.elim (EX6_status_25 z a1 M Q) (XX6_status_25 z a1 M Q)
def fpX6_status_b41_25 (a1 : Int32) (a3 : Int32) (t0 : Int32) (M : Me) : Option ((Int32 × Int32) ⊕ (Int32)) := (inb a3 7).bind fun k4 =>
 letv (t0 + (M.1 4 k4)) fun v5 =>
 letv (a3 + (1 : Int32)) fun v6 =>
 some (.inl (v5, v6))
set_option maxRecDepth 20000 in
theorem ebX6_status_b41_25 {z : Zt} {Q : Option Value → Me → Prop} (a1 : Int32) (a3 : Int32) (t0 : Int32) (M : Me) (h : ok (fpX6_status_b41_25 a1 a3 t0 M) (GX6_status_25 z a1 M Q)) : Ev (wY, z) mtX6_status 1 25 41 [some (.ref 0), some (.int a1), none, some (.int a3)] [.int t0] M Q := by
  unfold fpX6_status_b41_25 at h
  refine e_aload_n dX6_status_41 rfl ?_
  refine e_getR fa_RX6_19 is_Y0 rfl dX6_status_42 ?_
  refine e_iload_n dX6_status_45 rfl ?_
  refine ok_inb h (fun k4 ek4 ik4 h => ?_)
  refine e_ialdK ia_Y4 ik4 ek4 dX6_status_46 ?_
  refine e_goto 51 dX6_status_47 (by decide) ?_
  refine e_iadd dX6_status_51 ?_
  refine lv1 (P := fun v5 => Ev (wY, z) mtX6_status 1 25 52 [some (.ref 0), some (.int a1), none, some (.int a3)] [.int v5] M Q) h (fun v5 h => ?_)
  refine e_istore_n dX6_status_52 (by decide) rfl ?_
  refine lv1e h (fun v6 ev6 h => ?_)
  refine e_iinc v6 dX6_status_53 rfl ev6 (by decide) rfl ?_
  refine e_goto 25 dX6_status_56 (by decide) ?_
  refine e_forget [some (.ref 0), some (.int a1), some (.int v5), some (.int v6)] (leL_s (leL_s (leL_s (leL_s leL_0)))) ?_
  have h := ok_some h
  exact h
def fpX6_status_l25s (a1 : Int32) (a2 : Int32) (a3 : Int32) (M : Me) : Option ((Int32 × Int32) ⊕ (Int32)) := (if (7 : Int32) ≤ a3 then
 some (.inr a2)
 else
 (if a1 < 0 then
 fpX6_status_b41_25 a1 a3 a2 M
 else
 (if a3 = a1 then
 fpX6_status_b41_25 a1 a3 a2 M
 else
 letv (a2 + (0 : Int32)) fun v8 =>
 letv (a3 + (1 : Int32)) fun v9 =>
 some (.inl (v8, v9)))))
def fpX6_status_l25 (a1 : Int32) (M : Me) (s : Int32 × Int32) : Option ((Int32 × Int32) ⊕ (Int32)) := fpX6_status_l25s a1 s.1 s.2 M
set_option maxRecDepth 20000 in
theorem ebX6_status_l25s {z : Zt} {Q : Option Value → Me → Prop} (a1 : Int32) (a2 : Int32) (a3 : Int32) (M : Me) (h : ok (fpX6_status_l25s a1 a2 a3 M) (GX6_status_25 z a1 M Q)) : Ev (wY, z) mtX6_status 1 25 25 [some (.ref 0), some (.int a1), some (.int a2), some (.int a3)] [] M Q := by
  unfold fpX6_status_l25s at h
  refine e_iload_n dX6_status_25 rfl ?_
  refine e_bipush (7 : Int32) dX6_status_26 (by decide) ?_
  refine e_icmp_ge 59 dX6_status_28 (by decide) (fun c2 => ?_) (fun c2 => ?_)
  · have h := ok_t c2 h
    refine e_forget [none, none, some (.int a2), none] (leL_n (leL_n (leL_s (leL_n leL_0)))) ?_
    have h := ok_some h
    exact h
  · have h := ok_f c2 h
    refine e_iload_n dX6_status_31 rfl ?_
    refine e_iload_n dX6_status_32 rfl ?_
    refine e_if_lt 41 dX6_status_33 (by decide) (fun c3 => ?_) (fun c3 => ?_)
    · have h := ok_t c3 h
      refine e_forget [some (.ref 0), some (.int a1), none, some (.int a3)] (leL_s (leL_s (leL_n (leL_s leL_0)))) ?_
      exact ebX6_status_b41_25 a1 a3 a2 M h
    · have h := ok_f c3 h
      refine e_iload_n dX6_status_36 rfl ?_
      refine e_iload_n dX6_status_37 rfl ?_
      refine e_icmp_ne 50 dX6_status_38 (by decide) (fun c7 => ?_) (fun c7 => ?_)
      · have h := ok_f c7 h
        refine e_iconst (0 : Int32) dX6_status_50 (by decide) ?_
        refine e_iadd dX6_status_51 ?_
        refine lv1 (P := fun v8 => Ev (wY, z) mtX6_status 1 25 52 [some (.ref 0), some (.int a1), some (.int a2), some (.int a3)] [.int v8] M Q) h (fun v8 h => ?_)
        refine e_istore_n dX6_status_52 (by decide) rfl ?_
        refine lv1e h (fun v9 ev9 h => ?_)
        refine e_iinc v9 dX6_status_53 rfl ev9 (by decide) rfl ?_
        refine e_goto 25 dX6_status_56 (by decide) ?_
        refine e_forget [some (.ref 0), some (.int a1), some (.int v8), some (.int v9)] (leL_s (leL_s (leL_s (leL_s leL_0)))) ?_
        have h := ok_some h
        exact h
      · have h := ok_t c7 h
        refine e_forget [some (.ref 0), some (.int a1), none, some (.int a3)] (leL_s (leL_s (leL_n (leL_s leL_0)))) ?_
        exact ebX6_status_b41_25 a1 a3 a2 M h
theorem elX6_status_l25 {z : Zt} {Q : Option Value → Me → Prop} (a1 : Int32) (M : Me) (N : Nat) (s : Int32 × Int32) (h : ok (lp (fpX6_status_l25 a1 M) N s) (XX6_status_25 z a1 M Q)) : EX6_status_25 z a1 M Q s :=
  lp_ind (fun s h => ebX6_status_l25s a1 s.1 s.2 M h) N s h
def fpX6_status (a1 : Int32) (M : Me) : Option (Int32 × Me) := (if (fpX6_in (a1.toInt64) (-1 : Int64) (6 : Int64)) = 0 then
 (fpX6_finds (-1000001 : Int32) M).bind fun q11 =>
 some (q11.1, q11.2)
 else
 (lp (fpX6_status_l25 a1 M) FU ((0 : Int32), (0 : Int32))).bind fun r10 =>
 some (r10, M))
set_option maxRecDepth 20000 in
theorem ctX6_status {z : Zt} {M : Me} {Q : Option Value → Me → Prop} (a1 : Int32)  (h : ok (fpX6_status a1 M) (fun a => Q (some (.int a.1)) a.2)) : EvM (wY, z) mtX6_status 1 25 [.ref 0, .int a1] M Q := by
  refine evm_of [some (.ref 0), some (.int a1), none, none] 2 (by decide +kernel) (Nat.le_of_ble_eq_true rfl) rfl ?_
  unfold fpX6_status at h
  refine e_iload_n dX6_status_0 rfl ?_
  refine e_i2l dX6_status_1 ?_
  refine e_ldc2 wk_RX6_319 dX6_status_2 ?_
  refine e_ldc2 wk_RX6_67 dX6_status_5 ?_
  refine e_callS (f2 := 0) (l2 := 0) (ν := mtX6_in) (as := [.long (a1.toInt64), .long (-1 : Int64), .long (6 : Int64)]) cs_RX6_58 ⟨Nat.le_of_ble_eq_true rfl, Nat.le_of_ble_eq_true rfl⟩ rfl rfl (Nat.le_of_ble_eq_true rfl) dX6_status_8 ?_
  refine ctX6_in (a1.toInt64) (-1 : Int64) (6 : Int64) ?_
  show Ev (wY, z) mtX6_status 1 25 11 [some (.ref 0), some (.int a1), none, none] [.int (fpX6_in (a1.toInt64) (-1 : Int64) (6 : Int64))] M Q
  refine e_if_ne 21 dX6_status_11 (by decide) (fun c1 => ?_) (fun c1 => ?_)
  · have h := ok_f c1 h
    refine e_iconst (0 : Int32) dX6_status_21 (by decide) ?_
    refine e_istore_n dX6_status_22 (by decide) rfl ?_
    refine e_iconst (0 : Int32) dX6_status_23 (by decide) ?_
    refine e_istore_n dX6_status_24 (by decide) rfl ?_
    refine e_forget [some (.ref 0), some (.int a1), some (.int (0 : Int32)), some (.int (0 : Int32))] (leL_s (leL_s (leL_s (leL_s leL_0)))) ?_
    refine elX6_status_l25 a1 M FU ((0 : Int32), (0 : Int32)) (ok_bnd h (fun r10 h => ?_))
    show Ev (wY, z) mtX6_status 1 25 59 [none, none, some (.int r10), none] [] M Q
    refine e_iload_n dX6_status_59 rfl ?_
    have h := ok_some h
    exact e_iret rfl dX6_status_60 h
  · have h := ok_t c1 h
    refine e_aload_n dX6_status_14 rfl ?_
    refine e_ldc wk_RX6_55 dX6_status_15 ?_
    refine e_callV (f2 := 0) (l2 := 0) (ν := mtX6_finds) (as := [.int (-1000001 : Int32)]) cv_RX6_81 is_Y0 kc_7 ⟨Nat.le_of_ble_eq_true rfl, Nat.le_of_ble_eq_true rfl⟩ rfl rfl (Nat.le_of_ble_eq_true rfl) dX6_status_17 ?_
    refine ctX6_finds (-1000001 : Int32) (ok_bnd h (fun q11 h => ?_))
    show Ev (wY, z) mtX6_status 1 25 20 [some (.ref 0), some (.int a1), none, none] [.int q11.1] q11.2 Q
    have h := ok_some h
    exact e_iret rfl dX6_status_20 h
