def XX6_comesWith_24 (z : Zt) (a1 : Int32) (a2 : Int32) (M : Me) (Q : Option Value → Me → Prop) : (Int32) → Prop := fun t => Ev (wY, z) mtX6_comesWith 2 44 125 [none, none, none, none, none, some (.int t), none, none, none] [] M Q
def EX6_comesWith_24 (z : Zt) (a1 : Int32) (a2 : Int32) (M : Me) (Q : Option Value → Me → Prop) : (Int32 × Int32) → Prop := fun s => Ev (wY, z) mtX6_comesWith 2 44 24 [some (.ref 0), some (.int a1), some (.int a2), none, none, some (.int s.1), some (.int s.2), none, none] [] M Q
def GX6_comesWith_24 (z : Zt) (a1 : Int32) (a2 : Int32) (M : Me) (Q : Option Value → Me → Prop) : (Int32 × Int32) ⊕ (Int32) → Prop := Sum.elim (EX6_comesWith_24 z a1 a2 M Q) (XX6_comesWith_24 z a1 a2 M Q)
def fpX6_comesWith_b101_24 (a1 : Int32) (a2 : Int32) (a5 : Int32) (a6 : Int32) (t0 : Int32) (M : Me) : Option ((Int32 × Int32) ⊕ (Int32)) := (if t0 ≤ a5 then
 letv (a6 + (1 : Int32)) fun v9 =>
 some (.inl (a5, v9))
 else
 letv (a6 + (1 : Int32)) fun v10 =>
 some (.inl (t0, v10)))
set_option maxRecDepth 20000 in
theorem ebX6_comesWith_b101_24 {z : Zt} {Q : Option Value → Me → Prop} (a1 : Int32) (a2 : Int32) (a5 : Int32) (a6 : Int32) (t0 : Int32) (M : Me) (h : ok (fpX6_comesWith_b101_24 a1 a2 a5 a6 t0 M) (GX6_comesWith_24 z a1 a2 M Q)) : Ev (wY, z) mtX6_comesWith 2 44 101 [some (.ref 0), some (.int a1), some (.int a2), none, none, some (.int a5), some (.int a6), none, none] [.int t0] M Q := by
  unfold fpX6_comesWith_b101_24 at h
  refine e_istore dX6_comesWith_101 (by decide) rfl ?_
  refine e_iload dX6_comesWith_103 rfl ?_
  refine e_iload dX6_comesWith_105 rfl ?_
  refine e_icmp_le 115 dX6_comesWith_107 (by decide) (fun c8 => ?_) (fun c8 => ?_)
  · have h := ok_t c8 h
    refine e_iload dX6_comesWith_115 rfl ?_
    refine e_istore dX6_comesWith_117 (by decide) rfl ?_
    refine lv1e h (fun v9 ev9 h => ?_)
    refine e_iinc v9 dX6_comesWith_119 rfl ev9 (by decide) rfl ?_
    refine e_goto 24 dX6_comesWith_122 (by decide) ?_
    refine e_forget [some (.ref 0), some (.int a1), some (.int a2), none, none, some (.int a5), some (.int v9), none, none] (leL_s (leL_s (leL_s (leL_n (leL_n (leL_s (leL_s (leL_n (leL_n leL_0))))))))) ?_
    have h := ok_some h
    exact h
  · have h := ok_f c8 h
    refine e_iload dX6_comesWith_110 rfl ?_
    refine e_goto 117 dX6_comesWith_112 (by decide) ?_
    refine e_istore dX6_comesWith_117 (by decide) rfl ?_
    refine lv1e h (fun v10 ev10 h => ?_)
    refine e_iinc v10 dX6_comesWith_119 rfl ev10 (by decide) rfl ?_
    refine e_goto 24 dX6_comesWith_122 (by decide) ?_
    refine e_forget [some (.ref 0), some (.int a1), some (.int a2), none, none, some (.int t0), some (.int v10), none, none] (leL_s (leL_s (leL_s (leL_n (leL_n (leL_s (leL_s (leL_n (leL_n leL_0))))))))) ?_
    have h := ok_some h
    exact h
def fpX6_comesWith_b56_24 (a1 : Int32) (a2 : Int32) (a5 : Int32) (a6 : Int32) (t0 : Int32) (M : Me) : Option ((Int32 × Int32) ⊕ (Int32)) := (if t0 ≤ a5 then
 letv (a6 + (1 : Int32)) fun v5 =>
 some (.inl (a5, v5))
 else
 (inb (((8 : Int32) * a6) + a2) 64).bind fun k6 =>
 (if t0 ≤ (M.1 7 k6) then
 fpX6_comesWith_b101_24 a1 a2 a5 a6 (0 : Int32) M
 else
 fpX6_comesWith_b101_24 a1 a2 a5 a6 (t0 - (M.1 7 k6)) M))
set_option maxRecDepth 20000 in
theorem ebX6_comesWith_b56_24 {z : Zt} {Q : Option Value → Me → Prop} (a1 : Int32) (a2 : Int32) (a5 : Int32) (a6 : Int32) (t0 : Int32) (M : Me) (h : ok (fpX6_comesWith_b56_24 a1 a2 a5 a6 t0 M) (GX6_comesWith_24 z a1 a2 M Q)) : Ev (wY, z) mtX6_comesWith 2 44 56 [some (.ref 0), some (.int a1), some (.int a2), none, none, some (.int a5), some (.int a6), none, none] [.int t0] M Q := by
  unfold fpX6_comesWith_b56_24 at h
  refine e_istore dX6_comesWith_56 (by decide) rfl ?_
  refine e_iload dX6_comesWith_58 rfl ?_
  refine e_iload dX6_comesWith_60 rfl ?_
  refine e_icmp_le 119 dX6_comesWith_62 (by decide) (fun c4 => ?_) (fun c4 => ?_)
  · have h := ok_t c4 h
    refine lv1e h (fun v5 ev5 h => ?_)
    refine e_iinc v5 dX6_comesWith_119 rfl ev5 (by decide) rfl ?_
    refine e_goto 24 dX6_comesWith_122 (by decide) ?_
    refine e_forget [some (.ref 0), some (.int a1), some (.int a2), none, none, some (.int a5), some (.int v5), none, none] (leL_s (leL_s (leL_s (leL_n (leL_n (leL_s (leL_s (leL_n (leL_n leL_0))))))))) ?_
    have h := ok_some h
    exact h
  · have h := ok_f c4 h
    refine e_iload dX6_comesWith_65 rfl ?_
    refine e_aload_n dX6_comesWith_67 rfl ?_
    refine e_getR fa_RX6_28 is_Y0 rfl dX6_comesWith_68 ?_
    refine e_bipush (8 : Int32) dX6_comesWith_71 (by decide) ?_
    refine e_iload dX6_comesWith_73 rfl ?_
    refine e_imul dX6_comesWith_75 ?_
    refine e_iload_n dX6_comesWith_76 rfl ?_
    refine e_iadd dX6_comesWith_77 ?_
    refine ok_inb h (fun k6 ek6 ik6 h => ?_)
    refine e_ialdK ia_Y7 ik6 ek6 dX6_comesWith_78 ?_
    refine e_icmp_le 100 dX6_comesWith_79 (by decide) (fun c7 => ?_) (fun c7 => ?_)
    · have h := ok_t c7 h
      refine e_iconst (0 : Int32) dX6_comesWith_100 (by decide) ?_
      refine e_forget [some (.ref 0), some (.int a1), some (.int a2), none, none, some (.int a5), some (.int a6), none, none] (leL_s (leL_s (leL_s (leL_n (leL_n (leL_s (leL_s (leL_n (leL_n leL_0))))))))) ?_
      exact ebX6_comesWith_b101_24 a1 a2 a5 a6 (0 : Int32) M h
    · have h := ok_f c7 h
      refine e_iload dX6_comesWith_82 rfl ?_
      refine e_aload_n dX6_comesWith_84 rfl ?_
      refine e_getR fa_RX6_28 is_Y0 rfl dX6_comesWith_85 ?_
      refine e_bipush (8 : Int32) dX6_comesWith_88 (by decide) ?_
      refine e_iload dX6_comesWith_90 rfl ?_
      refine e_imul dX6_comesWith_92 ?_
      refine e_iload_n dX6_comesWith_93 rfl ?_
      refine e_iadd dX6_comesWith_94 ?_
      refine e_ialdK ia_Y7 ik6 ek6 dX6_comesWith_95 ?_
      refine e_isub dX6_comesWith_96 ?_
      refine e_goto 101 dX6_comesWith_97 (by decide) ?_
      refine e_forget [some (.ref 0), some (.int a1), some (.int a2), none, none, some (.int a5), some (.int a6), none, none] (leL_s (leL_s (leL_s (leL_n (leL_n (leL_s (leL_s (leL_n (leL_n leL_0))))))))) ?_
      exact ebX6_comesWith_b101_24 a1 a2 a5 a6 (t0 - (M.1 7 k6)) M h
def fpX6_comesWith_l24s (a1 : Int32) (a2 : Int32) (a5 : Int32) (a6 : Int32) (M : Me) : Option ((Int32 × Int32) ⊕ (Int32)) := (if (8 : Int32) ≤ a6 then
 some (.inr a5)
 else
 (if (fpX6_has a1 a6) = 0 then
 fpX6_comesWith_b56_24 a1 a2 a5 a6 (-1 : Int32) M
 else
 (inb (((8 : Int32) * a1) + a6) 2048).bind fun k11 =>
 fpX6_comesWith_b56_24 a1 a2 a5 a6 (M.1 8 k11) M))
def fpX6_comesWith_l24 (a1 : Int32) (a2 : Int32) (M : Me) (s : Int32 × Int32) : Option ((Int32 × Int32) ⊕ (Int32)) := fpX6_comesWith_l24s a1 a2 s.1 s.2 M
set_option maxRecDepth 20000 in
theorem ebX6_comesWith_l24s {z : Zt} {Q : Option Value → Me → Prop} (a1 : Int32) (a2 : Int32) (a5 : Int32) (a6 : Int32) (M : Me) (h : ok (fpX6_comesWith_l24s a1 a2 a5 a6 M) (GX6_comesWith_24 z a1 a2 M Q)) : Ev (wY, z) mtX6_comesWith 2 44 24 [some (.ref 0), some (.int a1), some (.int a2), none, none, some (.int a5), some (.int a6), none, none] [] M Q := by
  unfold fpX6_comesWith_l24s at h
  refine e_iload dX6_comesWith_24 rfl ?_
  refine e_bipush (8 : Int32) dX6_comesWith_26 (by decide) ?_
  refine e_icmp_ge 125 dX6_comesWith_28 (by decide) (fun c2 => ?_) (fun c2 => ?_)
  · have h := ok_t c2 h
    refine e_forget [none, none, none, none, none, some (.int a5), none, none, none] (leL_n (leL_n (leL_n (leL_n (leL_n (leL_s (leL_n (leL_n (leL_n leL_0))))))))) ?_
    have h := ok_some h
    exact h
  · have h := ok_f c2 h
    refine e_iload_n dX6_comesWith_31 rfl ?_
    refine e_iload dX6_comesWith_32 rfl ?_
    refine e_callS (f2 := 0) (l2 := 0) (ν := mtX6_has) (as := [.int a1, .int a6]) cs_RX6_141 ⟨Nat.le_of_ble_eq_true rfl, Nat.le_of_ble_eq_true rfl⟩ rfl rfl (Nat.le_of_ble_eq_true rfl) dX6_comesWith_34 ?_
    refine ctX6_has a1 a6 ?_
    show Ev (wY, z) mtX6_comesWith 2 44 37 [some (.ref 0), some (.int a1), some (.int a2), none, none, some (.int a5), some (.int a6), none, none] [.int (fpX6_has a1 a6)] M Q
    refine e_if_eq 55 dX6_comesWith_37 (by decide) (fun c3 => ?_) (fun c3 => ?_)
    · have h := ok_t c3 h
      refine e_iconst (-1 : Int32) dX6_comesWith_55 (by decide) ?_
      refine e_forget [some (.ref 0), some (.int a1), some (.int a2), none, none, some (.int a5), some (.int a6), none, none] (leL_s (leL_s (leL_s (leL_n (leL_n (leL_s (leL_s (leL_n (leL_n leL_0))))))))) ?_
      exact ebX6_comesWith_b56_24 a1 a2 a5 a6 (-1 : Int32) M h
    · have h := ok_f c3 h
      refine e_aload_n dX6_comesWith_40 rfl ?_
      refine e_getR fa_RX6_31 is_Y0 rfl dX6_comesWith_41 ?_
      refine e_bipush (8 : Int32) dX6_comesWith_44 (by decide) ?_
      refine e_iload_n dX6_comesWith_46 rfl ?_
      refine e_imul dX6_comesWith_47 ?_
      refine e_iload dX6_comesWith_48 rfl ?_
      refine e_iadd dX6_comesWith_50 ?_
      refine ok_inb h (fun k11 ek11 ik11 h => ?_)
      refine e_ialdK ia_Y8 ik11 ek11 dX6_comesWith_51 ?_
      refine e_goto 56 dX6_comesWith_52 (by decide) ?_
      refine e_forget [some (.ref 0), some (.int a1), some (.int a2), none, none, some (.int a5), some (.int a6), none, none] (leL_s (leL_s (leL_s (leL_n (leL_n (leL_s (leL_s (leL_n (leL_n leL_0))))))))) ?_
      exact ebX6_comesWith_b56_24 a1 a2 a5 a6 (M.1 8 k11) M h
theorem elX6_comesWith_l24 {z : Zt} {Q : Option Value → Me → Prop} (a1 : Int32) (a2 : Int32) (M : Me) (N : Nat) (s : Int32 × Int32) (h : ok (lp (fpX6_comesWith_l24 a1 a2 M) N s) (XX6_comesWith_24 z a1 a2 M Q)) : EX6_comesWith_24 z a1 a2 M Q s :=
  lp_ind (fun s h => ebX6_comesWith_l24s a1 a2 s.1 s.2 M h) N s h
def fpX6_comesWith (a1 : Int32) (a2 : Int32) (a3 : Int32) (a4 : Int32) (M : Me) : Option (Int32) := (if a1 = 0 then
 (fpX6_its a2 (1 : Int32) M).bind fun v13 =>
 (fpX6_left a3 a4 v13 M).bind fun v14 =>
 some v14
 else
 (lp (fpX6_comesWith_l24 a1 a2 M) FU ((-1 : Int32), (0 : Int32))).bind fun r12 =>
 some r12)
set_option maxRecDepth 20000 in
theorem ctX6_comesWith {z : Zt} {M : Me} {Q : Option Value → Me → Prop} (a1 : Int32) (a2 : Int32) (a3 : Int32) (a4 : Int32)  (h : ok (fpX6_comesWith a1 a2 a3 a4 M) (fun a => Q (some (.int a)) M)) : EvM (wY, z) mtX6_comesWith 2 44 [.ref 0, .int a1, .int a2, .int a3, .int a4] M Q := by
  refine evm_of [some (.ref 0), some (.int a1), some (.int a2), some (.int a3), some (.int a4), none, none, none, none] 4 (by decide +kernel) (Nat.le_of_ble_eq_true rfl) rfl ?_
  unfold fpX6_comesWith at h
  refine e_iload_n dX6_comesWith_0 rfl ?_
  refine e_if_ne 18 dX6_comesWith_1 (by decide) (fun c1 => ?_) (fun c1 => ?_)
  · have h := ok_f c1 h
    refine e_iconst (-1 : Int32) dX6_comesWith_18 (by decide) ?_
    refine e_istore dX6_comesWith_19 (by decide) rfl ?_
    refine e_iconst (0 : Int32) dX6_comesWith_21 (by decide) ?_
    refine e_istore dX6_comesWith_22 (by decide) rfl ?_
    refine e_forget [some (.ref 0), some (.int a1), some (.int a2), none, none, some (.int (-1 : Int32)), some (.int (0 : Int32)), none, none] (leL_s (leL_s (leL_s (leL_n (leL_n (leL_s (leL_s (leL_n (leL_n leL_0))))))))) ?_
    refine elX6_comesWith_l24 a1 a2 M FU ((-1 : Int32), (0 : Int32)) (ok_bnd h (fun r12 h => ?_))
    show Ev (wY, z) mtX6_comesWith 2 44 125 [none, none, none, none, none, some (.int r12), none, none, none] [] M Q
    refine e_iload dX6_comesWith_125 rfl ?_
    have h := ok_some h
    exact e_iret rfl dX6_comesWith_127 h
  · have h := ok_t c1 h
    refine e_aload_n dX6_comesWith_4 rfl ?_
    refine e_iload_n dX6_comesWith_5 rfl ?_
    refine e_iload dX6_comesWith_6 rfl ?_
    refine e_aload_n dX6_comesWith_8 rfl ?_
    refine e_iload_n dX6_comesWith_9 rfl ?_
    refine e_iconst (1 : Int32) dX6_comesWith_10 (by decide) ?_
    refine e_callV (f2 := 1) (l2 := 21) (ν := mtX6_its) (as := [.int a2, .int (1 : Int32)]) cv_RX6_90 is_Y0 kc_7 ⟨Nat.le_of_ble_eq_true rfl, Nat.le_of_ble_eq_true rfl⟩ rfl rfl (Nat.le_of_ble_eq_true rfl) dX6_comesWith_11 ?_
    refine ctX6_its a2 (1 : Int32) (ok_bnd h (fun v13 h => ?_))
    show Ev (wY, z) mtX6_comesWith 2 44 14 [some (.ref 0), some (.int a1), some (.int a2), some (.int a3), some (.int a4), none, none, none, none] [.int v13, .int a4, .int a3, .ref 0] M Q
    refine e_callV (f2 := 1) (l2 := 21) (ν := mtX6_left) (as := [.int a3, .int a4, .int v13]) cv_RX6_123 is_Y0 kc_7 ⟨Nat.le_of_ble_eq_true rfl, Nat.le_of_ble_eq_true rfl⟩ rfl rfl (Nat.le_of_ble_eq_true rfl) dX6_comesWith_14 ?_
    refine ctX6_left a3 a4 v13 (ok_bnd h (fun v14 h => ?_))
    show Ev (wY, z) mtX6_comesWith 2 44 17 [some (.ref 0), some (.int a1), some (.int a2), some (.int a3), some (.int a4), none, none, none, none] [.int v14] M Q
    have h := ok_some h
    exact e_iret rfl dX6_comesWith_17 h
def XX6_bestFrom_23 (z : Zt) (a1 : Int32) (a2 : Int32) (a3 : Int32) (a4 : Int32) (a5 : Int32) (Q : Option Value → Me → Prop) : (Int32 × Me) → Prop := fun t => Ev (wY, z) mtX6_bestFrom 3 72 183 [none, none, none, none, none, none, some (.int t.1), none, none, none, none, none] [] t.2 Q
def EX6_bestFrom_23 (z : Zt) (a1 : Int32) (a2 : Int32) (a3 : Int32) (a4 : Int32) (a5 : Int32) (Q : Option Value → Me → Prop) : (Int32 × Int32 × Me) → Prop := fun s => Ev (wY, z) mtX6_bestFrom 3 72 23 [some (.ref 0), some (.int a1), some (.int a2), some (.int a3), some (.int a4), some (.int a5), some (.int s.1), some (.int s.2.1), none, none, none, none] [] s.2.2 Q
def GX6_bestFrom_23 (z : Zt) (a1 : Int32) (a2 : Int32) (a3 : Int32) (a4 : Int32) (a5 : Int32) (Q : Option Value → Me → Prop) : (Int32 × Int32 × Me) ⊕ (Int32 × Me) → Prop := Sum.elim (EX6_bestFrom_23 z a1 a2 a3 a4 a5 Q) (XX6_bestFrom_23 z a1 a2 a3 a4 a5 Q)
def XX6_bestFrom_56 (z : Zt) (a1 : Int32) (a2 : Int32) (a3 : Int32) (a4 : Int32) (a5 : Int32) (a7 : Int32) (a8 : Int32) (Q : Option Value → Me → Prop) : (Int32 × Me) → Prop := fun t => Ev (wY, z) mtX6_bestFrom 3 72 177 [some (.ref 0), some (.int a1), some (.int a2), some (.int a3), some (.int a4), some (.int a5), some (.int t.1), some (.int a7), none, none, none, none] [] t.2 Q
def EX6_bestFrom_56 (z : Zt) (a1 : Int32) (a2 : Int32) (a3 : Int32) (a4 : Int32) (a5 : Int32) (a7 : Int32) (a8 : Int32) (Q : Option Value → Me → Prop) : (Int32 × Int32 × Me) → Prop := fun s => Ev (wY, z) mtX6_bestFrom 3 72 56 [some (.ref 0), some (.int a1), some (.int a2), some (.int a3), some (.int a4), some (.int a5), some (.int s.1), some (.int a7), some (.int a8), some (.int s.2.1), none, none] [] s.2.2 Q
def GX6_bestFrom_56 (z : Zt) (a1 : Int32) (a2 : Int32) (a3 : Int32) (a4 : Int32) (a5 : Int32) (a7 : Int32) (a8 : Int32) (Q : Option Value → Me → Prop) : (Int32 × Int32 × Me) ⊕ (Int32 × Me) → Prop := Sum.elim (EX6_bestFrom_56 z a1 a2 a3 a4 a5 a7 a8 Q) (XX6_bestFrom_56 z a1 a2 a3 a4 a5 a7 a8 Q)
def fpX6_bestFrom_b153_56 (a1 : Int32) (a2 : Int32) (a3 : Int32) (a4 : Int32) (a5 : Int32) (a6 : Int32) (a7 : Int32) (a8 : Int32) (a9 : Int32) (t0 : Int32) (M : Me) : Option ((Int32 × Int32 × Me) ⊕ (Int32 × Me)) := (if t0 ≤ a6 then
 letv (a9 + (1 : Int32)) fun v14 =>
 some (.inl (a6, v14, M))
 else
 letv (a9 + (1 : Int32)) fun v15 =>
 some (.inl (t0, v15, M)))
set_option maxRecDepth 20000 in
theorem ebX6_bestFrom_b153_56 {z : Zt} {Q : Option Value → Me → Prop} (a1 : Int32) (a2 : Int32) (a3 : Int32) (a4 : Int32) (a5 : Int32) (a6 : Int32) (a7 : Int32) (a8 : Int32) (a9 : Int32) (t0 : Int32) (M : Me) (h : ok (fpX6_bestFrom_b153_56 a1 a2 a3 a4 a5 a6 a7 a8 a9 t0 M) (GX6_bestFrom_56 z a1 a2 a3 a4 a5 a7 a8 Q)) : Ev (wY, z) mtX6_bestFrom 3 72 153 [some (.ref 0), some (.int a1), some (.int a2), some (.int a3), some (.int a4), some (.int a5), some (.int a6), some (.int a7), some (.int a8), some (.int a9), none, none] [.int t0] M Q := by
  unfold fpX6_bestFrom_b153_56 at h
  refine e_istore dX6_bestFrom_153 (by decide) rfl ?_
  refine e_iload dX6_bestFrom_155 rfl ?_
  refine e_iload dX6_bestFrom_157 rfl ?_
  refine e_icmp_le 167 dX6_bestFrom_159 (by decide) (fun c13 => ?_) (fun c13 => ?_)
  · have h := ok_t c13 h
    refine e_iload dX6_bestFrom_167 rfl ?_
    refine e_istore dX6_bestFrom_169 (by decide) rfl ?_
    refine lv1e h (fun v14 ev14 h => ?_)
    refine e_iinc v14 dX6_bestFrom_171 rfl ev14 (by decide) rfl ?_
    refine e_goto 56 dX6_bestFrom_174 (by decide) ?_
    refine e_forget [some (.ref 0), some (.int a1), some (.int a2), some (.int a3), some (.int a4), some (.int a5), some (.int a6), some (.int a7), some (.int a8), some (.int v14), none, none] (leL_s (leL_s (leL_s (leL_s (leL_s (leL_s (leL_s (leL_s (leL_s (leL_s (leL_n (leL_n leL_0)))))))))))) ?_
    have h := ok_some h
    exact h
  · have h := ok_f c13 h
    refine e_iload dX6_bestFrom_162 rfl ?_
    refine e_goto 169 dX6_bestFrom_164 (by decide) ?_
    refine e_istore dX6_bestFrom_169 (by decide) rfl ?_
    refine lv1e h (fun v15 ev15 h => ?_)
    refine e_iinc v15 dX6_bestFrom_171 rfl ev15 (by decide) rfl ?_
    refine e_goto 56 dX6_bestFrom_174 (by decide) ?_
    refine e_forget [some (.ref 0), some (.int a1), some (.int a2), some (.int a3), some (.int a4), some (.int a5), some (.int t0), some (.int a7), some (.int a8), some (.int v15), none, none] (leL_s (leL_s (leL_s (leL_s (leL_s (leL_s (leL_s (leL_s (leL_s (leL_s (leL_n (leL_n leL_0)))))))))))) ?_
    have h := ok_some h
    exact h
def fpX6_bestFrom_b152_56 (a1 : Int32) (a2 : Int32) (a3 : Int32) (a4 : Int32) (a5 : Int32) (a6 : Int32) (a7 : Int32) (a8 : Int32) (a9 : Int32) (M : Me) : Option ((Int32 × Int32 × Me) ⊕ (Int32 × Me)) := fpX6_bestFrom_b153_56 a1 a2 a3 a4 a5 a6 a7 a8 a9 (-1 : Int32) M
set_option maxRecDepth 20000 in
theorem ebX6_bestFrom_b152_56 {z : Zt} {Q : Option Value → Me → Prop} (a1 : Int32) (a2 : Int32) (a3 : Int32) (a4 : Int32) (a5 : Int32) (a6 : Int32) (a7 : Int32) (a8 : Int32) (a9 : Int32) (M : Me) (h : ok (fpX6_bestFrom_b152_56 a1 a2 a3 a4 a5 a6 a7 a8 a9 M) (GX6_bestFrom_56 z a1 a2 a3 a4 a5 a7 a8 Q)) : Ev (wY, z) mtX6_bestFrom 3 72 152 [some (.ref 0), some (.int a1), some (.int a2), some (.int a3), some (.int a4), some (.int a5), some (.int a6), some (.int a7), some (.int a8), some (.int a9), none, none] [] M Q := by
  unfold fpX6_bestFrom_b152_56 at h
  refine e_iconst (-1 : Int32) dX6_bestFrom_152 (by decide) ?_
  refine e_forget [some (.ref 0), some (.int a1), some (.int a2), some (.int a3), some (.int a4), some (.int a5), some (.int a6), some (.int a7), some (.int a8), some (.int a9), none, none] (leL_s (leL_s (leL_s (leL_s (leL_s (leL_s (leL_s (leL_s (leL_s (leL_s (leL_n (leL_n leL_0)))))))))))) ?_
  exact ebX6_bestFrom_b153_56 a1 a2 a3 a4 a5 a6 a7 a8 a9 (-1 : Int32) M h
def fpX6_bestFrom_l56s (a1 : Int32) (a2 : Int32) (a3 : Int32) (a4 : Int32) (a5 : Int32) (a7 : Int32) (a8 : Int32) (a6 : Int32) (a9 : Int32) (M : Me) : Option ((Int32 × Int32 × Me) ⊕ (Int32 × Me)) := (if (8 : Int32) ≤ a9 then
 some (.inr (a6, M))
 else
 (if (a7 &&& (a3 ^^^ (-1 : Int32))) = 0 then
 (if (fpX6_has a7 a9) = 0 then
 letv (a9 + (1 : Int32)) fun v7 =>
 some (.inl (a6, v7, M))
 else
 (fpX6_comesWith (a7 &&& (((1 : Int32) <<< (a9 &&& 31)) ^^^ (-1 : Int32))) a9 a2 a1 M).bind fun v8 =>
 (fpX6_ran v8 a9 M).bind fun v9 =>
 (inb (((8 : Int32) * a7) + a9) 2048).bind fun k10 =>
 letv (wrM M 8 k10 v9) fun M11 =>
 (if a8 = 0 then
 fpX6_bestFrom_b152_56 a1 a2 a3 a4 a5 a6 a7 a8 a9 M11
 else
 (if v9 ≤ a6 then
 fpX6_bestFrom_b152_56 a1 a2 a3 a4 a5 a6 a7 a8 a9 M11
 else
 (fpX6_its a9 (1 : Int32) M11).bind fun v17 =>
 (fpX6_left v9 v17 a5 M11).bind fun v18 =>
 fpX6_bestFrom_b153_56 a1 a2 a3 a4 a5 a6 a7 a8 a9 v18 M11)))
 else
 some (.inr (a6, M))))
def fpX6_bestFrom_l56 (a1 : Int32) (a2 : Int32) (a3 : Int32) (a4 : Int32) (a5 : Int32) (a7 : Int32) (a8 : Int32) (s : Int32 × Int32 × Me) : Option ((Int32 × Int32 × Me) ⊕ (Int32 × Me)) := fpX6_bestFrom_l56s a1 a2 a3 a4 a5 a7 a8 s.1 s.2.1 s.2.2
set_option maxRecDepth 20000 in
theorem ebX6_bestFrom_l56s {z : Zt} {Q : Option Value → Me → Prop} (a1 : Int32) (a2 : Int32) (a3 : Int32) (a4 : Int32) (a5 : Int32) (a7 : Int32) (a8 : Int32) (a6 : Int32) (a9 : Int32) (M : Me) (h : ok (fpX6_bestFrom_l56s a1 a2 a3 a4 a5 a7 a8 a6 a9 M) (GX6_bestFrom_56 z a1 a2 a3 a4 a5 a7 a8 Q)) : Ev (wY, z) mtX6_bestFrom 3 72 56 [some (.ref 0), some (.int a1), some (.int a2), some (.int a3), some (.int a4), some (.int a5), some (.int a6), some (.int a7), some (.int a8), some (.int a9), none, none] [] M Q := by
  unfold fpX6_bestFrom_l56s at h
  refine e_iload dX6_bestFrom_56 rfl ?_
  refine e_bipush (8 : Int32) dX6_bestFrom_58 (by decide) ?_
  refine e_icmp_ge 177 dX6_bestFrom_60 (by decide) (fun c4 => ?_) (fun c4 => ?_)
  · have h := ok_t c4 h
    refine e_forget [some (.ref 0), some (.int a1), some (.int a2), some (.int a3), some (.int a4), some (.int a5), some (.int a6), some (.int a7), none, none, none, none] (leL_s (leL_s (leL_s (leL_s (leL_s (leL_s (leL_s (leL_s (leL_n (leL_n (leL_n (leL_n leL_0)))))))))))) ?_
    have h := ok_some h
    exact h
  · have h := ok_f c4 h
    refine e_iload dX6_bestFrom_63 rfl ?_
    refine e_iload_n dX6_bestFrom_65 rfl ?_
    refine e_iconst (-1 : Int32) dX6_bestFrom_66 (by decide) ?_
    refine e_ixor dX6_bestFrom_67 ?_
    refine e_iand dX6_bestFrom_68 ?_
    refine e_if_ne 177 dX6_bestFrom_69 (by decide) (fun c5 => ?_) (fun c5 => ?_)
    · have h := ok_f c5 h
      refine e_forget [some (.ref 0), some (.int a1), some (.int a2), some (.int a3), some (.int a4), some (.int a5), some (.int a6), some (.int a7), none, none, none, none] (leL_s (leL_s (leL_s (leL_s (leL_s (leL_s (leL_s (leL_s (leL_n (leL_n (leL_n (leL_n leL_0)))))))))))) ?_
      have h := ok_some h
      exact h
    · have h := ok_t c5 h
      refine e_iload dX6_bestFrom_72 rfl ?_
      refine e_iload dX6_bestFrom_74 rfl ?_
      refine e_callS (f2 := 0) (l2 := 0) (ν := mtX6_has) (as := [.int a7, .int a9]) cs_RX6_141 ⟨Nat.le_of_ble_eq_true rfl, Nat.le_of_ble_eq_true rfl⟩ rfl rfl (Nat.le_of_ble_eq_true rfl) dX6_bestFrom_76 ?_
      refine ctX6_has a7 a9 ?_
      show Ev (wY, z) mtX6_bestFrom 3 72 79 [some (.ref 0), some (.int a1), some (.int a2), some (.int a3), some (.int a4), some (.int a5), some (.int a6), some (.int a7), some (.int a8), some (.int a9), none, none] [.int (fpX6_has a7 a9)] M Q
      refine e_if_eq 171 dX6_bestFrom_79 (by decide) (fun c6 => ?_) (fun c6 => ?_)
      · have h := ok_t c6 h
        refine lv1e h (fun v7 ev7 h => ?_)
        refine e_iinc v7 dX6_bestFrom_171 rfl ev7 (by decide) rfl ?_
        refine e_goto 56 dX6_bestFrom_174 (by decide) ?_
        refine e_forget [some (.ref 0), some (.int a1), some (.int a2), some (.int a3), some (.int a4), some (.int a5), some (.int a6), some (.int a7), some (.int a8), some (.int v7), none, none] (leL_s (leL_s (leL_s (leL_s (leL_s (leL_s (leL_s (leL_s (leL_s (leL_s (leL_n (leL_n leL_0)))))))))))) ?_
        have h := ok_some h
        exact h
      · have h := ok_f c6 h
        refine e_aload_n dX6_bestFrom_82 rfl ?_
        refine e_aload_n dX6_bestFrom_83 rfl ?_
        refine e_iload dX6_bestFrom_84 rfl ?_
        refine e_iconst (1 : Int32) dX6_bestFrom_86 (by decide) ?_
        refine e_iload dX6_bestFrom_87 rfl ?_
        refine e_ishl dX6_bestFrom_89 ?_
        refine e_iconst (-1 : Int32) dX6_bestFrom_90 (by decide) ?_
        refine e_ixor dX6_bestFrom_91 ?_
        refine e_iand dX6_bestFrom_92 ?_
        refine e_iload dX6_bestFrom_93 rfl ?_
        refine e_iload_n dX6_bestFrom_95 rfl ?_
        refine e_iload_n dX6_bestFrom_96 rfl ?_
        refine e_callV (f2 := 2) (l2 := 44) (ν := mtX6_comesWith) (as := [.int (a7 &&& (((1 : Int32) <<< (a9 &&& 31)) ^^^ (-1 : Int32))), .int a9, .int a2, .int a1]) cv_RX6_147 is_Y0 kc_7 ⟨Nat.le_of_ble_eq_true rfl, Nat.le_of_ble_eq_true rfl⟩ rfl rfl (Nat.le_of_ble_eq_true rfl) dX6_bestFrom_97 ?_
        refine ctX6_comesWith (a7 &&& (((1 : Int32) <<< (a9 &&& 31)) ^^^ (-1 : Int32))) a9 a2 a1 (ok_bnd h (fun v8 h => ?_))
        show Ev (wY, z) mtX6_bestFrom 3 72 100 [some (.ref 0), some (.int a1), some (.int a2), some (.int a3), some (.int a4), some (.int a5), some (.int a6), some (.int a7), some (.int a8), some (.int a9), none, none] [.int v8, .ref 0] M Q
        refine e_iload dX6_bestFrom_100 rfl ?_
        refine e_callV (f2 := 1) (l2 := 21) (ν := mtX6_ran) (as := [.int v8, .int a9]) cv_RX6_150 is_Y0 kc_7 ⟨Nat.le_of_ble_eq_true rfl, Nat.le_of_ble_eq_true rfl⟩ rfl rfl (Nat.le_of_ble_eq_true rfl) dX6_bestFrom_102 ?_
        refine ctX6_ran v8 a9 (ok_bnd h (fun v9 h => ?_))
        show Ev (wY, z) mtX6_bestFrom 3 72 105 [some (.ref 0), some (.int a1), some (.int a2), some (.int a3), some (.int a4), some (.int a5), some (.int a6), some (.int a7), some (.int a8), some (.int a9), none, none] [.int v9] M Q
        refine e_istore dX6_bestFrom_105 (by decide) rfl ?_
        refine e_aload_n dX6_bestFrom_107 rfl ?_
        refine e_getR fa_RX6_31 is_Y0 rfl dX6_bestFrom_108 ?_
        refine e_bipush (8 : Int32) dX6_bestFrom_111 (by decide) ?_
        refine e_iload dX6_bestFrom_113 rfl ?_
        refine e_imul dX6_bestFrom_115 ?_
        refine e_iload dX6_bestFrom_116 rfl ?_
        refine e_iadd dX6_bestFrom_118 ?_
        refine e_iload dX6_bestFrom_119 rfl ?_
        refine ok_inb h (fun k10 ek10 ik10 h => ?_)
        refine e_iastK ia_Y8 ik10 ek10 dX6_bestFrom_121 ?_
        refine lv1 (P := fun M11 => Ev (wY, z) mtX6_bestFrom 3 72 122 [some (.ref 0), some (.int a1), some (.int a2), some (.int a3), some (.int a4), some (.int a5), some (.int a6), some (.int a7), some (.int a8), some (.int a9), some (.int v9), none] [] M11 Q) h (fun M11 h => ?_)
        refine e_iload dX6_bestFrom_122 rfl ?_
        refine e_if_eq 152 dX6_bestFrom_124 (by decide) (fun c12 => ?_) (fun c12 => ?_)
        · have h := ok_t c12 h
          refine e_forget [some (.ref 0), some (.int a1), some (.int a2), some (.int a3), some (.int a4), some (.int a5), some (.int a6), some (.int a7), some (.int a8), some (.int a9), none, none] (leL_s (leL_s (leL_s (leL_s (leL_s (leL_s (leL_s (leL_s (leL_s (leL_s (leL_n (leL_n leL_0)))))))))))) ?_
          exact ebX6_bestFrom_b152_56 a1 a2 a3 a4 a5 a6 a7 a8 a9 M11 h
        · have h := ok_f c12 h
          refine e_iload dX6_bestFrom_127 rfl ?_
          refine e_iload dX6_bestFrom_129 rfl ?_
          refine e_icmp_le 152 dX6_bestFrom_131 (by decide) (fun c16 => ?_) (fun c16 => ?_)
          · have h := ok_t c16 h
            refine e_forget [some (.ref 0), some (.int a1), some (.int a2), some (.int a3), some (.int a4), some (.int a5), some (.int a6), some (.int a7), some (.int a8), some (.int a9), none, none] (leL_s (leL_s (leL_s (leL_s (leL_s (leL_s (leL_s (leL_s (leL_s (leL_s (leL_n (leL_n leL_0)))))))))))) ?_
            exact ebX6_bestFrom_b152_56 a1 a2 a3 a4 a5 a6 a7 a8 a9 M11 h
          · have h := ok_f c16 h
            refine e_aload_n dX6_bestFrom_134 rfl ?_
            refine e_iload dX6_bestFrom_135 rfl ?_
            refine e_aload_n dX6_bestFrom_137 rfl ?_
            refine e_iload dX6_bestFrom_138 rfl ?_
            refine e_iconst (1 : Int32) dX6_bestFrom_140 (by decide) ?_
            refine e_callV (f2 := 1) (l2 := 21) (ν := mtX6_its) (as := [.int a9, .int (1 : Int32)]) cv_RX6_90 is_Y0 kc_7 ⟨Nat.le_of_ble_eq_true rfl, Nat.le_of_ble_eq_true rfl⟩ rfl rfl (Nat.le_of_ble_eq_true rfl) dX6_bestFrom_141 ?_
            refine ctX6_its a9 (1 : Int32) (ok_bnd h (fun v17 h => ?_))
            show Ev (wY, z) mtX6_bestFrom 3 72 144 [some (.ref 0), some (.int a1), some (.int a2), some (.int a3), some (.int a4), some (.int a5), some (.int a6), some (.int a7), some (.int a8), some (.int a9), some (.int v9), none] [.int v17, .int v9, .ref 0] M11 Q
            refine e_iload dX6_bestFrom_144 rfl ?_
            refine e_callV (f2 := 1) (l2 := 21) (ν := mtX6_left) (as := [.int v9, .int v17, .int a5]) cv_RX6_123 is_Y0 kc_7 ⟨Nat.le_of_ble_eq_true rfl, Nat.le_of_ble_eq_true rfl⟩ rfl rfl (Nat.le_of_ble_eq_true rfl) dX6_bestFrom_146 ?_
            refine ctX6_left v9 v17 a5 (ok_bnd h (fun v18 h => ?_))
            show Ev (wY, z) mtX6_bestFrom 3 72 149 [some (.ref 0), some (.int a1), some (.int a2), some (.int a3), some (.int a4), some (.int a5), some (.int a6), some (.int a7), some (.int a8), some (.int a9), some (.int v9), none] [.int v18] M11 Q
            refine e_goto 153 dX6_bestFrom_149 (by decide) ?_
            refine e_forget [some (.ref 0), some (.int a1), some (.int a2), some (.int a3), some (.int a4), some (.int a5), some (.int a6), some (.int a7), some (.int a8), some (.int a9), none, none] (leL_s (leL_s (leL_s (leL_s (leL_s (leL_s (leL_s (leL_s (leL_s (leL_s (leL_n (leL_n leL_0)))))))))))) ?_
            exact ebX6_bestFrom_b153_56 a1 a2 a3 a4 a5 a6 a7 a8 a9 v18 M11 h
theorem elX6_bestFrom_l56 {z : Zt} {Q : Option Value → Me → Prop} (a1 : Int32) (a2 : Int32) (a3 : Int32) (a4 : Int32) (a5 : Int32) (a7 : Int32) (a8 : Int32) (N : Nat) (s : Int32 × Int32 × Me) (h : ok (lp (fpX6_bestFrom_l56 a1 a2 a3 a4 a5 a7 a8) N s) (XX6_bestFrom_56 z a1 a2 a3 a4 a5 a7 a8 Q)) : EX6_bestFrom_56 z a1 a2 a3 a4 a5 a7 a8 Q s :=
  lp_ind (fun s h => ebX6_bestFrom_l56s a1 a2 a3 a4 a5 a7 a8 s.1 s.2.1 s.2.2 h) N s h
def fpX6_bestFrom_b51_23 (a1 : Int32) (a2 : Int32) (a3 : Int32) (a4 : Int32) (a5 : Int32) (a6 : Int32) (a7 : Int32) (t0 : Int32) (M : Me) : Option ((Int32 × Int32 × Me) ⊕ (Int32 × Me)) := (lp (fpX6_bestFrom_l56 a1 a2 a3 a4 a5 a7 t0) FU (a6, (0 : Int32), M)).bind fun r19 =>
 letv (a7 + (1 : Int32)) fun v20 =>
 some (.inl (r19.1, v20, r19.2))
set_option maxRecDepth 20000 in
theorem ebX6_bestFrom_b51_23 {z : Zt} {Q : Option Value → Me → Prop} (a1 : Int32) (a2 : Int32) (a3 : Int32) (a4 : Int32) (a5 : Int32) (a6 : Int32) (a7 : Int32) (t0 : Int32) (M : Me) (h : ok (fpX6_bestFrom_b51_23 a1 a2 a3 a4 a5 a6 a7 t0 M) (GX6_bestFrom_23 z a1 a2 a3 a4 a5 Q)) : Ev (wY, z) mtX6_bestFrom 3 72 51 [some (.ref 0), some (.int a1), some (.int a2), some (.int a3), some (.int a4), some (.int a5), some (.int a6), some (.int a7), none, none, none, none] [.int t0] M Q := by
  unfold fpX6_bestFrom_b51_23 at h
  refine e_istore dX6_bestFrom_51 (by decide) rfl ?_
  refine e_iconst (0 : Int32) dX6_bestFrom_53 (by decide) ?_
  refine e_istore dX6_bestFrom_54 (by decide) rfl ?_
  refine e_forget [some (.ref 0), some (.int a1), some (.int a2), some (.int a3), some (.int a4), some (.int a5), some (.int a6), some (.int a7), some (.int t0), some (.int (0 : Int32)), none, none] (leL_s (leL_s (leL_s (leL_s (leL_s (leL_s (leL_s (leL_s (leL_s (leL_s (leL_n (leL_n leL_0)))))))))))) ?_
  refine elX6_bestFrom_l56 a1 a2 a3 a4 a5 a7 t0 FU (a6, (0 : Int32), M) (ok_bnd h (fun r19 h => ?_))
  show Ev (wY, z) mtX6_bestFrom 3 72 177 [some (.ref 0), some (.int a1), some (.int a2), some (.int a3), some (.int a4), some (.int a5), some (.int r19.1), some (.int a7), none, none, none, none] [] r19.2 Q
  refine lv1e h (fun v20 ev20 h => ?_)
  refine e_iinc v20 dX6_bestFrom_177 rfl ev20 (by decide) rfl ?_
  refine e_goto 23 dX6_bestFrom_180 (by decide) ?_
  refine e_forget [some (.ref 0), some (.int a1), some (.int a2), some (.int a3), some (.int a4), some (.int a5), some (.int r19.1), some (.int v20), none, none, none, none] (leL_s (leL_s (leL_s (leL_s (leL_s (leL_s (leL_s (leL_s (leL_n (leL_n (leL_n (leL_n leL_0)))))))))))) ?_
  have h := ok_some h
  exact h
def fpX6_bestFrom_b46_23 (a1 : Int32) (a2 : Int32) (a3 : Int32) (a4 : Int32) (a5 : Int32) (a6 : Int32) (a7 : Int32) (M : Me) : Option ((Int32 × Int32 × Me) ⊕ (Int32 × Me)) := fpX6_bestFrom_b51_23 a1 a2 a3 a4 a5 a6 a7 (1 : Int32) M
set_option maxRecDepth 20000 in
theorem ebX6_bestFrom_b46_23 {z : Zt} {Q : Option Value → Me → Prop} (a1 : Int32) (a2 : Int32) (a3 : Int32) (a4 : Int32) (a5 : Int32) (a6 : Int32) (a7 : Int32) (M : Me) (h : ok (fpX6_bestFrom_b46_23 a1 a2 a3 a4 a5 a6 a7 M) (GX6_bestFrom_23 z a1 a2 a3 a4 a5 Q)) : Ev (wY, z) mtX6_bestFrom 3 72 46 [some (.ref 0), some (.int a1), some (.int a2), some (.int a3), some (.int a4), some (.int a5), some (.int a6), some (.int a7), none, none, none, none] [] M Q := by
  unfold fpX6_bestFrom_b46_23 at h
  refine e_iconst (1 : Int32) dX6_bestFrom_46 (by decide) ?_
  refine e_goto 51 dX6_bestFrom_47 (by decide) ?_
  refine e_forget [some (.ref 0), some (.int a1), some (.int a2), some (.int a3), some (.int a4), some (.int a5), some (.int a6), some (.int a7), none, none, none, none] (leL_s (leL_s (leL_s (leL_s (leL_s (leL_s (leL_s (leL_s (leL_n (leL_n (leL_n (leL_n leL_0)))))))))))) ?_
  exact ebX6_bestFrom_b51_23 a1 a2 a3 a4 a5 a6 a7 (1 : Int32) M h
def fpX6_bestFrom_l23s (a1 : Int32) (a2 : Int32) (a3 : Int32) (a4 : Int32) (a5 : Int32) (a6 : Int32) (a7 : Int32) (M : Me) : Option ((Int32 × Int32 × Me) ⊕ (Int32 × Me)) := (if (256 : Int32) ≤ a7 then
 some (.inr (a6, M))
 else
 (if a4 < 0 then
 fpX6_bestFrom_b46_23 a1 a2 a3 a4 a5 a6 a7 M
 else
 (fpX6_ones a7).bind fun v21 =>
 (if v21 = a4 then
 fpX6_bestFrom_b46_23 a1 a2 a3 a4 a5 a6 a7 M
 else
 fpX6_bestFrom_b51_23 a1 a2 a3 a4 a5 a6 a7 (0 : Int32) M)))
def fpX6_bestFrom_l23 (a1 : Int32) (a2 : Int32) (a3 : Int32) (a4 : Int32) (a5 : Int32) (s : Int32 × Int32 × Me) : Option ((Int32 × Int32 × Me) ⊕ (Int32 × Me)) := fpX6_bestFrom_l23s a1 a2 a3 a4 a5 s.1 s.2.1 s.2.2
set_option maxRecDepth 20000 in
theorem ebX6_bestFrom_l23s {z : Zt} {Q : Option Value → Me → Prop} (a1 : Int32) (a2 : Int32) (a3 : Int32) (a4 : Int32) (a5 : Int32) (a6 : Int32) (a7 : Int32) (M : Me) (h : ok (fpX6_bestFrom_l23s a1 a2 a3 a4 a5 a6 a7 M) (GX6_bestFrom_23 z a1 a2 a3 a4 a5 Q)) : Ev (wY, z) mtX6_bestFrom 3 72 23 [some (.ref 0), some (.int a1), some (.int a2), some (.int a3), some (.int a4), some (.int a5), some (.int a6), some (.int a7), none, none, none, none] [] M Q := by
  unfold fpX6_bestFrom_l23s at h
  refine e_iload dX6_bestFrom_23 rfl ?_
  refine e_sipush (256 : Int32) dX6_bestFrom_25 (by decide) ?_
  refine e_icmp_ge 183 dX6_bestFrom_28 (by decide) (fun c2 => ?_) (fun c2 => ?_)
  · have h := ok_t c2 h
    refine e_forget [none, none, none, none, none, none, some (.int a6), none, none, none, none, none] (leL_n (leL_n (leL_n (leL_n (leL_n (leL_n (leL_s (leL_n (leL_n (leL_n (leL_n (leL_n leL_0)))))))))))) ?_
    have h := ok_some h
    exact h
  · have h := ok_f c2 h
    refine e_iload dX6_bestFrom_31 rfl ?_
    refine e_if_lt 46 dX6_bestFrom_33 (by decide) (fun c3 => ?_) (fun c3 => ?_)
    · have h := ok_t c3 h
      refine e_forget [some (.ref 0), some (.int a1), some (.int a2), some (.int a3), some (.int a4), some (.int a5), some (.int a6), some (.int a7), none, none, none, none] (leL_s (leL_s (leL_s (leL_s (leL_s (leL_s (leL_s (leL_s (leL_n (leL_n (leL_n (leL_n leL_0)))))))))))) ?_
      exact ebX6_bestFrom_b46_23 a1 a2 a3 a4 a5 a6 a7 M h
    · have h := ok_f c3 h
      refine e_iload dX6_bestFrom_36 rfl ?_
      refine e_callS (f2 := 0) (l2 := 0) (ν := mtX6_ones) (as := [.int a7]) cs_RX6_144 ⟨Nat.le_of_ble_eq_true rfl, Nat.le_of_ble_eq_true rfl⟩ rfl rfl (Nat.le_of_ble_eq_true rfl) dX6_bestFrom_38 ?_
      refine ctX6_ones a7 (ok_bnd h (fun v21 h => ?_))
      show Ev (wY, z) mtX6_bestFrom 3 72 41 [some (.ref 0), some (.int a1), some (.int a2), some (.int a3), some (.int a4), some (.int a5), some (.int a6), some (.int a7), none, none, none, none] [.int v21] M Q
      refine e_iload dX6_bestFrom_41 rfl ?_
      refine e_icmp_ne 50 dX6_bestFrom_43 (by decide) (fun c22 => ?_) (fun c22 => ?_)
      · have h := ok_f c22 h
        refine e_iconst (0 : Int32) dX6_bestFrom_50 (by decide) ?_
        refine e_forget [some (.ref 0), some (.int a1), some (.int a2), some (.int a3), some (.int a4), some (.int a5), some (.int a6), some (.int a7), none, none, none, none] (leL_s (leL_s (leL_s (leL_s (leL_s (leL_s (leL_s (leL_s (leL_n (leL_n (leL_n (leL_n leL_0)))))))))))) ?_
        exact ebX6_bestFrom_b51_23 a1 a2 a3 a4 a5 a6 a7 (0 : Int32) M h
      · have h := ok_t c22 h
        refine e_forget [some (.ref 0), some (.int a1), some (.int a2), some (.int a3), some (.int a4), some (.int a5), some (.int a6), some (.int a7), none, none, none, none] (leL_s (leL_s (leL_s (leL_s (leL_s (leL_s (leL_s (leL_s (leL_n (leL_n (leL_n (leL_n leL_0)))))))))))) ?_
        exact ebX6_bestFrom_b46_23 a1 a2 a3 a4 a5 a6 a7 M h
theorem elX6_bestFrom_l23 {z : Zt} {Q : Option Value → Me → Prop} (a1 : Int32) (a2 : Int32) (a3 : Int32) (a4 : Int32) (a5 : Int32) (N : Nat) (s : Int32 × Int32 × Me) (h : ok (lp (fpX6_bestFrom_l23 a1 a2 a3 a4 a5) N s) (XX6_bestFrom_23 z a1 a2 a3 a4 a5 Q)) : EX6_bestFrom_23 z a1 a2 a3 a4 a5 Q s :=
  lp_ind (fun s h => ebX6_bestFrom_l23s a1 a2 a3 a4 a5 s.1 s.2.1 s.2.2 h) N s h
def fpX6_bestFrom_b18 (a1 : Int32) (a2 : Int32) (a3 : Int32) (a4 : Int32) (a5 : Int32) (t0 : Int32) (M : Me) : Option (Int32 × Me) := (lp (fpX6_bestFrom_l23 a1 a2 a3 a4 a5) FU (t0, (1 : Int32), M)).bind fun r23 =>
 some (r23.1, r23.2)
set_option maxRecDepth 20000 in
theorem ebX6_bestFrom_b18 {z : Zt} {Q : Option Value → Me → Prop} (a1 : Int32) (a2 : Int32) (a3 : Int32) (a4 : Int32) (a5 : Int32) (t0 : Int32) (M : Me) (h : ok (fpX6_bestFrom_b18 a1 a2 a3 a4 a5 t0 M) (fun a => Q (some (.int a.1)) a.2)) : Ev (wY, z) mtX6_bestFrom 3 72 18 [some (.ref 0), some (.int a1), some (.int a2), some (.int a3), some (.int a4), some (.int a5), none, none, none, none, none, none] [.int t0] M Q := by
  unfold fpX6_bestFrom_b18 at h
  refine e_istore dX6_bestFrom_18 (by decide) rfl ?_
  refine e_iconst (1 : Int32) dX6_bestFrom_20 (by decide) ?_
  refine e_istore dX6_bestFrom_21 (by decide) rfl ?_
  refine e_forget [some (.ref 0), some (.int a1), some (.int a2), some (.int a3), some (.int a4), some (.int a5), some (.int t0), some (.int (1 : Int32)), none, none, none, none] (leL_s (leL_s (leL_s (leL_s (leL_s (leL_s (leL_s (leL_s (leL_n (leL_n (leL_n (leL_n leL_0)))))))))))) ?_
  refine elX6_bestFrom_l23 a1 a2 a3 a4 a5 FU (t0, (1 : Int32), M) (ok_bnd h (fun r23 h => ?_))
  show Ev (wY, z) mtX6_bestFrom 3 72 183 [none, none, none, none, none, none, some (.int r23.1), none, none, none, none, none] [] r23.2 Q
  refine e_iload dX6_bestFrom_183 rfl ?_
  have h := ok_some h
  exact e_iret rfl dX6_bestFrom_185 h
def fpX6_bestFrom (a1 : Int32) (a2 : Int32) (a3 : Int32) (a4 : Int32) (a5 : Int32) (M : Me) : Option (Int32 × Me) := (if (1 : Int32) ≤ a4 then
 fpX6_bestFrom_b18 a1 a2 a3 a4 a5 (-1 : Int32) M
 else
 (fpX6_left a2 a1 a5 M).bind fun v24 =>
 fpX6_bestFrom_b18 a1 a2 a3 a4 a5 v24 M)
set_option maxRecDepth 20000 in
theorem ctX6_bestFrom {z : Zt} {M : Me} {Q : Option Value → Me → Prop} (a1 : Int32) (a2 : Int32) (a3 : Int32) (a4 : Int32) (a5 : Int32)  (h : ok (fpX6_bestFrom a1 a2 a3 a4 a5 M) (fun a => Q (some (.int a.1)) a.2)) : EvM (wY, z) mtX6_bestFrom 3 72 [.ref 0, .int a1, .int a2, .int a3, .int a4, .int a5] M Q := by
  refine evm_of [some (.ref 0), some (.int a1), some (.int a2), some (.int a3), some (.int a4), some (.int a5), none, none, none, none, none, none] 6 (by decide +kernel) (Nat.le_of_ble_eq_true rfl) rfl ?_
  unfold fpX6_bestFrom at h
  refine e_iload dX6_bestFrom_0 rfl ?_
  refine e_iconst (1 : Int32) dX6_bestFrom_2 (by decide) ?_
  refine e_icmp_ge 17 dX6_bestFrom_3 (by decide) (fun c1 => ?_) (fun c1 => ?_)
  · have h := ok_t c1 h
    refine e_iconst (-1 : Int32) dX6_bestFrom_17 (by decide) ?_
    refine e_forget [some (.ref 0), some (.int a1), some (.int a2), some (.int a3), some (.int a4), some (.int a5), none, none, none, none, none, none] (leL_s (leL_s (leL_s (leL_s (leL_s (leL_s (leL_n (leL_n (leL_n (leL_n (leL_n (leL_n leL_0)))))))))))) ?_
    exact ebX6_bestFrom_b18 a1 a2 a3 a4 a5 (-1 : Int32) M h
  · have h := ok_f c1 h
    refine e_aload_n dX6_bestFrom_6 rfl ?_
    refine e_iload_n dX6_bestFrom_7 rfl ?_
    refine e_iload_n dX6_bestFrom_8 rfl ?_
    refine e_iload dX6_bestFrom_9 rfl ?_
    refine e_callV (f2 := 1) (l2 := 21) (ν := mtX6_left) (as := [.int a2, .int a1, .int a5]) cv_RX6_123 is_Y0 kc_7 ⟨Nat.le_of_ble_eq_true rfl, Nat.le_of_ble_eq_true rfl⟩ rfl rfl (Nat.le_of_ble_eq_true rfl) dX6_bestFrom_11 ?_
    refine ctX6_left a2 a1 a5 (ok_bnd h (fun v24 h => ?_))
    show Ev (wY, z) mtX6_bestFrom 3 72 14 [some (.ref 0), some (.int a1), some (.int a2), some (.int a3), some (.int a4), some (.int a5), none, none, none, none, none, none] [.int v24] M Q
    refine e_goto 18 dX6_bestFrom_14 (by decide) ?_
    refine e_forget [some (.ref 0), some (.int a1), some (.int a2), some (.int a3), some (.int a4), some (.int a5), none, none, none, none, none, none] (leL_s (leL_s (leL_s (leL_s (leL_s (leL_s (leL_n (leL_n (leL_n (leL_n (leL_n (leL_n leL_0)))))))))))) ?_
    exact ebX6_bestFrom_b18 a1 a2 a3 a4 a5 v24 M h
def fpX6_mostWith (a1 : Int32) (M : Me) : Option (Int32 × Me) := (fpX6_findYields M).bind fun q1 =>
 (fpX6_bestFrom (q1.1 1 7) a1 (q1.1 0 8) (-1 : Int32) (0 : Int32) q1).bind fun q2 =>
 some (q2.1, q2.2)
set_option maxRecDepth 20000 in
theorem ctX6_mostWith {z : Zt} {M : Me} {Q : Option Value → Me → Prop} (a1 : Int32)  (h : ok (fpX6_mostWith a1 M) (fun a => Q (some (.int a.1)) a.2)) : EvM (wY, z) mtX6_mostWith 5 111 [.ref 0, .int a1] M Q := by
  refine evm_of [some (.ref 0), some (.int a1)] 0 (by decide +kernel) (Nat.le_of_ble_eq_true rfl) rfl ?_
  unfold fpX6_mostWith at h
  refine e_aload_n dX6_mostWith_0 rfl ?_
  refine e_callV (f2 := 4) (l2 := 89) (ν := mtX6_findYields) (as := []) cv_RX6_153 is_Y0 kc_7 ⟨Nat.le_of_ble_eq_true rfl, Nat.le_of_ble_eq_true rfl⟩ rfl rfl (Nat.le_of_ble_eq_true rfl) dX6_mostWith_1 ?_
  refine ctX6_findYields (ok_bnd h (fun q1 h => ?_))
  show Ev (wY, z) mtX6_mostWith 5 111 4 [some (.ref 0), some (.int a1)] [] q1 Q
  refine e_aload_n dX6_mostWith_4 rfl ?_
  refine e_aload_n dX6_mostWith_5 rfl ?_
  refine e_getR fa_RX6_7 is_Y0 rfl dX6_mostWith_6 ?_
  refine e_bipush (7 : Int32) dX6_mostWith_9 (by decide) ?_
  refine e_ialdK ia_Y1 (by unfold vp_in; decide) (q := 7) (by decide) dX6_mostWith_11 ?_
  refine e_iload_n dX6_mostWith_12 rfl ?_
  refine e_aload_n dX6_mostWith_13 rfl ?_
  refine e_getI fa_RX6_137 is_Y0 dX6_mostWith_14 ?_
  refine e_iconst (-1 : Int32) dX6_mostWith_17 (by decide) ?_
  refine e_iconst (0 : Int32) dX6_mostWith_18 (by decide) ?_
  refine e_callV (f2 := 3) (l2 := 72) (ν := mtX6_bestFrom) (as := [.int (q1.1 1 7), .int a1, .int (q1.1 0 8), .int (-1 : Int32), .int (0 : Int32)]) cv_RX6_156 is_Y0 kc_7 ⟨Nat.le_of_ble_eq_true rfl, Nat.le_of_ble_eq_true rfl⟩ rfl rfl (Nat.le_of_ble_eq_true rfl) dX6_mostWith_19 ?_
  refine ctX6_bestFrom (q1.1 1 7) a1 (q1.1 0 8) (-1 : Int32) (0 : Int32) (ok_bnd h (fun q2 h => ?_))
  show Ev (wY, z) mtX6_mostWith 5 111 22 [some (.ref 0), some (.int a1)] [.int q2.1] q2.2 Q
  have h := ok_some h
  exact e_iret rfl dX6_mostWith_22 h
def fpX6_most (a1 : Int32) (M : Me) : Option (Int32 × Me) := (if (fpX6_isWater a1 M) = 0 then
 (fpX6_finds (-1000001 : Int32) M).bind fun q2 =>
 some (q2.1, q2.2)
 else
 (fpX6_mostWith a1 M).bind fun q3 =>
 some (q3.1, q3.2))
set_option maxRecDepth 20000 in
theorem ctX6_most {z : Zt} {M : Me} {Q : Option Value → Me → Prop} (a1 : Int32)  (h : ok (fpX6_most a1 M) (fun a => Q (some (.int a.1)) a.2)) : EvM (wY, z) mtX6_most 6 132 [.ref 0, .int a1] M Q := by
  refine evm_of [some (.ref 0), some (.int a1)] 0 (by decide +kernel) (Nat.le_of_ble_eq_true rfl) rfl ?_
  unfold fpX6_most at h
  refine e_aload_n dX6_most_0 rfl ?_
  refine e_iload_n dX6_most_1 rfl ?_
  refine e_callV (f2 := 1) (l2 := 25) (ν := mtX6_isWater) (as := [.int a1]) cv_RX6_116 is_Y0 kc_7 ⟨Nat.le_of_ble_eq_true rfl, Nat.le_of_ble_eq_true rfl⟩ rfl rfl (Nat.le_of_ble_eq_true rfl) dX6_most_2 ?_
  refine ctX6_isWater a1 ?_
  show Ev (wY, z) mtX6_most 6 132 5 [some (.ref 0), some (.int a1)] [.int (fpX6_isWater a1 M)] M Q
  refine e_if_eq 16 dX6_most_5 (by decide) (fun c1 => ?_) (fun c1 => ?_)
  · have h := ok_t c1 h
    refine e_aload_n dX6_most_16 rfl ?_
    refine e_ldc wk_RX6_55 dX6_most_17 ?_
    refine e_callV (f2 := 0) (l2 := 0) (ν := mtX6_finds) (as := [.int (-1000001 : Int32)]) cv_RX6_81 is_Y0 kc_7 ⟨Nat.le_of_ble_eq_true rfl, Nat.le_of_ble_eq_true rfl⟩ rfl rfl (Nat.le_of_ble_eq_true rfl) dX6_most_19 ?_
    refine ctX6_finds (-1000001 : Int32) (ok_bnd h (fun q2 h => ?_))
    show Ev (wY, z) mtX6_most 6 132 22 [some (.ref 0), some (.int a1)] [.int q2.1] q2.2 Q
    have h := ok_some h
    exact e_iret rfl dX6_most_22 h
  · have h := ok_f c1 h
    refine e_aload_n dX6_most_8 rfl ?_
    refine e_iload_n dX6_most_9 rfl ?_
    refine e_callV (f2 := 5) (l2 := 111) (ν := mtX6_mostWith) (as := [.int a1]) cv_RX6_160 is_Y0 kc_7 ⟨Nat.le_of_ble_eq_true rfl, Nat.le_of_ble_eq_true rfl⟩ rfl rfl (Nat.le_of_ble_eq_true rfl) dX6_most_10 ?_
    refine ctX6_mostWith a1 (ok_bnd h (fun q3 h => ?_))
    show Ev (wY, z) mtX6_most 6 132 13 [some (.ref 0), some (.int a1)] [.int q3.1] q3.2 Q
    refine e_goto 22 dX6_most_13 (by decide) ?_
    have h := ok_some h
    exact e_iret rfl dX6_most_22 h
def XX6_findOrder_11 (z : Zt) (a1 : Int32) (a2 : Int32) (Q : Option Value → Me → Prop) : (Me) → Prop := fun t => Ev (wY, z) mtX6_findOrder 6 132 49 [some (.ref 0), some (.int a1), some (.int a2), none, none, none, none, none, none, none] [] t Q
def EX6_findOrder_11 (z : Zt) (a1 : Int32) (a2 : Int32) (Q : Option Value → Me → Prop) : (Me) → Prop := fun s => Ev (wY, z) mtX6_findOrder 6 132 11 [some (.ref 0), some (.int a1), some (.int a2), none, none, none, none, none, none, none] [] s Q
def GX6_findOrder_11 (z : Zt) (a1 : Int32) (a2 : Int32) (Q : Option Value → Me → Prop) : (Me) ⊕ (Me) → Prop := Sum.elim (EX6_findOrder_11 z a1 a2 Q) (XX6_findOrder_11 z a1 a2 Q)
def fpX6_findOrder_l11s (a1 : Int32) (a2 : Int32) (M : Me) : Option ((Me) ⊕ (Me)) := (fpX6_bestFrom (M.1 1 7) a1 (M.1 0 8) (M.1 0 12) (0 : Int32) M).bind fun q3 =>
 (if q3.1 = a2 then
 some (.inr q3.2)
 else
 letv (wrM q3.2 0 12 ((q3.2.1 0 12) + (1 : Int32))) fun M5 =>
 some (.inl M5))
def fpX6_findOrder_l11 (a1 : Int32) (a2 : Int32) (s : Me) : Option ((Me) ⊕ (Me)) := fpX6_findOrder_l11s a1 a2 s
set_option maxRecDepth 20000 in
theorem ebX6_findOrder_l11s {z : Zt} {Q : Option Value → Me → Prop} (a1 : Int32) (a2 : Int32) (M : Me) (h : ok (fpX6_findOrder_l11s a1 a2 M) (GX6_findOrder_11 z a1 a2 Q)) : Ev (wY, z) mtX6_findOrder 6 132 11 [some (.ref 0), some (.int a1), some (.int a2), none, none, none, none, none, none, none] [] M Q := by
  unfold fpX6_findOrder_l11s at h
  refine e_aload_n dX6_findOrder_11 rfl ?_
  refine e_aload_n dX6_findOrder_12 rfl ?_
  refine e_getR fa_RX6_7 is_Y0 rfl dX6_findOrder_13 ?_
  refine e_bipush (7 : Int32) dX6_findOrder_16 (by decide) ?_
  refine e_ialdK ia_Y1 (by unfold vp_in; decide) (q := 7) (by decide) dX6_findOrder_18 ?_
  refine e_iload_n dX6_findOrder_19 rfl ?_
  refine e_aload_n dX6_findOrder_20 rfl ?_
  refine e_getI fa_RX6_137 is_Y0 dX6_findOrder_21 ?_
  refine e_aload_n dX6_findOrder_24 rfl ?_
  refine e_getI fa_RX6_163 is_Y0 dX6_findOrder_25 ?_
  refine e_iconst (0 : Int32) dX6_findOrder_28 (by decide) ?_
  refine e_callV (f2 := 3) (l2 := 72) (ν := mtX6_bestFrom) (as := [.int (M.1 1 7), .int a1, .int (M.1 0 8), .int (M.1 0 12), .int (0 : Int32)]) cv_RX6_156 is_Y0 kc_7 ⟨Nat.le_of_ble_eq_true rfl, Nat.le_of_ble_eq_true rfl⟩ rfl rfl (Nat.le_of_ble_eq_true rfl) dX6_findOrder_29 ?_
  refine ctX6_bestFrom (M.1 1 7) a1 (M.1 0 8) (M.1 0 12) (0 : Int32) (ok_bnd h (fun q3 h => ?_))
  show Ev (wY, z) mtX6_findOrder 6 132 32 [some (.ref 0), some (.int a1), some (.int a2), none, none, none, none, none, none, none] [.int q3.1] q3.2 Q
  refine e_iload_n dX6_findOrder_32 rfl ?_
  refine e_icmp_eq 49 dX6_findOrder_33 (by decide) (fun c4 => ?_) (fun c4 => ?_)
  · have h := ok_t c4 h
    refine e_forget [some (.ref 0), some (.int a1), some (.int a2), none, none, none, none, none, none, none] (leL_s (leL_s (leL_s (leL_n (leL_n (leL_n (leL_n (leL_n (leL_n (leL_n leL_0)))))))))) ?_
    have h := ok_some h
    exact h
  · have h := ok_f c4 h
    refine e_aload_n dX6_findOrder_36 rfl ?_
    refine e_dup dX6_findOrder_37 rfl ?_
    refine e_getI fa_RX6_163 is_Y0 dX6_findOrder_38 ?_
    refine e_iconst (1 : Int32) dX6_findOrder_41 (by decide) ?_
    refine e_iadd dX6_findOrder_42 ?_
    refine e_putI fw_RX6_163 is_Y0 dX6_findOrder_43 ?_
    refine lv1 (P := fun M5 => Ev (wY, z) mtX6_findOrder 6 132 46 [some (.ref 0), some (.int a1), some (.int a2), none, none, none, none, none, none, none] [] M5 Q) h (fun M5 h => ?_)
    refine e_goto 11 dX6_findOrder_46 (by decide) ?_
    refine e_forget [some (.ref 0), some (.int a1), some (.int a2), none, none, none, none, none, none, none] (leL_s (leL_s (leL_s (leL_n (leL_n (leL_n (leL_n (leL_n (leL_n (leL_n leL_0)))))))))) ?_
    have h := ok_some h
    exact h
theorem elX6_findOrder_l11 {z : Zt} {Q : Option Value → Me → Prop} (a1 : Int32) (a2 : Int32) (N : Nat) (s : Me) (h : ok (lp (fpX6_findOrder_l11 a1 a2) N s) (XX6_findOrder_11 z a1 a2 Q)) : EX6_findOrder_11 z a1 a2 Q s :=
  lp_ind (fun s h => ebX6_findOrder_l11s a1 a2 s h) N s h
def XX6_findOrder_69 (z : Zt) (a2 : Int32) (Q : Option Value → Me → Prop) : (Me) → Prop := fun t => Ev (wY, z) mtX6_findOrder 6 132 220 [none, none, some (.int a2), none, none, none, none, none, none, none] [] t Q
def EX6_findOrder_69 (z : Zt) (a2 : Int32) (Q : Option Value → Me → Prop) : (Int32 × Int32 × Int32 × Int32 × Me) → Prop := fun s => Ev (wY, z) mtX6_findOrder 6 132 69 [some (.ref 0), none, some (.int a2), some (.int s.1), some (.int s.2.1), some (.int s.2.2.1), some (.int s.2.2.2.1), none, none, none] [] s.2.2.2.2 Q
def GX6_findOrder_69 (z : Zt) (a2 : Int32) (Q : Option Value → Me → Prop) : (Int32 × Int32 × Int32 × Int32 × Me) ⊕ (Me) → Prop := Sum.elim (EX6_findOrder_69 z a2 Q) (XX6_findOrder_69 z a2 Q)
def XX6_findOrder_87 (z : Zt) (a2 : Int32) (a3 : Int32) (a4 : Int32) (a5 : Int32) (a6 : Int32) (Q : Option Value → Me → Prop) : (Int32 × Int32 × Me) → Prop := fun t => Ev (wY, z) mtX6_findOrder 6 132 182 [some (.ref 0), none, some (.int a2), none, none, some (.int a5), some (.int a6), some (.int t.1), some (.int t.2.1), none] [] t.2.2 Q
def EX6_findOrder_87 (z : Zt) (a2 : Int32) (a3 : Int32) (a4 : Int32) (a5 : Int32) (a6 : Int32) (Q : Option Value → Me → Prop) : (Int32 × Int32 × Int32 × Me) → Prop := fun s => Ev (wY, z) mtX6_findOrder 6 132 87 [some (.ref 0), none, some (.int a2), some (.int a3), some (.int a4), some (.int a5), some (.int a6), some (.int s.1), some (.int s.2.1), some (.int s.2.2.1)] [] s.2.2.2 Q
def GX6_findOrder_87 (z : Zt) (a2 : Int32) (a3 : Int32) (a4 : Int32) (a5 : Int32) (a6 : Int32) (Q : Option Value → Me → Prop) : (Int32 × Int32 × Int32 × Me) ⊕ (Int32 × Int32 × Me) → Prop := Sum.elim (EX6_findOrder_87 z a2 a3 a4 a5 a6 Q) (XX6_findOrder_87 z a2 a3 a4 a5 a6 Q)
def fpX6_findOrder_b129_87 (a2 : Int32) (a3 : Int32) (a4 : Int32) (a5 : Int32) (a6 : Int32) (a7 : Int32) (t0 : Int32) (M : Me) : Option ((Int32 × Int32 × Int32 × Me) ⊕ (Int32 × Int32 × Me)) := (if t0 < 0 then
 some (.inl (a7, t0, (1 : Int32), M))
 else
 (fpX6_its a7 (1 : Int32) M).bind fun v14 =>
 (fpX6_bestFrom v14 t0 (a5 &&& (((1 : Int32) <<< (a7 &&& 31)) ^^^ (-1 : Int32))) (((M.1 0 12) - (1 : Int32)) - a6) (0 : Int32) M).bind fun q15 =>
 (if q15.1 = a2 then
 some (.inl (a7, t0, (0 : Int32), q15.2))
 else
 some (.inl (a7, t0, (1 : Int32), q15.2))))
set_option maxRecDepth 20000 in
theorem ebX6_findOrder_b129_87 {z : Zt} {Q : Option Value → Me → Prop} (a2 : Int32) (a3 : Int32) (a4 : Int32) (a5 : Int32) (a6 : Int32) (a7 : Int32) (t0 : Int32) (M : Me) (h : ok (fpX6_findOrder_b129_87 a2 a3 a4 a5 a6 a7 t0 M) (GX6_findOrder_87 z a2 a3 a4 a5 a6 Q)) : Ev (wY, z) mtX6_findOrder 6 132 129 [some (.ref 0), none, some (.int a2), some (.int a3), some (.int a4), some (.int a5), some (.int a6), some (.int a7), none, none] [.int t0] M Q := by
  unfold fpX6_findOrder_b129_87 at h
  refine e_istore dX6_findOrder_129 (by decide) rfl ?_
  refine e_iload dX6_findOrder_131 rfl ?_
  refine e_if_lt 172 dX6_findOrder_133 (by decide) (fun c13 => ?_) (fun c13 => ?_)
  · have h := ok_t c13 h
    refine e_iconst (1 : Int32) dX6_findOrder_172 (by decide) ?_
    refine e_goto 177 dX6_findOrder_173 (by decide) ?_
    refine e_istore dX6_findOrder_177 (by decide) rfl ?_
    refine e_goto 87 dX6_findOrder_179 (by decide) ?_
    refine e_forget [some (.ref 0), none, some (.int a2), some (.int a3), some (.int a4), some (.int a5), some (.int a6), some (.int a7), some (.int t0), some (.int (1 : Int32))] (leL_s (leL_n (leL_s (leL_s (leL_s (leL_s (leL_s (leL_s (leL_s (leL_s leL_0)))))))))) ?_
    have h := ok_some h
    exact h
  · have h := ok_f c13 h
    refine e_aload_n dX6_findOrder_136 rfl ?_
    refine e_aload_n dX6_findOrder_137 rfl ?_
    refine e_iload dX6_findOrder_138 rfl ?_
    refine e_iconst (1 : Int32) dX6_findOrder_140 (by decide) ?_
    refine e_callV (f2 := 1) (l2 := 21) (ν := mtX6_its) (as := [.int a7, .int (1 : Int32)]) cv_RX6_90 is_Y0 kc_7 ⟨Nat.le_of_ble_eq_true rfl, Nat.le_of_ble_eq_true rfl⟩ rfl rfl (Nat.le_of_ble_eq_true rfl) dX6_findOrder_141 ?_
    refine ctX6_its a7 (1 : Int32) (ok_bnd h (fun v14 h => ?_))
    show Ev (wY, z) mtX6_findOrder 6 132 144 [some (.ref 0), none, some (.int a2), some (.int a3), some (.int a4), some (.int a5), some (.int a6), some (.int a7), some (.int t0), none] [.int v14, .ref 0] M Q
    refine e_iload dX6_findOrder_144 rfl ?_
    refine e_iload dX6_findOrder_146 rfl ?_
    refine e_iconst (1 : Int32) dX6_findOrder_148 (by decide) ?_
    refine e_iload dX6_findOrder_149 rfl ?_
    refine e_ishl dX6_findOrder_151 ?_
    refine e_iconst (-1 : Int32) dX6_findOrder_152 (by decide) ?_
    refine e_ixor dX6_findOrder_153 ?_
    refine e_iand dX6_findOrder_154 ?_
    refine e_aload_n dX6_findOrder_155 rfl ?_
    refine e_getI fa_RX6_163 is_Y0 dX6_findOrder_156 ?_
    refine e_iconst (1 : Int32) dX6_findOrder_159 (by decide) ?_
    refine e_isub dX6_findOrder_160 ?_
    refine e_iload dX6_findOrder_161 rfl ?_
    refine e_isub dX6_findOrder_163 ?_
    refine e_iconst (0 : Int32) dX6_findOrder_164 (by decide) ?_
    refine e_callV (f2 := 3) (l2 := 72) (ν := mtX6_bestFrom) (as := [.int v14, .int t0, .int (a5 &&& (((1 : Int32) <<< (a7 &&& 31)) ^^^ (-1 : Int32))), .int (((M.1 0 12) - (1 : Int32)) - a6), .int (0 : Int32)]) cv_RX6_156 is_Y0 kc_7 ⟨Nat.le_of_ble_eq_true rfl, Nat.le_of_ble_eq_true rfl⟩ rfl rfl (Nat.le_of_ble_eq_true rfl) dX6_findOrder_165 ?_
    refine ctX6_bestFrom v14 t0 (a5 &&& (((1 : Int32) <<< (a7 &&& 31)) ^^^ (-1 : Int32))) (((M.1 0 12) - (1 : Int32)) - a6) (0 : Int32) (ok_bnd h (fun q15 h => ?_))
    show Ev (wY, z) mtX6_findOrder 6 132 168 [some (.ref 0), none, some (.int a2), some (.int a3), some (.int a4), some (.int a5), some (.int a6), some (.int a7), some (.int t0), none] [.int q15.1] q15.2 Q
    refine e_iload_n dX6_findOrder_168 rfl ?_
    refine e_icmp_eq 176 dX6_findOrder_169 (by decide) (fun c16 => ?_) (fun c16 => ?_)
    · have h := ok_t c16 h
      refine e_iconst (0 : Int32) dX6_findOrder_176 (by decide) ?_
      refine e_istore dX6_findOrder_177 (by decide) rfl ?_
      refine e_goto 87 dX6_findOrder_179 (by decide) ?_
      refine e_forget [some (.ref 0), none, some (.int a2), some (.int a3), some (.int a4), some (.int a5), some (.int a6), some (.int a7), some (.int t0), some (.int (0 : Int32))] (leL_s (leL_n (leL_s (leL_s (leL_s (leL_s (leL_s (leL_s (leL_s (leL_s leL_0)))))))))) ?_
      have h := ok_some h
      exact h
    · have h := ok_f c16 h
      refine e_iconst (1 : Int32) dX6_findOrder_172 (by decide) ?_
      refine e_goto 177 dX6_findOrder_173 (by decide) ?_
      refine e_istore dX6_findOrder_177 (by decide) rfl ?_
      refine e_goto 87 dX6_findOrder_179 (by decide) ?_
      refine e_forget [some (.ref 0), none, some (.int a2), some (.int a3), some (.int a4), some (.int a5), some (.int a6), some (.int a7), some (.int t0), some (.int (1 : Int32))] (leL_s (leL_n (leL_s (leL_s (leL_s (leL_s (leL_s (leL_s (leL_s (leL_s leL_0)))))))))) ?_
      have h := ok_some h
      exact h
def fpX6_findOrder_l87s (a2 : Int32) (a3 : Int32) (a4 : Int32) (a5 : Int32) (a6 : Int32) (a7 : Int32) (a8 : Int32) (a9 : Int32) (M : Me) : Option ((Int32 × Int32 × Int32 × Me) ⊕ (Int32 × Int32 × Me)) := (if a9 = 0 then
 some (.inr (a7, a8, M))
 else
 letv (a7 + (1 : Int32)) fun v11 =>
 (if (fpX6_has a5 v11) = 0 then
 fpX6_findOrder_b129_87 a2 a3 a4 a5 a6 v11 (-1 : Int32) M
 else
 (fpX6_its v11 (1 : Int32) M).bind fun v17 =>
 (fpX6_left a4 a3 v17 M).bind fun v18 =>
 (fpX6_ran v18 v11 M).bind fun v19 =>
 fpX6_findOrder_b129_87 a2 a3 a4 a5 a6 v11 v19 M))
def fpX6_findOrder_l87 (a2 : Int32) (a3 : Int32) (a4 : Int32) (a5 : Int32) (a6 : Int32) (s : Int32 × Int32 × Int32 × Me) : Option ((Int32 × Int32 × Int32 × Me) ⊕ (Int32 × Int32 × Me)) := fpX6_findOrder_l87s a2 a3 a4 a5 a6 s.1 s.2.1 s.2.2.1 s.2.2.2
set_option maxRecDepth 20000 in
theorem ebX6_findOrder_l87s {z : Zt} {Q : Option Value → Me → Prop} (a2 : Int32) (a3 : Int32) (a4 : Int32) (a5 : Int32) (a6 : Int32) (a7 : Int32) (a8 : Int32) (a9 : Int32) (M : Me) (h : ok (fpX6_findOrder_l87s a2 a3 a4 a5 a6 a7 a8 a9 M) (GX6_findOrder_87 z a2 a3 a4 a5 a6 Q)) : Ev (wY, z) mtX6_findOrder 6 132 87 [some (.ref 0), none, some (.int a2), some (.int a3), some (.int a4), some (.int a5), some (.int a6), some (.int a7), some (.int a8), some (.int a9)] [] M Q := by
  unfold fpX6_findOrder_l87s at h
  refine e_iload dX6_findOrder_87 rfl ?_
  refine e_if_eq 182 dX6_findOrder_89 (by decide) (fun c10 => ?_) (fun c10 => ?_)
  · have h := ok_t c10 h
    refine e_forget [some (.ref 0), none, some (.int a2), none, none, some (.int a5), some (.int a6), some (.int a7), some (.int a8), none] (leL_s (leL_n (leL_s (leL_n (leL_n (leL_s (leL_s (leL_s (leL_s (leL_n leL_0)))))))))) ?_
    have h := ok_some h
    exact h
  · have h := ok_f c10 h
    refine lv1e h (fun v11 ev11 h => ?_)
    refine e_iinc v11 dX6_findOrder_92 rfl ev11 (by decide) rfl ?_
    refine e_iload dX6_findOrder_95 rfl ?_
    refine e_iload dX6_findOrder_97 rfl ?_
    refine e_callS (f2 := 0) (l2 := 0) (ν := mtX6_has) (as := [.int a5, .int v11]) cs_RX6_141 ⟨Nat.le_of_ble_eq_true rfl, Nat.le_of_ble_eq_true rfl⟩ rfl rfl (Nat.le_of_ble_eq_true rfl) dX6_findOrder_99 ?_
    refine ctX6_has a5 v11 ?_
    show Ev (wY, z) mtX6_findOrder 6 132 102 [some (.ref 0), none, some (.int a2), some (.int a3), some (.int a4), some (.int a5), some (.int a6), some (.int v11), some (.int a8), some (.int a9)] [.int (fpX6_has a5 v11)] M Q
    refine e_if_eq 128 dX6_findOrder_102 (by decide) (fun c12 => ?_) (fun c12 => ?_)
    · have h := ok_t c12 h
      refine e_iconst (-1 : Int32) dX6_findOrder_128 (by decide) ?_
      refine e_forget [some (.ref 0), none, some (.int a2), some (.int a3), some (.int a4), some (.int a5), some (.int a6), some (.int v11), none, none] (leL_s (leL_n (leL_s (leL_s (leL_s (leL_s (leL_s (leL_s (leL_n (leL_n leL_0)))))))))) ?_
      exact ebX6_findOrder_b129_87 a2 a3 a4 a5 a6 v11 (-1 : Int32) M h
    · have h := ok_f c12 h
      refine e_aload_n dX6_findOrder_105 rfl ?_
      refine e_aload_n dX6_findOrder_106 rfl ?_
      refine e_iload dX6_findOrder_107 rfl ?_
      refine e_iload_n dX6_findOrder_109 rfl ?_
      refine e_aload_n dX6_findOrder_110 rfl ?_
      refine e_iload dX6_findOrder_111 rfl ?_
      refine e_iconst (1 : Int32) dX6_findOrder_113 (by decide) ?_
      refine e_callV (f2 := 1) (l2 := 21) (ν := mtX6_its) (as := [.int v11, .int (1 : Int32)]) cv_RX6_90 is_Y0 kc_7 ⟨Nat.le_of_ble_eq_true rfl, Nat.le_of_ble_eq_true rfl⟩ rfl rfl (Nat.le_of_ble_eq_true rfl) dX6_findOrder_114 ?_
      refine ctX6_its v11 (1 : Int32) (ok_bnd h (fun v17 h => ?_))
      show Ev (wY, z) mtX6_findOrder 6 132 117 [some (.ref 0), none, some (.int a2), some (.int a3), some (.int a4), some (.int a5), some (.int a6), some (.int v11), some (.int a8), some (.int a9)] [.int v17, .int a3, .int a4, .ref 0, .ref 0] M Q
      refine e_callV (f2 := 1) (l2 := 21) (ν := mtX6_left) (as := [.int a4, .int a3, .int v17]) cv_RX6_123 is_Y0 kc_7 ⟨Nat.le_of_ble_eq_true rfl, Nat.le_of_ble_eq_true rfl⟩ rfl rfl (Nat.le_of_ble_eq_true rfl) dX6_findOrder_117 ?_
      refine ctX6_left a4 a3 v17 (ok_bnd h (fun v18 h => ?_))
      show Ev (wY, z) mtX6_findOrder 6 132 120 [some (.ref 0), none, some (.int a2), some (.int a3), some (.int a4), some (.int a5), some (.int a6), some (.int v11), some (.int a8), some (.int a9)] [.int v18, .ref 0] M Q
      refine e_iload dX6_findOrder_120 rfl ?_
      refine e_callV (f2 := 1) (l2 := 21) (ν := mtX6_ran) (as := [.int v18, .int v11]) cv_RX6_150 is_Y0 kc_7 ⟨Nat.le_of_ble_eq_true rfl, Nat.le_of_ble_eq_true rfl⟩ rfl rfl (Nat.le_of_ble_eq_true rfl) dX6_findOrder_122 ?_
      refine ctX6_ran v18 v11 (ok_bnd h (fun v19 h => ?_))
      show Ev (wY, z) mtX6_findOrder 6 132 125 [some (.ref 0), none, some (.int a2), some (.int a3), some (.int a4), some (.int a5), some (.int a6), some (.int v11), some (.int a8), some (.int a9)] [.int v19] M Q
      refine e_goto 129 dX6_findOrder_125 (by decide) ?_
      refine e_forget [some (.ref 0), none, some (.int a2), some (.int a3), some (.int a4), some (.int a5), some (.int a6), some (.int v11), none, none] (leL_s (leL_n (leL_s (leL_s (leL_s (leL_s (leL_s (leL_s (leL_n (leL_n leL_0)))))))))) ?_
      exact ebX6_findOrder_b129_87 a2 a3 a4 a5 a6 v11 v19 M h
theorem elX6_findOrder_l87 {z : Zt} {Q : Option Value → Me → Prop} (a2 : Int32) (a3 : Int32) (a4 : Int32) (a5 : Int32) (a6 : Int32) (N : Nat) (s : Int32 × Int32 × Int32 × Me) (h : ok (lp (fpX6_findOrder_l87 a2 a3 a4 a5 a6) N s) (XX6_findOrder_87 z a2 a3 a4 a5 a6 Q)) : EX6_findOrder_87 z a2 a3 a4 a5 a6 Q s :=
  lp_ind (fun s h => ebX6_findOrder_l87s a2 a3 a4 a5 a6 s.1 s.2.1 s.2.2.1 s.2.2.2 h) N s h
def fpX6_findOrder_l69s (a2 : Int32) (a3 : Int32) (a4 : Int32) (a5 : Int32) (a6 : Int32) (M : Me) : Option ((Int32 × Int32 × Int32 × Int32 × Me) ⊕ (Me)) := (if (M.1 0 12) ≤ a6 then
 some (.inr M)
 else
 (lp (fpX6_findOrder_l87 a2 a3 a4 a5 a6) FU ((-1 : Int32), (-1 : Int32), (1 : Int32), M)).bind fun r20 =>
 (inb a6 8).bind fun k21 =>
 letv (wrM r20.2.2 10 k21 r20.1) fun M22 =>
 (fpX6_its r20.1 (1 : Int32) M22).bind fun v23 =>
 letv (a5 &&& (((1 : Int32) <<< (r20.1 &&& 31)) ^^^ (-1 : Int32))) fun v24 =>
 letv (a6 + (1 : Int32)) fun v25 =>
 some (.inl (v23, r20.2.1, v24, v25, M22)))
def fpX6_findOrder_l69 (a2 : Int32) (s : Int32 × Int32 × Int32 × Int32 × Me) : Option ((Int32 × Int32 × Int32 × Int32 × Me) ⊕ (Me)) := fpX6_findOrder_l69s a2 s.1 s.2.1 s.2.2.1 s.2.2.2.1 s.2.2.2.2
set_option maxRecDepth 20000 in
theorem ebX6_findOrder_l69s {z : Zt} {Q : Option Value → Me → Prop} (a2 : Int32) (a3 : Int32) (a4 : Int32) (a5 : Int32) (a6 : Int32) (M : Me) (h : ok (fpX6_findOrder_l69s a2 a3 a4 a5 a6 M) (GX6_findOrder_69 z a2 Q)) : Ev (wY, z) mtX6_findOrder 6 132 69 [some (.ref 0), none, some (.int a2), some (.int a3), some (.int a4), some (.int a5), some (.int a6), none, none, none] [] M Q := by
  unfold fpX6_findOrder_l69s at h
  refine e_iload dX6_findOrder_69 rfl ?_
  refine e_aload_n dX6_findOrder_71 rfl ?_
  refine e_getI fa_RX6_163 is_Y0 dX6_findOrder_72 ?_
  refine e_icmp_ge 220 dX6_findOrder_75 (by decide) (fun c9 => ?_) (fun c9 => ?_)
  · have h := ok_t c9 h
    refine e_forget [none, none, some (.int a2), none, none, none, none, none, none, none] (leL_n (leL_n (leL_s (leL_n (leL_n (leL_n (leL_n (leL_n (leL_n (leL_n leL_0)))))))))) ?_
    have h := ok_some h
    exact h
  · have h := ok_f c9 h
    refine e_iconst (-1 : Int32) dX6_findOrder_78 (by decide) ?_
    refine e_istore dX6_findOrder_79 (by decide) rfl ?_
    refine e_iconst (-1 : Int32) dX6_findOrder_81 (by decide) ?_
    refine e_istore dX6_findOrder_82 (by decide) rfl ?_
    refine e_iconst (1 : Int32) dX6_findOrder_84 (by decide) ?_
    refine e_istore dX6_findOrder_85 (by decide) rfl ?_
    refine e_forget [some (.ref 0), none, some (.int a2), some (.int a3), some (.int a4), some (.int a5), some (.int a6), some (.int (-1 : Int32)), some (.int (-1 : Int32)), some (.int (1 : Int32))] (leL_s (leL_n (leL_s (leL_s (leL_s (leL_s (leL_s (leL_s (leL_s (leL_s leL_0)))))))))) ?_
    refine elX6_findOrder_l87 a2 a3 a4 a5 a6 FU ((-1 : Int32), (-1 : Int32), (1 : Int32), M) (ok_bnd h (fun r20 h => ?_))
    show Ev (wY, z) mtX6_findOrder 6 132 182 [some (.ref 0), none, some (.int a2), none, none, some (.int a5), some (.int a6), some (.int r20.1), some (.int r20.2.1), none] [] r20.2.2 Q
    refine e_aload_n dX6_findOrder_182 rfl ?_
    refine e_getR fa_RX6_37 is_Y0 rfl dX6_findOrder_183 ?_
    refine e_iload dX6_findOrder_186 rfl ?_
    refine e_iload dX6_findOrder_188 rfl ?_
    refine ok_inb h (fun k21 ek21 ik21 h => ?_)
    refine e_iastK ia_Y10 ik21 ek21 dX6_findOrder_190 ?_
    refine lv1 (P := fun M22 => Ev (wY, z) mtX6_findOrder 6 132 191 [some (.ref 0), none, some (.int a2), none, none, some (.int a5), some (.int a6), some (.int r20.1), some (.int r20.2.1), none] [] M22 Q) h (fun M22 h => ?_)
    refine e_aload_n dX6_findOrder_191 rfl ?_
    refine e_iload dX6_findOrder_192 rfl ?_
    refine e_iconst (1 : Int32) dX6_findOrder_194 (by decide) ?_
    refine e_callV (f2 := 1) (l2 := 21) (ν := mtX6_its) (as := [.int r20.1, .int (1 : Int32)]) cv_RX6_90 is_Y0 kc_7 ⟨Nat.le_of_ble_eq_true rfl, Nat.le_of_ble_eq_true rfl⟩ rfl rfl (Nat.le_of_ble_eq_true rfl) dX6_findOrder_195 ?_
    refine ctX6_its r20.1 (1 : Int32) (ok_bnd h (fun v23 h => ?_))
    show Ev (wY, z) mtX6_findOrder 6 132 198 [some (.ref 0), none, some (.int a2), none, none, some (.int a5), some (.int a6), some (.int r20.1), some (.int r20.2.1), none] [.int v23] M22 Q
    refine e_istore_n dX6_findOrder_198 (by decide) rfl ?_
    refine e_iload dX6_findOrder_199 rfl ?_
    refine e_istore dX6_findOrder_201 (by decide) rfl ?_
    refine e_iload dX6_findOrder_203 rfl ?_
    refine e_iconst (1 : Int32) dX6_findOrder_205 (by decide) ?_
    refine e_iload dX6_findOrder_206 rfl ?_
    refine e_ishl dX6_findOrder_208 ?_
    refine e_iconst (-1 : Int32) dX6_findOrder_209 (by decide) ?_
    refine e_ixor dX6_findOrder_210 ?_
    refine e_iand dX6_findOrder_211 ?_
    refine lv1 (P := fun v24 => Ev (wY, z) mtX6_findOrder 6 132 212 [some (.ref 0), none, some (.int a2), some (.int v23), some (.int r20.2.1), some (.int a5), some (.int a6), some (.int r20.1), some (.int r20.2.1), none] [.int v24] M22 Q) h (fun v24 h => ?_)
    refine e_istore dX6_findOrder_212 (by decide) rfl ?_
    refine lv1e h (fun v25 ev25 h => ?_)
    refine e_iinc v25 dX6_findOrder_214 rfl ev25 (by decide) rfl ?_
    refine e_goto 69 dX6_findOrder_217 (by decide) ?_
    refine e_forget [some (.ref 0), none, some (.int a2), some (.int v23), some (.int r20.2.1), some (.int v24), some (.int v25), none, none, none] (leL_s (leL_n (leL_s (leL_s (leL_s (leL_s (leL_s (leL_n (leL_n (leL_n leL_0)))))))))) ?_
    have h := ok_some h
    exact h
theorem elX6_findOrder_l69 {z : Zt} {Q : Option Value → Me → Prop} (a2 : Int32) (N : Nat) (s : Int32 × Int32 × Int32 × Int32 × Me) (h : ok (lp (fpX6_findOrder_l69 a2) N s) (XX6_findOrder_69 z a2 Q)) : EX6_findOrder_69 z a2 Q s :=
  lp_ind (fun s h => ebX6_findOrder_l69s a2 s.1 s.2.1 s.2.2.1 s.2.2.2.1 s.2.2.2.2 h) N s h
def fpX6_findOrder (a1 : Int32) (M : Me) : Option (Int32 × Me) := (fpX6_mostWith a1 M).bind fun q1 =>
 letv (wrM q1.2 0 12 (0 : Int32)) fun M2 =>
 (lp (fpX6_findOrder_l11 a1 q1.1) FU M2).bind fun r6 =>
 letv (r6.1 1 7) fun v7 =>
 letv (r6.1 0 8) fun v8 =>
 (lp (fpX6_findOrder_l69 q1.1) FU (v7, a1, v8, (0 : Int32), r6)).bind fun r26 =>
 some (q1.1, r26)
set_option maxRecDepth 20000 in
theorem ctX6_findOrder {z : Zt} {M : Me} {Q : Option Value → Me → Prop} (a1 : Int32)  (h : ok (fpX6_findOrder a1 M) (fun a => Q (some (.int a.1)) a.2)) : EvM (wY, z) mtX6_findOrder 6 132 [.ref 0, .int a1] M Q := by
  refine evm_of [some (.ref 0), some (.int a1), none, none, none, none, none, none, none, none] 8 (by decide +kernel) (Nat.le_of_ble_eq_true rfl) rfl ?_
  unfold fpX6_findOrder at h
  refine e_aload_n dX6_findOrder_0 rfl ?_
  refine e_iload_n dX6_findOrder_1 rfl ?_
  refine e_callV (f2 := 5) (l2 := 111) (ν := mtX6_mostWith) (as := [.int a1]) cv_RX6_160 is_Y0 kc_7 ⟨Nat.le_of_ble_eq_true rfl, Nat.le_of_ble_eq_true rfl⟩ rfl rfl (Nat.le_of_ble_eq_true rfl) dX6_findOrder_2 ?_
  refine ctX6_mostWith a1 (ok_bnd h (fun q1 h => ?_))
  show Ev (wY, z) mtX6_findOrder 6 132 5 [some (.ref 0), some (.int a1), none, none, none, none, none, none, none, none] [.int q1.1] q1.2 Q
  refine e_istore_n dX6_findOrder_5 (by decide) rfl ?_
  refine e_aload_n dX6_findOrder_6 rfl ?_
  refine e_iconst (0 : Int32) dX6_findOrder_7 (by decide) ?_
  refine e_putI fw_RX6_163 is_Y0 dX6_findOrder_8 ?_
  refine lv1 (P := fun M2 => Ev (wY, z) mtX6_findOrder 6 132 11 [some (.ref 0), some (.int a1), some (.int q1.1), none, none, none, none, none, none, none] [] M2 Q) h (fun M2 h => ?_)
  refine e_forget [some (.ref 0), some (.int a1), some (.int q1.1), none, none, none, none, none, none, none] (leL_s (leL_s (leL_s (leL_n (leL_n (leL_n (leL_n (leL_n (leL_n (leL_n leL_0)))))))))) ?_
  refine elX6_findOrder_l11 a1 q1.1 FU M2 (ok_bnd h (fun r6 h => ?_))
  show Ev (wY, z) mtX6_findOrder 6 132 49 [some (.ref 0), some (.int a1), some (.int q1.1), none, none, none, none, none, none, none] [] r6 Q
  refine e_aload_n dX6_findOrder_49 rfl ?_
  refine e_getR fa_RX6_7 is_Y0 rfl dX6_findOrder_50 ?_
  refine e_bipush (7 : Int32) dX6_findOrder_53 (by decide) ?_
  refine e_ialdK ia_Y1 (by unfold vp_in; decide) (q := 7) (by decide) dX6_findOrder_55 ?_
  refine lv1 (P := fun v7 => Ev (wY, z) mtX6_findOrder 6 132 56 [some (.ref 0), some (.int a1), some (.int q1.1), none, none, none, none, none, none, none] [.int v7] r6 Q) h (fun v7 h => ?_)
  refine e_istore_n dX6_findOrder_56 (by decide) rfl ?_
  refine e_iload_n dX6_findOrder_57 rfl ?_
  refine e_istore dX6_findOrder_58 (by decide) rfl ?_
  refine e_aload_n dX6_findOrder_60 rfl ?_
  refine e_getI fa_RX6_137 is_Y0 dX6_findOrder_61 ?_
  refine lv1 (P := fun v8 => Ev (wY, z) mtX6_findOrder 6 132 64 [some (.ref 0), some (.int a1), some (.int q1.1), some (.int v7), some (.int a1), none, none, none, none, none] [.int v8] r6 Q) h (fun v8 h => ?_)
  refine e_istore dX6_findOrder_64 (by decide) rfl ?_
  refine e_iconst (0 : Int32) dX6_findOrder_66 (by decide) ?_
  refine e_istore dX6_findOrder_67 (by decide) rfl ?_
  refine e_forget [some (.ref 0), none, some (.int q1.1), some (.int v7), some (.int a1), some (.int v8), some (.int (0 : Int32)), none, none, none] (leL_s (leL_n (leL_s (leL_s (leL_s (leL_s (leL_s (leL_n (leL_n (leL_n leL_0)))))))))) ?_
  refine elX6_findOrder_l69 q1.1 FU (v7, a1, v8, (0 : Int32), r6) (ok_bnd h (fun r26 h => ?_))
  show Ev (wY, z) mtX6_findOrder 6 132 220 [none, none, some (.int q1.1), none, none, none, none, none, none, none] [] r26 Q
  refine e_iload_n dX6_findOrder_220 rfl ?_
  have h := ok_some h
  exact e_iret rfl dX6_findOrder_221 h
def XX6_brings_15 (z : Zt) (a2 : Int32) (a3 : Int32) (M : Me) (Q : Option Value → Me → Prop) : (Int32 × Int32) → Prop := fun t => Ev (wY, z) mtX6_brings 2 44 92 [some (.ref 0), none, none, none, some (.int t.1), some (.int t.2), none, none, none] [] M Q
def EX6_brings_15 (z : Zt) (a2 : Int32) (a3 : Int32) (M : Me) (Q : Option Value → Me → Prop) : (Int32 × Int32 × Int32) → Prop := fun s => Ev (wY, z) mtX6_brings 2 44 15 [some (.ref 0), none, some (.int a2), some (.int a3), some (.int s.1), some (.int s.2.1), some (.int s.2.2), none, none] [] M Q
def GX6_brings_15 (z : Zt) (a2 : Int32) (a3 : Int32) (M : Me) (Q : Option Value → Me → Prop) : (Int32 × Int32 × Int32) ⊕ (Int32 × Int32) → Prop := Sum.elim (EX6_brings_15 z a2 a3 M Q) (XX6_brings_15 z a2 a3 M Q)
def fpX6_brings_l15s (a2 : Int32) (a3 : Int32) (a4 : Int32) (a5 : Int32) (a6 : Int32) (M : Me) : Option ((Int32 × Int32 × Int32) ⊕ (Int32 × Int32)) := (if a2 ≤ a6 then
 some (.inr (a4, a5))
 else
 (if a6 = a3 then
 letv (a6 + (1 : Int32)) fun v4 =>
 some (.inl (a4, a5, v4))
 else
 (inb a6 40).bind fun k5 =>
 letv (M.1 9 k5) fun v6 =>
 (fpX6_its v6 (1 : Int32) M).bind fun v7 =>
 (fpX6_left a5 a4 v7 M).bind fun v8 =>
 (fpX6_its v6 (1 : Int32) M).bind fun v9 =>
 (fpX6_ran v8 v6 M).bind fun v10 =>
 (if 0 ≤ v10 then
 letv (a6 + (1 : Int32)) fun v12 =>
 some (.inl (v9, v10, v12))
 else
 letv (a6 + (1 : Int32)) fun v13 =>
 some (.inl (v9, v8, v13)))))
def fpX6_brings_l15 (a2 : Int32) (a3 : Int32) (M : Me) (s : Int32 × Int32 × Int32) : Option ((Int32 × Int32 × Int32) ⊕ (Int32 × Int32)) := fpX6_brings_l15s a2 a3 s.1 s.2.1 s.2.2 M
set_option maxRecDepth 20000 in
theorem ebX6_brings_l15s {z : Zt} {Q : Option Value → Me → Prop} (a2 : Int32) (a3 : Int32) (a4 : Int32) (a5 : Int32) (a6 : Int32) (M : Me) (h : ok (fpX6_brings_l15s a2 a3 a4 a5 a6 M) (GX6_brings_15 z a2 a3 M Q)) : Ev (wY, z) mtX6_brings 2 44 15 [some (.ref 0), none, some (.int a2), some (.int a3), some (.int a4), some (.int a5), some (.int a6), none, none] [] M Q := by
  unfold fpX6_brings_l15s at h
  refine e_iload dX6_brings_15 rfl ?_
  refine e_iload_n dX6_brings_17 rfl ?_
  refine e_icmp_ge 92 dX6_brings_18 (by decide) (fun c2 => ?_) (fun c2 => ?_)
  · have h := ok_t c2 h
    refine e_forget [some (.ref 0), none, none, none, some (.int a4), some (.int a5), none, none, none] (leL_s (leL_n (leL_n (leL_n (leL_s (leL_s (leL_n (leL_n (leL_n leL_0))))))))) ?_
    have h := ok_some h
    exact h
  · have h := ok_f c2 h
    refine e_iload dX6_brings_21 rfl ?_
    refine e_iload_n dX6_brings_23 rfl ?_
    refine e_icmp_eq 86 dX6_brings_24 (by decide) (fun c3 => ?_) (fun c3 => ?_)
    · have h := ok_t c3 h
      refine lv1e h (fun v4 ev4 h => ?_)
      refine e_iinc v4 dX6_brings_86 rfl ev4 (by decide) rfl ?_
      refine e_goto 15 dX6_brings_89 (by decide) ?_
      refine e_forget [some (.ref 0), none, some (.int a2), some (.int a3), some (.int a4), some (.int a5), some (.int v4), none, none] (leL_s (leL_n (leL_s (leL_s (leL_s (leL_s (leL_s (leL_n (leL_n leL_0))))))))) ?_
      have h := ok_some h
      exact h
    · have h := ok_f c3 h
      refine e_aload_n dX6_brings_27 rfl ?_
      refine e_getR fa_RX6_34 is_Y0 rfl dX6_brings_28 ?_
      refine e_iload dX6_brings_31 rfl ?_
      refine ok_inb h (fun k5 ek5 ik5 h => ?_)
      refine e_ialdK ia_Y9 ik5 ek5 dX6_brings_33 ?_
      refine lv1 (P := fun v6 => Ev (wY, z) mtX6_brings 2 44 34 [some (.ref 0), none, some (.int a2), some (.int a3), some (.int a4), some (.int a5), some (.int a6), none, none] [.int v6] M Q) h (fun v6 h => ?_)
      refine e_istore dX6_brings_34 (by decide) rfl ?_
      refine e_aload_n dX6_brings_36 rfl ?_
      refine e_iload dX6_brings_37 rfl ?_
      refine e_iload dX6_brings_39 rfl ?_
      refine e_aload_n dX6_brings_41 rfl ?_
      refine e_iload dX6_brings_42 rfl ?_
      refine e_iconst (1 : Int32) dX6_brings_44 (by decide) ?_
      refine e_callV (f2 := 1) (l2 := 21) (ν := mtX6_its) (as := [.int v6, .int (1 : Int32)]) cv_RX6_90 is_Y0 kc_7 ⟨Nat.le_of_ble_eq_true rfl, Nat.le_of_ble_eq_true rfl⟩ rfl rfl (Nat.le_of_ble_eq_true rfl) dX6_brings_45 ?_
      refine ctX6_its v6 (1 : Int32) (ok_bnd h (fun v7 h => ?_))
      show Ev (wY, z) mtX6_brings 2 44 48 [some (.ref 0), none, some (.int a2), some (.int a3), some (.int a4), some (.int a5), some (.int a6), some (.int v6), none] [.int v7, .int a4, .int a5, .ref 0] M Q
      refine e_callV (f2 := 1) (l2 := 21) (ν := mtX6_left) (as := [.int a5, .int a4, .int v7]) cv_RX6_123 is_Y0 kc_7 ⟨Nat.le_of_ble_eq_true rfl, Nat.le_of_ble_eq_true rfl⟩ rfl rfl (Nat.le_of_ble_eq_true rfl) dX6_brings_48 ?_
      refine ctX6_left a5 a4 v7 (ok_bnd h (fun v8 h => ?_))
      show Ev (wY, z) mtX6_brings 2 44 51 [some (.ref 0), none, some (.int a2), some (.int a3), some (.int a4), some (.int a5), some (.int a6), some (.int v6), none] [.int v8] M Q
      refine e_istore dX6_brings_51 (by decide) rfl ?_
      refine e_aload_n dX6_brings_53 rfl ?_
      refine e_iload dX6_brings_54 rfl ?_
      refine e_iconst (1 : Int32) dX6_brings_56 (by decide) ?_
      refine e_callV (f2 := 1) (l2 := 21) (ν := mtX6_its) (as := [.int v6, .int (1 : Int32)]) cv_RX6_90 is_Y0 kc_7 ⟨Nat.le_of_ble_eq_true rfl, Nat.le_of_ble_eq_true rfl⟩ rfl rfl (Nat.le_of_ble_eq_true rfl) dX6_brings_57 ?_
      refine ctX6_its v6 (1 : Int32) (ok_bnd h (fun v9 h => ?_))
      show Ev (wY, z) mtX6_brings 2 44 60 [some (.ref 0), none, some (.int a2), some (.int a3), some (.int a4), some (.int v8), some (.int a6), some (.int v6), none] [.int v9] M Q
      refine e_istore dX6_brings_60 (by decide) rfl ?_
      refine e_aload_n dX6_brings_62 rfl ?_
      refine e_iload dX6_brings_63 rfl ?_
      refine e_iload dX6_brings_65 rfl ?_
      refine e_callV (f2 := 1) (l2 := 21) (ν := mtX6_ran) (as := [.int v8, .int v6]) cv_RX6_150 is_Y0 kc_7 ⟨Nat.le_of_ble_eq_true rfl, Nat.le_of_ble_eq_true rfl⟩ rfl rfl (Nat.le_of_ble_eq_true rfl) dX6_brings_67 ?_
      refine ctX6_ran v8 v6 (ok_bnd h (fun v10 h => ?_))
      show Ev (wY, z) mtX6_brings 2 44 70 [some (.ref 0), none, some (.int a2), some (.int a3), some (.int v9), some (.int v8), some (.int a6), some (.int v6), none] [.int v10] M Q
      refine e_istore dX6_brings_70 (by decide) rfl ?_
      refine e_iload dX6_brings_72 rfl ?_
      refine e_if_ge 82 dX6_brings_74 (by decide) (fun c11 => ?_) (fun c11 => ?_)
      · have h := ok_t c11 h
        refine e_iload dX6_brings_82 rfl ?_
        refine e_istore dX6_brings_84 (by decide) rfl ?_
        refine lv1e h (fun v12 ev12 h => ?_)
        refine e_iinc v12 dX6_brings_86 rfl ev12 (by decide) rfl ?_
        refine e_goto 15 dX6_brings_89 (by decide) ?_
        refine e_forget [some (.ref 0), none, some (.int a2), some (.int a3), some (.int v9), some (.int v10), some (.int v12), none, none] (leL_s (leL_n (leL_s (leL_s (leL_s (leL_s (leL_s (leL_n (leL_n leL_0))))))))) ?_
        have h := ok_some h
        exact h
      · have h := ok_f c11 h
        refine e_iload dX6_brings_77 rfl ?_
        refine e_goto 84 dX6_brings_79 (by decide) ?_
        refine e_istore dX6_brings_84 (by decide) rfl ?_
        refine lv1e h (fun v13 ev13 h => ?_)
        refine e_iinc v13 dX6_brings_86 rfl ev13 (by decide) rfl ?_
        refine e_goto 15 dX6_brings_89 (by decide) ?_
        refine e_forget [some (.ref 0), none, some (.int a2), some (.int a3), some (.int v9), some (.int v8), some (.int v13), none, none] (leL_s (leL_n (leL_s (leL_s (leL_s (leL_s (leL_s (leL_n (leL_n leL_0))))))))) ?_
        have h := ok_some h
        exact h
theorem elX6_brings_l15 {z : Zt} {Q : Option Value → Me → Prop} (a2 : Int32) (a3 : Int32) (M : Me) (N : Nat) (s : Int32 × Int32 × Int32) (h : ok (lp (fpX6_brings_l15 a2 a3 M) N s) (XX6_brings_15 z a2 a3 M Q)) : EX6_brings_15 z a2 a3 M Q s :=
  lp_ind (fun s h => ebX6_brings_l15s a2 a3 s.1 s.2.1 s.2.2 M h) N s h
def fpX6_brings (a1 : Int32) (a2 : Int32) (a3 : Int32) (M : Me) : Option (Int32) := letv (M.1 1 7) fun v1 =>
 (lp (fpX6_brings_l15 a2 a3 M) FU (v1, a1, (0 : Int32))).bind fun r14 =>
 (fpX6_left r14.2 r14.1 (0 : Int32) M).bind fun v15 =>
 some v15
set_option maxRecDepth 20000 in
theorem ctX6_brings {z : Zt} {M : Me} {Q : Option Value → Me → Prop} (a1 : Int32) (a2 : Int32) (a3 : Int32)  (h : ok (fpX6_brings a1 a2 a3 M) (fun a => Q (some (.int a)) M)) : EvM (wY, z) mtX6_brings 2 44 [.ref 0, .int a1, .int a2, .int a3] M Q := by
  refine evm_of [some (.ref 0), some (.int a1), some (.int a2), some (.int a3), none, none, none, none, none] 5 (by decide +kernel) (Nat.le_of_ble_eq_true rfl) rfl ?_
  unfold fpX6_brings at h
  refine e_aload_n dX6_brings_0 rfl ?_
  refine e_getR fa_RX6_7 is_Y0 rfl dX6_brings_1 ?_
  refine e_bipush (7 : Int32) dX6_brings_4 (by decide) ?_
  refine e_ialdK ia_Y1 (by unfold vp_in; decide) (q := 7) (by decide) dX6_brings_6 ?_
  refine lv1 (P := fun v1 => Ev (wY, z) mtX6_brings 2 44 7 [some (.ref 0), some (.int a1), some (.int a2), some (.int a3), none, none, none, none, none] [.int v1] M Q) h (fun v1 h => ?_)
  refine e_istore dX6_brings_7 (by decide) rfl ?_
  refine e_iload_n dX6_brings_9 rfl ?_
  refine e_istore dX6_brings_10 (by decide) rfl ?_
  refine e_iconst (0 : Int32) dX6_brings_12 (by decide) ?_
  refine e_istore dX6_brings_13 (by decide) rfl ?_
  refine e_forget [some (.ref 0), none, some (.int a2), some (.int a3), some (.int v1), some (.int a1), some (.int (0 : Int32)), none, none] (leL_s (leL_n (leL_s (leL_s (leL_s (leL_s (leL_s (leL_n (leL_n leL_0))))))))) ?_
  refine elX6_brings_l15 a2 a3 M FU (v1, a1, (0 : Int32)) (ok_bnd h (fun r14 h => ?_))
  show Ev (wY, z) mtX6_brings 2 44 92 [some (.ref 0), none, none, none, some (.int r14.1), some (.int r14.2), none, none, none] [] M Q
  refine e_aload_n dX6_brings_92 rfl ?_
  refine e_iload dX6_brings_93 rfl ?_
  refine e_iload dX6_brings_95 rfl ?_
  refine e_iconst (0 : Int32) dX6_brings_97 (by decide) ?_
  refine e_callV (f2 := 1) (l2 := 21) (ν := mtX6_left) (as := [.int r14.2, .int r14.1, .int (0 : Int32)]) cv_RX6_123 is_Y0 kc_7 ⟨Nat.le_of_ble_eq_true rfl, Nat.le_of_ble_eq_true rfl⟩ rfl rfl (Nat.le_of_ble_eq_true rfl) dX6_brings_98 ?_
  refine ctX6_left r14.2 r14.1 (0 : Int32) (ok_bnd h (fun v15 h => ?_))
  show Ev (wY, z) mtX6_brings 2 44 101 [some (.ref 0), none, none, none, some (.int r14.1), some (.int r14.2), none, none, none] [.int v15] M Q
  have h := ok_some h
  exact e_iret rfl dX6_brings_101 h
def XX6_row_21 (z : Zt) (a1 : Int32) (Q : Option Value → Me → Prop) : (Me) → Prop := fun t => Ev (wY, z) mtX6_row 5 111 44 [some (.ref 0), some (.int a1), none] [] t Q
def EX6_row_21 (z : Zt) (a1 : Int32) (Q : Option Value → Me → Prop) : (Int32 × Me) → Prop := fun s => Ev (wY, z) mtX6_row 5 111 21 [some (.ref 0), some (.int a1), some (.int s.1)] [] s.2 Q
def GX6_row_21 (z : Zt) (a1 : Int32) (Q : Option Value → Me → Prop) : (Int32 × Me) ⊕ (Me) → Prop := Sum.elim (EX6_row_21 z a1 Q) (XX6_row_21 z a1 Q)
def fpX6_row_l21s (a1 : Int32) (a2 : Int32) (M : Me) : Option ((Int32 × Me) ⊕ (Me)) := (if (M.1 1 0) ≤ a2 then
 some (.inr M)
 else
 (inb a2 40).bind fun k4 =>
 letv (wrM M 9 k4 a2) fun M5 =>
 letv (a2 + (1 : Int32)) fun v6 =>
 some (.inl (v6, M5)))
def fpX6_row_l21 (a1 : Int32) (s : Int32 × Me) : Option ((Int32 × Me) ⊕ (Me)) := fpX6_row_l21s a1 s.1 s.2
set_option maxRecDepth 20000 in
theorem ebX6_row_l21s {z : Zt} {Q : Option Value → Me → Prop} (a1 : Int32) (a2 : Int32) (M : Me) (h : ok (fpX6_row_l21s a1 a2 M) (GX6_row_21 z a1 Q)) : Ev (wY, z) mtX6_row 5 111 21 [some (.ref 0), some (.int a1), some (.int a2)] [] M Q := by
  unfold fpX6_row_l21s at h
  refine e_iload_n dX6_row_21 rfl ?_
  refine e_aload_n dX6_row_22 rfl ?_
  refine e_getR fa_RX6_7 is_Y0 rfl dX6_row_23 ?_
  refine e_iconst (0 : Int32) dX6_row_26 (by decide) ?_
  refine e_ialdK ia_Y1 (by unfold vp_in; decide) (q := 0) (by decide) dX6_row_27 ?_
  refine e_icmp_ge 44 dX6_row_28 (by decide) (fun c3 => ?_) (fun c3 => ?_)
  · have h := ok_t c3 h
    refine e_forget [some (.ref 0), some (.int a1), none] (leL_s (leL_s (leL_n leL_0))) ?_
    have h := ok_some h
    exact h
  · have h := ok_f c3 h
    refine e_aload_n dX6_row_31 rfl ?_
    refine e_getR fa_RX6_34 is_Y0 rfl dX6_row_32 ?_
    refine e_iload_n dX6_row_35 rfl ?_
    refine e_iload_n dX6_row_36 rfl ?_
    refine ok_inb h (fun k4 ek4 ik4 h => ?_)
    refine e_iastK ia_Y9 ik4 ek4 dX6_row_37 ?_
    refine lv1 (P := fun M5 => Ev (wY, z) mtX6_row 5 111 38 [some (.ref 0), some (.int a1), some (.int a2)] [] M5 Q) h (fun M5 h => ?_)
    refine lv1e h (fun v6 ev6 h => ?_)
    refine e_iinc v6 dX6_row_38 rfl ev6 (by decide) rfl ?_
    refine e_goto 21 dX6_row_41 (by decide) ?_
    refine e_forget [some (.ref 0), some (.int a1), some (.int v6)] (leL_s (leL_s (leL_s leL_0))) ?_
    have h := ok_some h
    exact h
theorem elX6_row_l21 {z : Zt} {Q : Option Value → Me → Prop} (a1 : Int32) (N : Nat) (s : Int32 × Me) (h : ok (lp (fpX6_row_l21 a1) N s) (XX6_row_21 z a1 Q)) : EX6_row_21 z a1 Q s :=
  lp_ind (fun s h => ebX6_row_l21s a1 s.1 s.2 h) N s h
def fpX6_row (a1 : Int32) (M : Me) : Option (Int32 × Me) := (if (fpX6_isWater a1 M) = 0 then
 (fpX6_finds (-1000001 : Int32) M).bind fun q9 =>
 some (q9.1, q9.2)
 else
 (fpX6_findYields M).bind fun q2 =>
 (lp (fpX6_row_l21 a1) FU ((0 : Int32), q2)).bind fun r7 =>
 (fpX6_brings a1 (r7.1 1 0) (-1 : Int32) r7).bind fun v8 =>
 some (v8, r7))
set_option maxRecDepth 20000 in
theorem ctX6_row {z : Zt} {M : Me} {Q : Option Value → Me → Prop} (a1 : Int32)  (h : ok (fpX6_row a1 M) (fun a => Q (some (.int a.1)) a.2)) : EvM (wY, z) mtX6_row 5 111 [.ref 0, .int a1] M Q := by
  refine evm_of [some (.ref 0), some (.int a1), none] 1 (by decide +kernel) (Nat.le_of_ble_eq_true rfl) rfl ?_
  unfold fpX6_row at h
  refine e_aload_n dX6_row_0 rfl ?_
  refine e_iload_n dX6_row_1 rfl ?_
  refine e_callV (f2 := 1) (l2 := 25) (ν := mtX6_isWater) (as := [.int a1]) cv_RX6_116 is_Y0 kc_7 ⟨Nat.le_of_ble_eq_true rfl, Nat.le_of_ble_eq_true rfl⟩ rfl rfl (Nat.le_of_ble_eq_true rfl) dX6_row_2 ?_
  refine ctX6_isWater a1 ?_
  show Ev (wY, z) mtX6_row 5 111 5 [some (.ref 0), some (.int a1), none] [.int (fpX6_isWater a1 M)] M Q
  refine e_if_ne 15 dX6_row_5 (by decide) (fun c1 => ?_) (fun c1 => ?_)
  · have h := ok_f c1 h
    refine e_aload_n dX6_row_15 rfl ?_
    refine e_callV (f2 := 4) (l2 := 89) (ν := mtX6_findYields) (as := []) cv_RX6_153 is_Y0 kc_7 ⟨Nat.le_of_ble_eq_true rfl, Nat.le_of_ble_eq_true rfl⟩ rfl rfl (Nat.le_of_ble_eq_true rfl) dX6_row_16 ?_
    refine ctX6_findYields (ok_bnd h (fun q2 h => ?_))
    show Ev (wY, z) mtX6_row 5 111 19 [some (.ref 0), some (.int a1), none] [] q2 Q
    refine e_iconst (0 : Int32) dX6_row_19 (by decide) ?_
    refine e_istore_n dX6_row_20 (by decide) rfl ?_
    refine e_forget [some (.ref 0), some (.int a1), some (.int (0 : Int32))] (leL_s (leL_s (leL_s leL_0))) ?_
    refine elX6_row_l21 a1 FU ((0 : Int32), q2) (ok_bnd h (fun r7 h => ?_))
    show Ev (wY, z) mtX6_row 5 111 44 [some (.ref 0), some (.int a1), none] [] r7 Q
    refine e_aload_n dX6_row_44 rfl ?_
    refine e_iload_n dX6_row_45 rfl ?_
    refine e_aload_n dX6_row_46 rfl ?_
    refine e_getR fa_RX6_7 is_Y0 rfl dX6_row_47 ?_
    refine e_iconst (0 : Int32) dX6_row_50 (by decide) ?_
    refine e_ialdK ia_Y1 (by unfold vp_in; decide) (q := 0) (by decide) dX6_row_51 ?_
    refine e_iconst (-1 : Int32) dX6_row_52 (by decide) ?_
    refine e_callV (f2 := 2) (l2 := 44) (ν := mtX6_brings) (as := [.int a1, .int (r7.1 1 0), .int (-1 : Int32)]) cv_RX6_166 is_Y0 kc_7 ⟨Nat.le_of_ble_eq_true rfl, Nat.le_of_ble_eq_true rfl⟩ rfl rfl (Nat.le_of_ble_eq_true rfl) dX6_row_53 ?_
    refine ctX6_brings a1 (r7.1 1 0) (-1 : Int32) (ok_bnd h (fun v8 h => ?_))
    show Ev (wY, z) mtX6_row 5 111 56 [some (.ref 0), some (.int a1), none] [.int v8] r7 Q
    have h := ok_some h
    exact e_iret rfl dX6_row_56 h
  · have h := ok_t c1 h
    refine e_aload_n dX6_row_8 rfl ?_
    refine e_ldc wk_RX6_55 dX6_row_9 ?_
    refine e_callV (f2 := 0) (l2 := 0) (ν := mtX6_finds) (as := [.int (-1000001 : Int32)]) cv_RX6_81 is_Y0 kc_7 ⟨Nat.le_of_ble_eq_true rfl, Nat.le_of_ble_eq_true rfl⟩ rfl rfl (Nat.le_of_ble_eq_true rfl) dX6_row_11 ?_
    refine ctX6_finds (-1000001 : Int32) (ok_bnd h (fun q9 h => ?_))
    show Ev (wY, z) mtX6_row 5 111 14 [some (.ref 0), some (.int a1), none] [.int q9.1] q9.2 Q
    have h := ok_some h
    exact e_iret rfl dX6_row_14 h
def fpX6_order (a1 : Int32) (a2 : Int32) (M : Me) : Option (Int32 × Me) := (if (fpX6_isWater a1 M) = 0 then
 (fpX6_finds (-1000001 : Int32) M).bind fun q2 =>
 some (q2.1, q2.2)
 else
 (if (fpX6_in (a2.toInt64) (0 : Int64) (7 : Int64)) = 0 then
 (fpX6_finds (-1000001 : Int32) M).bind fun q8 =>
 some (q8.1, q8.2)
 else
 (fpX6_findOrder a1 M).bind fun q4 =>
 (if (q4.2.1 0 12) ≤ a2 then
 (fpX6_finds (-1000004 : Int32) q4.2).bind fun q6 =>
 some (q6.1, q6.2)
 else
 (inb a2 8).bind fun k7 =>
 some ((q4.2.1 10 k7), q4.2))))
set_option maxRecDepth 20000 in
theorem ctX6_order {z : Zt} {M : Me} {Q : Option Value → Me → Prop} (a1 : Int32) (a2 : Int32)  (h : ok (fpX6_order a1 a2 M) (fun a => Q (some (.int a.1)) a.2)) : EvM (wY, z) mtX6_order 7 161 [.ref 0, .int a1, .int a2] M Q := by
  refine evm_of [some (.ref 0), some (.int a1), some (.int a2), none] 1 (by decide +kernel) (Nat.le_of_ble_eq_true rfl) rfl ?_
  unfold fpX6_order at h
  refine e_aload_n dX6_order_0 rfl ?_
  refine e_iload_n dX6_order_1 rfl ?_
  refine e_callV (f2 := 1) (l2 := 25) (ν := mtX6_isWater) (as := [.int a1]) cv_RX6_116 is_Y0 kc_7 ⟨Nat.le_of_ble_eq_true rfl, Nat.le_of_ble_eq_true rfl⟩ rfl rfl (Nat.le_of_ble_eq_true rfl) dX6_order_2 ?_
  refine ctX6_isWater a1 ?_
  show Ev (wY, z) mtX6_order 7 161 5 [some (.ref 0), some (.int a1), some (.int a2), none] [.int (fpX6_isWater a1 M)] M Q
  refine e_if_eq 20 dX6_order_5 (by decide) (fun c1 => ?_) (fun c1 => ?_)
  · have h := ok_t c1 h
    refine e_aload_n dX6_order_20 rfl ?_
    refine e_ldc wk_RX6_55 dX6_order_21 ?_
    refine e_callV (f2 := 0) (l2 := 0) (ν := mtX6_finds) (as := [.int (-1000001 : Int32)]) cv_RX6_81 is_Y0 kc_7 ⟨Nat.le_of_ble_eq_true rfl, Nat.le_of_ble_eq_true rfl⟩ rfl rfl (Nat.le_of_ble_eq_true rfl) dX6_order_23 ?_
    refine ctX6_finds (-1000001 : Int32) (ok_bnd h (fun q2 h => ?_))
    show Ev (wY, z) mtX6_order 7 161 26 [some (.ref 0), some (.int a1), some (.int a2), none] [.int q2.1] q2.2 Q
    have h := ok_some h
    exact e_iret rfl dX6_order_26 h
  · have h := ok_f c1 h
    refine e_iload_n dX6_order_8 rfl ?_
    refine e_i2l dX6_order_9 ?_
    refine e_lconst (0 : Int64) dX6_order_10 (by decide) ?_
    refine e_ldc2 wk_RX6_102 dX6_order_11 ?_
    refine e_callS (f2 := 0) (l2 := 0) (ν := mtX6_in) (as := [.long (a2.toInt64), .long (0 : Int64), .long (7 : Int64)]) cs_RX6_58 ⟨Nat.le_of_ble_eq_true rfl, Nat.le_of_ble_eq_true rfl⟩ rfl rfl (Nat.le_of_ble_eq_true rfl) dX6_order_14 ?_
    refine ctX6_in (a2.toInt64) (0 : Int64) (7 : Int64) ?_
    show Ev (wY, z) mtX6_order 7 161 17 [some (.ref 0), some (.int a1), some (.int a2), none] [.int (fpX6_in (a2.toInt64) (0 : Int64) (7 : Int64))] M Q
    refine e_if_ne 27 dX6_order_17 (by decide) (fun c3 => ?_) (fun c3 => ?_)
    · have h := ok_f c3 h
      refine e_aload_n dX6_order_27 rfl ?_
      refine e_iload_n dX6_order_28 rfl ?_
      refine e_callV (f2 := 6) (l2 := 132) (ν := mtX6_findOrder) (as := [.int a1]) cv_RX6_169 is_Y0 kc_7 ⟨Nat.le_of_ble_eq_true rfl, Nat.le_of_ble_eq_true rfl⟩ rfl rfl (Nat.le_of_ble_eq_true rfl) dX6_order_29 ?_
      refine ctX6_findOrder a1 (ok_bnd h (fun q4 h => ?_))
      show Ev (wY, z) mtX6_order 7 161 32 [some (.ref 0), some (.int a1), some (.int a2), none] [.int q4.1] q4.2 Q
      refine e_istore_n dX6_order_32 (by decide) rfl ?_
      refine e_iload_n dX6_order_33 rfl ?_
      refine e_aload_n dX6_order_34 rfl ?_
      refine e_getI fa_RX6_163 is_Y0 dX6_order_35 ?_
      refine e_icmp_ge 50 dX6_order_38 (by decide) (fun c5 => ?_) (fun c5 => ?_)
      · have h := ok_t c5 h
        refine e_aload_n dX6_order_50 rfl ?_
        refine e_ldc wk_RX6_172 dX6_order_51 ?_
        refine e_callV (f2 := 0) (l2 := 0) (ν := mtX6_finds) (as := [.int (-1000004 : Int32)]) cv_RX6_81 is_Y0 kc_7 ⟨Nat.le_of_ble_eq_true rfl, Nat.le_of_ble_eq_true rfl⟩ rfl rfl (Nat.le_of_ble_eq_true rfl) dX6_order_53 ?_
        refine ctX6_finds (-1000004 : Int32) (ok_bnd h (fun q6 h => ?_))
        show Ev (wY, z) mtX6_order 7 161 56 [some (.ref 0), some (.int a1), some (.int a2), some (.int q4.1)] [.int q6.1] q6.2 Q
        have h := ok_some h
        exact e_iret rfl dX6_order_56 h
      · have h := ok_f c5 h
        refine e_aload_n dX6_order_41 rfl ?_
        refine e_getR fa_RX6_37 is_Y0 rfl dX6_order_42 ?_
        refine e_iload_n dX6_order_45 rfl ?_
        refine ok_inb h (fun k7 ek7 ik7 h => ?_)
        refine e_ialdK ia_Y10 ik7 ek7 dX6_order_46 ?_
        refine e_goto 56 dX6_order_47 (by decide) ?_
        have h := ok_some h
        exact e_iret rfl dX6_order_56 h
    · have h := ok_t c3 h
      refine e_aload_n dX6_order_20 rfl ?_
      refine e_ldc wk_RX6_55 dX6_order_21 ?_
      refine e_callV (f2 := 0) (l2 := 0) (ν := mtX6_finds) (as := [.int (-1000001 : Int32)]) cv_RX6_81 is_Y0 kc_7 ⟨Nat.le_of_ble_eq_true rfl, Nat.le_of_ble_eq_true rfl⟩ rfl rfl (Nat.le_of_ble_eq_true rfl) dX6_order_23 ?_
      refine ctX6_finds (-1000001 : Int32) (ok_bnd h (fun q8 h => ?_))
      show Ev (wY, z) mtX6_order 7 161 26 [some (.ref 0), some (.int a1), some (.int a2), none] [.int q8.1] q8.2 Q
      have h := ok_some h
      exact e_iret rfl dX6_order_26 h
def XX6_least_30 (z : Zt) (Q : Option Value → Me → Prop) : (Int32 × Me) → Prop := fun t => Ev (wY, z) mtX6_least 5 111 72 [some (.ref 0), some (.int t.1)] [] t.2 Q
def EX6_least_30 (z : Zt) (Q : Option Value → Me → Prop) : (Int32 × Me) → Prop := fun s => Ev (wY, z) mtX6_least 5 111 30 [some (.ref 0), some (.int s.1)] [] s.2 Q
def GX6_least_30 (z : Zt) (Q : Option Value → Me → Prop) : (Int32 × Me) ⊕ (Int32 × Me) → Prop := Sum.elim (EX6_least_30 z Q) (XX6_least_30 z Q)
def fpX6_least_l30s (a1 : Int32) (M : Me) : Option ((Int32 × Me) ⊕ (Int32 × Me)) := (if (M.1 1 2) < a1 then
 some (.inr (a1, M))
 else
 (fpX6_bestFrom (M.1 1 7) a1 (M.1 0 8) (M.1 1 0) (0 : Int32) M).bind fun q4 =>
 (if 0 ≤ q4.1 then
 some (.inr (a1, q4.2))
 else
 letv (a1 + (1 : Int32)) fun v6 =>
 some (.inl (v6, q4.2))))
def fpX6_least_l30 (s : Int32 × Me) : Option ((Int32 × Me) ⊕ (Int32 × Me)) := fpX6_least_l30s s.1 s.2
set_option maxRecDepth 20000 in
theorem ebX6_least_l30s {z : Zt} {Q : Option Value → Me → Prop} (a1 : Int32) (M : Me) (h : ok (fpX6_least_l30s a1 M) (GX6_least_30 z Q)) : Ev (wY, z) mtX6_least 5 111 30 [some (.ref 0), some (.int a1)] [] M Q := by
  unfold fpX6_least_l30s at h
  refine e_iload_n dX6_least_30 rfl ?_
  refine e_aload_n dX6_least_31 rfl ?_
  refine e_getR fa_RX6_7 is_Y0 rfl dX6_least_32 ?_
  refine e_iconst (2 : Int32) dX6_least_35 (by decide) ?_
  refine e_ialdK ia_Y1 (by unfold vp_in; decide) (q := 2) (by decide) dX6_least_36 ?_
  refine e_icmp_gt 72 dX6_least_37 (by decide) (fun c3 => ?_) (fun c3 => ?_)
  · have h := ok_t c3 h
    refine e_forget [some (.ref 0), some (.int a1)] (leL_s (leL_s leL_0)) ?_
    have h := ok_some h
    exact h
  · have h := ok_f c3 h
    refine e_aload_n dX6_least_40 rfl ?_
    refine e_aload_n dX6_least_41 rfl ?_
    refine e_getR fa_RX6_7 is_Y0 rfl dX6_least_42 ?_
    refine e_bipush (7 : Int32) dX6_least_45 (by decide) ?_
    refine e_ialdK ia_Y1 (by unfold vp_in; decide) (q := 7) (by decide) dX6_least_47 ?_
    refine e_iload_n dX6_least_48 rfl ?_
    refine e_aload_n dX6_least_49 rfl ?_
    refine e_getI fa_RX6_137 is_Y0 dX6_least_50 ?_
    refine e_aload_n dX6_least_53 rfl ?_
    refine e_getR fa_RX6_7 is_Y0 rfl dX6_least_54 ?_
    refine e_iconst (0 : Int32) dX6_least_57 (by decide) ?_
    refine e_ialdK ia_Y1 (by unfold vp_in; decide) (q := 0) (by decide) dX6_least_58 ?_
    refine e_iconst (0 : Int32) dX6_least_59 (by decide) ?_
    refine e_callV (f2 := 3) (l2 := 72) (ν := mtX6_bestFrom) (as := [.int (M.1 1 7), .int a1, .int (M.1 0 8), .int (M.1 1 0), .int (0 : Int32)]) cv_RX6_156 is_Y0 kc_7 ⟨Nat.le_of_ble_eq_true rfl, Nat.le_of_ble_eq_true rfl⟩ rfl rfl (Nat.le_of_ble_eq_true rfl) dX6_least_60 ?_
    refine ctX6_bestFrom (M.1 1 7) a1 (M.1 0 8) (M.1 1 0) (0 : Int32) (ok_bnd h (fun q4 h => ?_))
    show Ev (wY, z) mtX6_least 5 111 63 [some (.ref 0), some (.int a1)] [.int q4.1] q4.2 Q
    refine e_if_ge 72 dX6_least_63 (by decide) (fun c5 => ?_) (fun c5 => ?_)
    · have h := ok_t c5 h
      refine e_forget [some (.ref 0), some (.int a1)] (leL_s (leL_s leL_0)) ?_
      have h := ok_some h
      exact h
    · have h := ok_f c5 h
      refine lv1e h (fun v6 ev6 h => ?_)
      refine e_iinc v6 dX6_least_66 rfl ev6 (by decide) rfl ?_
      refine e_goto 30 dX6_least_69 (by decide) ?_
      refine e_forget [some (.ref 0), some (.int v6)] (leL_s (leL_s leL_0)) ?_
      have h := ok_some h
      exact h
theorem elX6_least_l30 {z : Zt} {Q : Option Value → Me → Prop} (N : Nat) (s : Int32 × Me) (h : ok (lp (fpX6_least_l30) N s) (XX6_least_30 z Q)) : EX6_least_30 z Q s :=
  lp_ind (fun s h => ebX6_least_l30s s.1 s.2 h) N s h
def fpX6_least_b72 (a1 : Int32) (M : Me) : Option (Int32 × Me) := (if a1 ≤ (M.1 1 2) then
 some (a1, M)
 else
 (fpX6_finds (-1000004 : Int32) M).bind fun q9 =>
 some (q9.1, q9.2))
set_option maxRecDepth 20000 in
theorem ebX6_least_b72 {z : Zt} {Q : Option Value → Me → Prop} (a1 : Int32) (M : Me) (h : ok (fpX6_least_b72 a1 M) (fun a => Q (some (.int a.1)) a.2)) : Ev (wY, z) mtX6_least 5 111 72 [some (.ref 0), some (.int a1)] [] M Q := by
  unfold fpX6_least_b72 at h
  refine e_iload_n dX6_least_72 rfl ?_
  refine e_aload_n dX6_least_73 rfl ?_
  refine e_getR fa_RX6_7 is_Y0 rfl dX6_least_74 ?_
  refine e_iconst (2 : Int32) dX6_least_77 (by decide) ?_
  refine e_ialdK ia_Y1 (by unfold vp_in; decide) (q := 2) (by decide) dX6_least_78 ?_
  refine e_icmp_le 91 dX6_least_79 (by decide) (fun c8 => ?_) (fun c8 => ?_)
  · have h := ok_t c8 h
    refine e_iload_n dX6_least_91 rfl ?_
    have h := ok_some h
    exact e_iret rfl dX6_least_92 h
  · have h := ok_f c8 h
    refine e_aload_n dX6_least_82 rfl ?_
    refine e_ldc wk_RX6_172 dX6_least_83 ?_
    refine e_callV (f2 := 0) (l2 := 0) (ν := mtX6_finds) (as := [.int (-1000004 : Int32)]) cv_RX6_81 is_Y0 kc_7 ⟨Nat.le_of_ble_eq_true rfl, Nat.le_of_ble_eq_true rfl⟩ rfl rfl (Nat.le_of_ble_eq_true rfl) dX6_least_85 ?_
    refine ctX6_finds (-1000004 : Int32) (ok_bnd h (fun q9 h => ?_))
    show Ev (wY, z) mtX6_least 5 111 88 [some (.ref 0), some (.int a1)] [.int q9.1] q9.2 Q
    refine e_goto 92 dX6_least_88 (by decide) ?_
    have h := ok_some h
    exact e_iret rfl dX6_least_92 h
def fpX6_least  (M : Me) : Option (Int32 × Me) := (fpX6_findYields M).bind fun q1 =>
 (if (q1.1 0 8) = (((1 : Int32) <<< ((q1.1 1 0) &&& 31)) - (1 : Int32)) then
 (lp (fpX6_least_l30) FU ((0 : Int32), q1)).bind fun r7 =>
 fpX6_least_b72 r7.1 r7.2
 else
 (fpX6_finds (-1000004 : Int32) q1).bind fun q10 =>
 some (q10.1, q10.2))
set_option maxRecDepth 20000 in
theorem ctX6_least {z : Zt} {M : Me} {Q : Option Value → Me → Prop}   (h : ok (fpX6_least M) (fun a => Q (some (.int a.1)) a.2)) : EvM (wY, z) mtX6_least 5 111 [.ref 0] M Q := by
  refine evm_of [some (.ref 0), none] 1 (by decide +kernel) (Nat.le_of_ble_eq_true rfl) rfl ?_
  unfold fpX6_least at h
  refine e_aload_n dX6_least_0 rfl ?_
  refine e_callV (f2 := 4) (l2 := 89) (ν := mtX6_findYields) (as := []) cv_RX6_153 is_Y0 kc_7 ⟨Nat.le_of_ble_eq_true rfl, Nat.le_of_ble_eq_true rfl⟩ rfl rfl (Nat.le_of_ble_eq_true rfl) dX6_least_1 ?_
  refine ctX6_findYields (ok_bnd h (fun q1 h => ?_))
  show Ev (wY, z) mtX6_least 5 111 4 [some (.ref 0), none] [] q1 Q
  refine e_aload_n dX6_least_4 rfl ?_
  refine e_getI fa_RX6_137 is_Y0 dX6_least_5 ?_
  refine e_iconst (1 : Int32) dX6_least_8 (by decide) ?_
  refine e_aload_n dX6_least_9 rfl ?_
  refine e_getR fa_RX6_7 is_Y0 rfl dX6_least_10 ?_
  refine e_iconst (0 : Int32) dX6_least_13 (by decide) ?_
  refine e_ialdK ia_Y1 (by unfold vp_in; decide) (q := 0) (by decide) dX6_least_14 ?_
  refine e_ishl dX6_least_15 ?_
  refine e_iconst (1 : Int32) dX6_least_16 (by decide) ?_
  refine e_isub dX6_least_17 ?_
  refine e_icmp_eq 28 dX6_least_18 (by decide) (fun c2 => ?_) (fun c2 => ?_)
  · have h := ok_t c2 h
    refine e_iconst (0 : Int32) dX6_least_28 (by decide) ?_
    refine e_istore_n dX6_least_29 (by decide) rfl ?_
    refine e_forget [some (.ref 0), some (.int (0 : Int32))] (leL_s (leL_s leL_0)) ?_
    refine elX6_least_l30 FU ((0 : Int32), q1) (ok_bnd h (fun r7 h => ?_))
    show Ev (wY, z) mtX6_least 5 111 72 [some (.ref 0), some (.int r7.1)] [] r7.2 Q
    refine e_forget [some (.ref 0), some (.int r7.1)] (leL_s (leL_s leL_0)) ?_
    exact ebX6_least_b72 r7.1 r7.2 h
  · have h := ok_f c2 h
    refine e_aload_n dX6_least_21 rfl ?_
    refine e_ldc wk_RX6_172 dX6_least_22 ?_
    refine e_callV (f2 := 0) (l2 := 0) (ν := mtX6_finds) (as := [.int (-1000004 : Int32)]) cv_RX6_81 is_Y0 kc_7 ⟨Nat.le_of_ble_eq_true rfl, Nat.le_of_ble_eq_true rfl⟩ rfl rfl (Nat.le_of_ble_eq_true rfl) dX6_least_24 ?_
    refine ctX6_finds (-1000004 : Int32) (ok_bnd h (fun q10 h => ?_))
    show Ev (wY, z) mtX6_least 5 111 27 [some (.ref 0), none] [.int q10.1] q10.2 Q
    have h := ok_some h
    exact e_iret rfl dX6_least_27 h
def XX6_leastFor_49 (z : Zt) (a1 : Int32) (Q : Option Value → Me → Prop) : (Int32 × Me) → Prop := fun t => Ev (wY, z) mtX6_leastFor 6 132 85 [none, none, none, some (.int t.1), none] [] t.2 Q
def EX6_leastFor_49 (z : Zt) (a1 : Int32) (Q : Option Value → Me → Prop) : (Int32 × Int32 × Me) → Prop := fun s => Ev (wY, z) mtX6_leastFor 6 132 49 [some (.ref 0), some (.int a1), some (.int s.1), some (.int s.2.1), none] [] s.2.2 Q
def GX6_leastFor_49 (z : Zt) (a1 : Int32) (Q : Option Value → Me → Prop) : (Int32 × Int32 × Me) ⊕ (Int32 × Me) → Prop := Sum.elim (EX6_leastFor_49 z a1 Q) (XX6_leastFor_49 z a1 Q)
def fpX6_leastFor_l49s (a1 : Int32) (a2 : Int32) (a3 : Int32) (M : Me) : Option ((Int32 × Int32 × Me) ⊕ (Int32 × Me)) := (if (a3 - a2) ≤ (1 : Int32) then
 some (.inr (a3, M))
 else
 letv ((a2 + a3) / (2 : Int32)) fun v6 =>
 (fpX6_mostWith v6 M).bind fun q7 =>
 (if a1 ≤ q7.1 then
 some (.inl (a2, v6, q7.2))
 else
 some (.inl (v6, a3, q7.2))))
def fpX6_leastFor_l49 (a1 : Int32) (s : Int32 × Int32 × Me) : Option ((Int32 × Int32 × Me) ⊕ (Int32 × Me)) := fpX6_leastFor_l49s a1 s.1 s.2.1 s.2.2
set_option maxRecDepth 20000 in
theorem ebX6_leastFor_l49s {z : Zt} {Q : Option Value → Me → Prop} (a1 : Int32) (a2 : Int32) (a3 : Int32) (M : Me) (h : ok (fpX6_leastFor_l49s a1 a2 a3 M) (GX6_leastFor_49 z a1 Q)) : Ev (wY, z) mtX6_leastFor 6 132 49 [some (.ref 0), some (.int a1), some (.int a2), some (.int a3), none] [] M Q := by
  unfold fpX6_leastFor_l49s at h
  refine e_iload_n dX6_leastFor_49 rfl ?_
  refine e_iload_n dX6_leastFor_50 rfl ?_
  refine e_isub dX6_leastFor_51 ?_
  refine e_iconst (1 : Int32) dX6_leastFor_52 (by decide) ?_
  refine e_icmp_le 85 dX6_leastFor_53 (by decide) (fun c5 => ?_) (fun c5 => ?_)
  · have h := ok_t c5 h
    refine e_forget [none, none, none, some (.int a3), none] (leL_n (leL_n (leL_n (leL_s (leL_n leL_0))))) ?_
    have h := ok_some h
    exact h
  · have h := ok_f c5 h
    refine e_iload_n dX6_leastFor_56 rfl ?_
    refine e_iload_n dX6_leastFor_57 rfl ?_
    refine e_iadd dX6_leastFor_58 ?_
    refine e_iconst (2 : Int32) dX6_leastFor_59 (by decide) ?_
    refine e_idiv dX6_leastFor_60 (by decide) ?_
    refine lv1 (P := fun v6 => Ev (wY, z) mtX6_leastFor 6 132 61 [some (.ref 0), some (.int a1), some (.int a2), some (.int a3), none] [.int v6] M Q) h (fun v6 h => ?_)
    refine e_istore dX6_leastFor_61 (by decide) rfl ?_
    refine e_aload_n dX6_leastFor_63 rfl ?_
    refine e_iload dX6_leastFor_64 rfl ?_
    refine e_callV (f2 := 5) (l2 := 111) (ν := mtX6_mostWith) (as := [.int v6]) cv_RX6_160 is_Y0 kc_7 ⟨Nat.le_of_ble_eq_true rfl, Nat.le_of_ble_eq_true rfl⟩ rfl rfl (Nat.le_of_ble_eq_true rfl) dX6_leastFor_66 ?_
    refine ctX6_mostWith v6 (ok_bnd h (fun q7 h => ?_))
    show Ev (wY, z) mtX6_leastFor 6 132 69 [some (.ref 0), some (.int a1), some (.int a2), some (.int a3), some (.int v6)] [.int q7.1] q7.2 Q
    refine e_iload_n dX6_leastFor_69 rfl ?_
    refine e_icmp_ge 79 dX6_leastFor_70 (by decide) (fun c8 => ?_) (fun c8 => ?_)
    · have h := ok_t c8 h
      refine e_iload dX6_leastFor_79 rfl ?_
      refine e_istore_n dX6_leastFor_81 (by decide) rfl ?_
      refine e_goto 49 dX6_leastFor_82 (by decide) ?_
      refine e_forget [some (.ref 0), some (.int a1), some (.int a2), some (.int v6), none] (leL_s (leL_s (leL_s (leL_s (leL_n leL_0))))) ?_
      have h := ok_some h
      exact h
    · have h := ok_f c8 h
      refine e_iload dX6_leastFor_73 rfl ?_
      refine e_istore_n dX6_leastFor_75 (by decide) rfl ?_
      refine e_goto 82 dX6_leastFor_76 (by decide) ?_
      refine e_goto 49 dX6_leastFor_82 (by decide) ?_
      refine e_forget [some (.ref 0), some (.int a1), some (.int v6), some (.int a3), none] (leL_s (leL_s (leL_s (leL_s (leL_n leL_0))))) ?_
      have h := ok_some h
      exact h
theorem elX6_leastFor_l49 {z : Zt} {Q : Option Value → Me → Prop} (a1 : Int32) (N : Nat) (s : Int32 × Int32 × Me) (h : ok (lp (fpX6_leastFor_l49 a1) N s) (XX6_leastFor_49 z a1 Q)) : EX6_leastFor_49 z a1 Q s :=
  lp_ind (fun s h => ebX6_leastFor_l49s a1 s.1 s.2.1 s.2.2 h) N s h
def fpX6_leastFor (a1 : Int32) (M : Me) : Option (Int32 × Me) := (if (fpX6_in (a1.toInt64) (0 : Int64) (999 : Int64)) = 0 then
 (fpX6_finds (-1000001 : Int32) M).bind fun q11 =>
 some (q11.1, q11.2)
 else
 (fpX6_mostWith (M.1 1 2) M).bind fun q2 =>
 (if a1 ≤ q2.1 then
 letv (q2.2.1 1 2) fun v4 =>
 (lp (fpX6_leastFor_l49 a1) FU ((-1 : Int32), v4, q2.2)).bind fun r9 =>
 some (r9.1, r9.2)
 else
 (fpX6_finds (-1000004 : Int32) q2.2).bind fun q10 =>
 some (q10.1, q10.2)))
set_option maxRecDepth 20000 in
theorem ctX6_leastFor {z : Zt} {M : Me} {Q : Option Value → Me → Prop} (a1 : Int32)  (h : ok (fpX6_leastFor a1 M) (fun a => Q (some (.int a.1)) a.2)) : EvM (wY, z) mtX6_leastFor 6 132 [.ref 0, .int a1] M Q := by
  refine evm_of [some (.ref 0), some (.int a1), none, none, none] 3 (by decide +kernel) (Nat.le_of_ble_eq_true rfl) rfl ?_
  unfold fpX6_leastFor at h
  refine e_iload_n dX6_leastFor_0 rfl ?_
  refine e_i2l dX6_leastFor_1 ?_
  refine e_lconst (0 : Int64) dX6_leastFor_2 (by decide) ?_
  refine e_ldc2 wk_RX6_107 dX6_leastFor_3 ?_
  refine e_callS (f2 := 0) (l2 := 0) (ν := mtX6_in) (as := [.long (a1.toInt64), .long (0 : Int64), .long (999 : Int64)]) cs_RX6_58 ⟨Nat.le_of_ble_eq_true rfl, Nat.le_of_ble_eq_true rfl⟩ rfl rfl (Nat.le_of_ble_eq_true rfl) dX6_leastFor_6 ?_
  refine ctX6_in (a1.toInt64) (0 : Int64) (999 : Int64) ?_
  show Ev (wY, z) mtX6_leastFor 6 132 9 [some (.ref 0), some (.int a1), none, none, none] [.int (fpX6_in (a1.toInt64) (0 : Int64) (999 : Int64))] M Q
  refine e_if_ne 19 dX6_leastFor_9 (by decide) (fun c1 => ?_) (fun c1 => ?_)
  · have h := ok_f c1 h
    refine e_aload_n dX6_leastFor_19 rfl ?_
    refine e_aload_n dX6_leastFor_20 rfl ?_
    refine e_getR fa_RX6_7 is_Y0 rfl dX6_leastFor_21 ?_
    refine e_iconst (2 : Int32) dX6_leastFor_24 (by decide) ?_
    refine e_ialdK ia_Y1 (by unfold vp_in; decide) (q := 2) (by decide) dX6_leastFor_25 ?_
    refine e_callV (f2 := 5) (l2 := 111) (ν := mtX6_mostWith) (as := [.int (M.1 1 2)]) cv_RX6_160 is_Y0 kc_7 ⟨Nat.le_of_ble_eq_true rfl, Nat.le_of_ble_eq_true rfl⟩ rfl rfl (Nat.le_of_ble_eq_true rfl) dX6_leastFor_26 ?_
    refine ctX6_mostWith (M.1 1 2) (ok_bnd h (fun q2 h => ?_))
    show Ev (wY, z) mtX6_leastFor 6 132 29 [some (.ref 0), some (.int a1), none, none, none] [.int q2.1] q2.2 Q
    refine e_iload_n dX6_leastFor_29 rfl ?_
    refine e_icmp_ge 40 dX6_leastFor_30 (by decide) (fun c3 => ?_) (fun c3 => ?_)
    · have h := ok_t c3 h
      refine e_iconst (-1 : Int32) dX6_leastFor_40 (by decide) ?_
      refine e_istore_n dX6_leastFor_41 (by decide) rfl ?_
      refine e_aload_n dX6_leastFor_42 rfl ?_
      refine e_getR fa_RX6_7 is_Y0 rfl dX6_leastFor_43 ?_
      refine e_iconst (2 : Int32) dX6_leastFor_46 (by decide) ?_
      refine e_ialdK ia_Y1 (by unfold vp_in; decide) (q := 2) (by decide) dX6_leastFor_47 ?_
      refine lv1 (P := fun v4 => Ev (wY, z) mtX6_leastFor 6 132 48 [some (.ref 0), some (.int a1), some (.int (-1 : Int32)), none, none] [.int v4] q2.2 Q) h (fun v4 h => ?_)
      refine e_istore_n dX6_leastFor_48 (by decide) rfl ?_
      refine e_forget [some (.ref 0), some (.int a1), some (.int (-1 : Int32)), some (.int v4), none] (leL_s (leL_s (leL_s (leL_s (leL_n leL_0))))) ?_
      refine elX6_leastFor_l49 a1 FU ((-1 : Int32), v4, q2.2) (ok_bnd h (fun r9 h => ?_))
      show Ev (wY, z) mtX6_leastFor 6 132 85 [none, none, none, some (.int r9.1), none] [] r9.2 Q
      refine e_iload_n dX6_leastFor_85 rfl ?_
      have h := ok_some h
      exact e_iret rfl dX6_leastFor_86 h
    · have h := ok_f c3 h
      refine e_aload_n dX6_leastFor_33 rfl ?_
      refine e_ldc wk_RX6_172 dX6_leastFor_34 ?_
      refine e_callV (f2 := 0) (l2 := 0) (ν := mtX6_finds) (as := [.int (-1000004 : Int32)]) cv_RX6_81 is_Y0 kc_7 ⟨Nat.le_of_ble_eq_true rfl, Nat.le_of_ble_eq_true rfl⟩ rfl rfl (Nat.le_of_ble_eq_true rfl) dX6_leastFor_36 ?_
      refine ctX6_finds (-1000004 : Int32) (ok_bnd h (fun q10 h => ?_))
      show Ev (wY, z) mtX6_leastFor 6 132 39 [some (.ref 0), some (.int a1), none, none, none] [.int q10.1] q10.2 Q
      have h := ok_some h
      exact e_iret rfl dX6_leastFor_39 h
  · have h := ok_t c1 h
    refine e_aload_n dX6_leastFor_12 rfl ?_
    refine e_ldc wk_RX6_55 dX6_leastFor_13 ?_
    refine e_callV (f2 := 0) (l2 := 0) (ν := mtX6_finds) (as := [.int (-1000001 : Int32)]) cv_RX6_81 is_Y0 kc_7 ⟨Nat.le_of_ble_eq_true rfl, Nat.le_of_ble_eq_true rfl⟩ rfl rfl (Nat.le_of_ble_eq_true rfl) dX6_leastFor_15 ?_
    refine ctX6_finds (-1000001 : Int32) (ok_bnd h (fun q11 h => ?_))
    show Ev (wY, z) mtX6_leastFor 6 132 18 [some (.ref 0), some (.int a1), none, none, none] [.int q11.1] q11.2 Q
    have h := ok_some h
    exact e_iret rfl dX6_leastFor_18 h
def XX6_keep_2 (z : Zt) (Q : Option Value → Me → Prop) : (Int32 × Me) → Prop := fun t => Ev (wY, z) mtX6_keep 6 132 27 [some (.ref 0), some (.int t.1)] [] t.2 Q
def EX6_keep_2 (z : Zt) (Q : Option Value → Me → Prop) : (Int32 × Me) → Prop := fun s => Ev (wY, z) mtX6_keep 6 132 2 [some (.ref 0), some (.int s.1)] [] s.2 Q
def GX6_keep_2 (z : Zt) (Q : Option Value → Me → Prop) : (Int32 × Me) ⊕ (Int32 × Me) → Prop := Sum.elim (EX6_keep_2 z Q) (XX6_keep_2 z Q)
def fpX6_keep_l2s (a1 : Int32) (M : Me) : Option ((Int32 × Me) ⊕ (Int32 × Me)) := (if (M.1 1 2) < a1 then
 some (.inr (a1, M))
 else
 (fpX6_mostWith a1 M).bind fun q2 =>
 (if a1 < q2.1 then
 some (.inr (a1, q2.2))
 else
 letv (a1 + (1 : Int32)) fun v4 =>
 some (.inl (v4, q2.2))))
def fpX6_keep_l2 (s : Int32 × Me) : Option ((Int32 × Me) ⊕ (Int32 × Me)) := fpX6_keep_l2s s.1 s.2
set_option maxRecDepth 20000 in
theorem ebX6_keep_l2s {z : Zt} {Q : Option Value → Me → Prop} (a1 : Int32) (M : Me) (h : ok (fpX6_keep_l2s a1 M) (GX6_keep_2 z Q)) : Ev (wY, z) mtX6_keep 6 132 2 [some (.ref 0), some (.int a1)] [] M Q := by
  unfold fpX6_keep_l2s at h
  refine e_iload_n dX6_keep_2 rfl ?_
  refine e_aload_n dX6_keep_3 rfl ?_
  refine e_getR fa_RX6_7 is_Y0 rfl dX6_keep_4 ?_
  refine e_iconst (2 : Int32) dX6_keep_7 (by decide) ?_
  refine e_ialdK ia_Y1 (by unfold vp_in; decide) (q := 2) (by decide) dX6_keep_8 ?_
  refine e_icmp_gt 27 dX6_keep_9 (by decide) (fun c1 => ?_) (fun c1 => ?_)
  · have h := ok_t c1 h
    refine e_forget [some (.ref 0), some (.int a1)] (leL_s (leL_s leL_0)) ?_
    have h := ok_some h
    exact h
  · have h := ok_f c1 h
    refine e_aload_n dX6_keep_12 rfl ?_
    refine e_iload_n dX6_keep_13 rfl ?_
    refine e_callV (f2 := 5) (l2 := 111) (ν := mtX6_mostWith) (as := [.int a1]) cv_RX6_160 is_Y0 kc_7 ⟨Nat.le_of_ble_eq_true rfl, Nat.le_of_ble_eq_true rfl⟩ rfl rfl (Nat.le_of_ble_eq_true rfl) dX6_keep_14 ?_
    refine ctX6_mostWith a1 (ok_bnd h (fun q2 h => ?_))
    show Ev (wY, z) mtX6_keep 6 132 17 [some (.ref 0), some (.int a1)] [.int q2.1] q2.2 Q
    refine e_iload_n dX6_keep_17 rfl ?_
    refine e_icmp_gt 27 dX6_keep_18 (by decide) (fun c3 => ?_) (fun c3 => ?_)
    · have h := ok_t c3 h
      refine e_forget [some (.ref 0), some (.int a1)] (leL_s (leL_s leL_0)) ?_
      have h := ok_some h
      exact h
    · have h := ok_f c3 h
      refine lv1e h (fun v4 ev4 h => ?_)
      refine e_iinc v4 dX6_keep_21 rfl ev4 (by decide) rfl ?_
      refine e_goto 2 dX6_keep_24 (by decide) ?_
      refine e_forget [some (.ref 0), some (.int v4)] (leL_s (leL_s leL_0)) ?_
      have h := ok_some h
      exact h
theorem elX6_keep_l2 {z : Zt} {Q : Option Value → Me → Prop} (N : Nat) (s : Int32 × Me) (h : ok (lp (fpX6_keep_l2) N s) (XX6_keep_2 z Q)) : EX6_keep_2 z Q s :=
  lp_ind (fun s h => ebX6_keep_l2s s.1 s.2 h) N s h
def fpX6_keep_b27 (a1 : Int32) (M : Me) : Option (Int32 × Me) := (if a1 ≤ (M.1 1 2) then
 some (a1, M)
 else
 (fpX6_finds (-1000004 : Int32) M).bind fun q7 =>
 some (q7.1, q7.2))
set_option maxRecDepth 20000 in
theorem ebX6_keep_b27 {z : Zt} {Q : Option Value → Me → Prop} (a1 : Int32) (M : Me) (h : ok (fpX6_keep_b27 a1 M) (fun a => Q (some (.int a.1)) a.2)) : Ev (wY, z) mtX6_keep 6 132 27 [some (.ref 0), some (.int a1)] [] M Q := by
  unfold fpX6_keep_b27 at h
  refine e_iload_n dX6_keep_27 rfl ?_
  refine e_aload_n dX6_keep_28 rfl ?_
  refine e_getR fa_RX6_7 is_Y0 rfl dX6_keep_29 ?_
  refine e_iconst (2 : Int32) dX6_keep_32 (by decide) ?_
  refine e_ialdK ia_Y1 (by unfold vp_in; decide) (q := 2) (by decide) dX6_keep_33 ?_
  refine e_icmp_le 46 dX6_keep_34 (by decide) (fun c6 => ?_) (fun c6 => ?_)
  · have h := ok_t c6 h
    refine e_iload_n dX6_keep_46 rfl ?_
    have h := ok_some h
    exact e_iret rfl dX6_keep_47 h
  · have h := ok_f c6 h
    refine e_aload_n dX6_keep_37 rfl ?_
    refine e_ldc wk_RX6_172 dX6_keep_38 ?_
    refine e_callV (f2 := 0) (l2 := 0) (ν := mtX6_finds) (as := [.int (-1000004 : Int32)]) cv_RX6_81 is_Y0 kc_7 ⟨Nat.le_of_ble_eq_true rfl, Nat.le_of_ble_eq_true rfl⟩ rfl rfl (Nat.le_of_ble_eq_true rfl) dX6_keep_40 ?_
    refine ctX6_finds (-1000004 : Int32) (ok_bnd h (fun q7 h => ?_))
    show Ev (wY, z) mtX6_keep 6 132 43 [some (.ref 0), some (.int a1)] [.int q7.1] q7.2 Q
    refine e_goto 47 dX6_keep_43 (by decide) ?_
    have h := ok_some h
    exact e_iret rfl dX6_keep_47 h
def fpX6_keep  (M : Me) : Option (Int32 × Me) := (lp (fpX6_keep_l2) FU ((0 : Int32), M)).bind fun r5 =>
 fpX6_keep_b27 r5.1 r5.2
set_option maxRecDepth 20000 in
theorem ctX6_keep {z : Zt} {M : Me} {Q : Option Value → Me → Prop}   (h : ok (fpX6_keep M) (fun a => Q (some (.int a.1)) a.2)) : EvM (wY, z) mtX6_keep 6 132 [.ref 0] M Q := by
  refine evm_of [some (.ref 0), none] 1 (by decide +kernel) (Nat.le_of_ble_eq_true rfl) rfl ?_
  unfold fpX6_keep at h
  refine e_iconst (0 : Int32) dX6_keep_0 (by decide) ?_
  refine e_istore_n dX6_keep_1 (by decide) rfl ?_
  refine e_forget [some (.ref 0), some (.int (0 : Int32))] (leL_s (leL_s leL_0)) ?_
  refine elX6_keep_l2 FU ((0 : Int32), M) (ok_bnd h (fun r5 h => ?_))
  show Ev (wY, z) mtX6_keep 6 132 27 [some (.ref 0), some (.int r5.1)] [] r5.2 Q
  refine e_forget [some (.ref 0), some (.int r5.1)] (leL_s (leL_s leL_0)) ?_
  exact ebX6_keep_b27 r5.1 r5.2 h
def XX6_starts_23 (z : Zt) (a1 : Int32) (M : Me) (Q : Option Value → Me → Prop) : (Int32) → Prop := fun t => Ev (wY, z) mtX6_starts 5 111 75 [none, none, some (.int t), none] [] M Q
def EX6_starts_23 (z : Zt) (a1 : Int32) (M : Me) (Q : Option Value → Me → Prop) : (Int32 × Int32) → Prop := fun s => Ev (wY, z) mtX6_starts 5 111 23 [some (.ref 0), some (.int a1), some (.int s.1), some (.int s.2)] [] M Q
def GX6_starts_23 (z : Zt) (a1 : Int32) (M : Me) (Q : Option Value → Me → Prop) : (Int32 × Int32) ⊕ (Int32) → Prop := Sum.elim (EX6_starts_23 z a1 M Q) (XX6_starts_23 z a1 M Q)
def fpX6_starts_l23s (a1 : Int32) (a2 : Int32) (a3 : Int32) (M : Me) : Option ((Int32 × Int32) ⊕ (Int32)) := (if (M.1 1 0) ≤ a3 then
 some (.inr a2)
 else
 (fpX6_its a3 (1 : Int32) M).bind fun v4 =>
 (fpX6_left a1 (M.1 1 7) v4 M).bind fun v5 =>
 (fpX6_ran v5 a3 M).bind fun v6 =>
 (if 0 ≤ v6 then
 letv (a2 ||| ((1 : Int32) <<< (a3 &&& 31))) fun v8 =>
 letv (a3 + (1 : Int32)) fun v9 =>
 some (.inl (v8, v9))
 else
 letv (a2 ||| (0 : Int32)) fun v10 =>
 letv (a3 + (1 : Int32)) fun v11 =>
 some (.inl (v10, v11))))
def fpX6_starts_l23 (a1 : Int32) (M : Me) (s : Int32 × Int32) : Option ((Int32 × Int32) ⊕ (Int32)) := fpX6_starts_l23s a1 s.1 s.2 M
set_option maxRecDepth 20000 in
theorem ebX6_starts_l23s {z : Zt} {Q : Option Value → Me → Prop} (a1 : Int32) (a2 : Int32) (a3 : Int32) (M : Me) (h : ok (fpX6_starts_l23s a1 a2 a3 M) (GX6_starts_23 z a1 M Q)) : Ev (wY, z) mtX6_starts 5 111 23 [some (.ref 0), some (.int a1), some (.int a2), some (.int a3)] [] M Q := by
  unfold fpX6_starts_l23s at h
  refine e_iload_n dX6_starts_23 rfl ?_
  refine e_aload_n dX6_starts_24 rfl ?_
  refine e_getR fa_RX6_7 is_Y0 rfl dX6_starts_25 ?_
  refine e_iconst (0 : Int32) dX6_starts_28 (by decide) ?_
  refine e_ialdK ia_Y1 (by unfold vp_in; decide) (q := 0) (by decide) dX6_starts_29 ?_
  refine e_icmp_ge 75 dX6_starts_30 (by decide) (fun c3 => ?_) (fun c3 => ?_)
  · have h := ok_t c3 h
    refine e_forget [none, none, some (.int a2), none] (leL_n (leL_n (leL_s (leL_n leL_0)))) ?_
    have h := ok_some h
    exact h
  · have h := ok_f c3 h
    refine e_iload_n dX6_starts_33 rfl ?_
    refine e_aload_n dX6_starts_34 rfl ?_
    refine e_aload_n dX6_starts_35 rfl ?_
    refine e_iload_n dX6_starts_36 rfl ?_
    refine e_aload_n dX6_starts_37 rfl ?_
    refine e_getR fa_RX6_7 is_Y0 rfl dX6_starts_38 ?_
    refine e_bipush (7 : Int32) dX6_starts_41 (by decide) ?_
    refine e_ialdK ia_Y1 (by unfold vp_in; decide) (q := 7) (by decide) dX6_starts_43 ?_
    refine e_aload_n dX6_starts_44 rfl ?_
    refine e_iload_n dX6_starts_45 rfl ?_
    refine e_iconst (1 : Int32) dX6_starts_46 (by decide) ?_
    refine e_callV (f2 := 1) (l2 := 21) (ν := mtX6_its) (as := [.int a3, .int (1 : Int32)]) cv_RX6_90 is_Y0 kc_7 ⟨Nat.le_of_ble_eq_true rfl, Nat.le_of_ble_eq_true rfl⟩ rfl rfl (Nat.le_of_ble_eq_true rfl) dX6_starts_47 ?_
    refine ctX6_its a3 (1 : Int32) (ok_bnd h (fun v4 h => ?_))
    show Ev (wY, z) mtX6_starts 5 111 50 [some (.ref 0), some (.int a1), some (.int a2), some (.int a3)] [.int v4, .int (M.1 1 7), .int a1, .ref 0, .ref 0, .int a2] M Q
    refine e_callV (f2 := 1) (l2 := 21) (ν := mtX6_left) (as := [.int a1, .int (M.1 1 7), .int v4]) cv_RX6_123 is_Y0 kc_7 ⟨Nat.le_of_ble_eq_true rfl, Nat.le_of_ble_eq_true rfl⟩ rfl rfl (Nat.le_of_ble_eq_true rfl) dX6_starts_50 ?_
    refine ctX6_left a1 (M.1 1 7) v4 (ok_bnd h (fun v5 h => ?_))
    show Ev (wY, z) mtX6_starts 5 111 53 [some (.ref 0), some (.int a1), some (.int a2), some (.int a3)] [.int v5, .ref 0, .int a2] M Q
    refine e_iload_n dX6_starts_53 rfl ?_
    refine e_callV (f2 := 1) (l2 := 21) (ν := mtX6_ran) (as := [.int v5, .int a3]) cv_RX6_150 is_Y0 kc_7 ⟨Nat.le_of_ble_eq_true rfl, Nat.le_of_ble_eq_true rfl⟩ rfl rfl (Nat.le_of_ble_eq_true rfl) dX6_starts_54 ?_
    refine ctX6_ran v5 a3 (ok_bnd h (fun v6 h => ?_))
    show Ev (wY, z) mtX6_starts 5 111 57 [some (.ref 0), some (.int a1), some (.int a2), some (.int a3)] [.int v6, .int a2] M Q
    refine e_if_ge 64 dX6_starts_57 (by decide) (fun c7 => ?_) (fun c7 => ?_)
    · have h := ok_t c7 h
      refine e_iconst (1 : Int32) dX6_starts_64 (by decide) ?_
      refine e_iload_n dX6_starts_65 rfl ?_
      refine e_ishl dX6_starts_66 ?_
      refine e_ior dX6_starts_67 ?_
      refine lv1 (P := fun v8 => Ev (wY, z) mtX6_starts 5 111 68 [some (.ref 0), some (.int a1), some (.int a2), some (.int a3)] [.int v8] M Q) h (fun v8 h => ?_)
      refine e_istore_n dX6_starts_68 (by decide) rfl ?_
      refine lv1e h (fun v9 ev9 h => ?_)
      refine e_iinc v9 dX6_starts_69 rfl ev9 (by decide) rfl ?_
      refine e_goto 23 dX6_starts_72 (by decide) ?_
      refine e_forget [some (.ref 0), some (.int a1), some (.int v8), some (.int v9)] (leL_s (leL_s (leL_s (leL_s leL_0)))) ?_
      have h := ok_some h
      exact h
    · have h := ok_f c7 h
      refine e_iconst (0 : Int32) dX6_starts_60 (by decide) ?_
      refine e_goto 67 dX6_starts_61 (by decide) ?_
      refine e_ior dX6_starts_67 ?_
      refine lv1 (P := fun v10 => Ev (wY, z) mtX6_starts 5 111 68 [some (.ref 0), some (.int a1), some (.int a2), some (.int a3)] [.int v10] M Q) h (fun v10 h => ?_)
      refine e_istore_n dX6_starts_68 (by decide) rfl ?_
      refine lv1e h (fun v11 ev11 h => ?_)
      refine e_iinc v11 dX6_starts_69 rfl ev11 (by decide) rfl ?_
      refine e_goto 23 dX6_starts_72 (by decide) ?_
      refine e_forget [some (.ref 0), some (.int a1), some (.int v10), some (.int v11)] (leL_s (leL_s (leL_s (leL_s leL_0)))) ?_
      have h := ok_some h
      exact h
theorem elX6_starts_l23 {z : Zt} {Q : Option Value → Me → Prop} (a1 : Int32) (M : Me) (N : Nat) (s : Int32 × Int32) (h : ok (lp (fpX6_starts_l23 a1 M) N s) (XX6_starts_23 z a1 M Q)) : EX6_starts_23 z a1 M Q s :=
  lp_ind (fun s h => ebX6_starts_l23s a1 s.1 s.2 M h) N s h
def fpX6_starts (a1 : Int32) (M : Me) : Option (Int32 × Me) := (if (fpX6_isWater a1 M) = 0 then
 (fpX6_finds (-1000001 : Int32) M).bind fun q13 =>
 some (q13.1, q13.2)
 else
 (fpX6_findYields M).bind fun q2 =>
 (lp (fpX6_starts_l23 a1 q2) FU ((0 : Int32), (0 : Int32))).bind fun r12 =>
 some (r12, q2))
set_option maxRecDepth 20000 in
theorem ctX6_starts {z : Zt} {M : Me} {Q : Option Value → Me → Prop} (a1 : Int32)  (h : ok (fpX6_starts a1 M) (fun a => Q (some (.int a.1)) a.2)) : EvM (wY, z) mtX6_starts 5 111 [.ref 0, .int a1] M Q := by
  refine evm_of [some (.ref 0), some (.int a1), none, none] 2 (by decide +kernel) (Nat.le_of_ble_eq_true rfl) rfl ?_
  unfold fpX6_starts at h
  refine e_aload_n dX6_starts_0 rfl ?_
  refine e_iload_n dX6_starts_1 rfl ?_
  refine e_callV (f2 := 1) (l2 := 25) (ν := mtX6_isWater) (as := [.int a1]) cv_RX6_116 is_Y0 kc_7 ⟨Nat.le_of_ble_eq_true rfl, Nat.le_of_ble_eq_true rfl⟩ rfl rfl (Nat.le_of_ble_eq_true rfl) dX6_starts_2 ?_
  refine ctX6_isWater a1 ?_
  show Ev (wY, z) mtX6_starts 5 111 5 [some (.ref 0), some (.int a1), none, none] [.int (fpX6_isWater a1 M)] M Q
  refine e_if_ne 15 dX6_starts_5 (by decide) (fun c1 => ?_) (fun c1 => ?_)
  · have h := ok_f c1 h
    refine e_aload_n dX6_starts_15 rfl ?_
    refine e_callV (f2 := 4) (l2 := 89) (ν := mtX6_findYields) (as := []) cv_RX6_153 is_Y0 kc_7 ⟨Nat.le_of_ble_eq_true rfl, Nat.le_of_ble_eq_true rfl⟩ rfl rfl (Nat.le_of_ble_eq_true rfl) dX6_starts_16 ?_
    refine ctX6_findYields (ok_bnd h (fun q2 h => ?_))
    show Ev (wY, z) mtX6_starts 5 111 19 [some (.ref 0), some (.int a1), none, none] [] q2 Q
    refine e_iconst (0 : Int32) dX6_starts_19 (by decide) ?_
    refine e_istore_n dX6_starts_20 (by decide) rfl ?_
    refine e_iconst (0 : Int32) dX6_starts_21 (by decide) ?_
    refine e_istore_n dX6_starts_22 (by decide) rfl ?_
    refine e_forget [some (.ref 0), some (.int a1), some (.int (0 : Int32)), some (.int (0 : Int32))] (leL_s (leL_s (leL_s (leL_s leL_0)))) ?_
    refine elX6_starts_l23 a1 q2 FU ((0 : Int32), (0 : Int32)) (ok_bnd h (fun r12 h => ?_))
    show Ev (wY, z) mtX6_starts 5 111 75 [none, none, some (.int r12), none] [] q2 Q
    refine e_iload_n dX6_starts_75 rfl ?_
    have h := ok_some h
    exact e_iret rfl dX6_starts_76 h
  · have h := ok_t c1 h
    refine e_aload_n dX6_starts_8 rfl ?_
    refine e_ldc wk_RX6_55 dX6_starts_9 ?_
    refine e_callV (f2 := 0) (l2 := 0) (ν := mtX6_finds) (as := [.int (-1000001 : Int32)]) cv_RX6_81 is_Y0 kc_7 ⟨Nat.le_of_ble_eq_true rfl, Nat.le_of_ble_eq_true rfl⟩ rfl rfl (Nat.le_of_ble_eq_true rfl) dX6_starts_11 ?_
    refine ctX6_finds (-1000001 : Int32) (ok_bnd h (fun q13 h => ?_))
    show Ev (wY, z) mtX6_starts 5 111 14 [some (.ref 0), some (.int a1), none, none] [.int q13.1] q13.2 Q
    have h := ok_some h
    exact e_iret rfl dX6_starts_14 h
def XX6_isRing_4 (z : Zt) (a1 : Int32) (Q : Option Value → Me → Prop) : (Int32 × Me) → Prop := fun t => Ev (wY, z) mtX6_isRing 4 103 106 [none, none, some (.int t.1), none, none] [] t.2 Q
def EX6_isRing_4 (z : Zt) (a1 : Int32) (Q : Option Value → Me → Prop) : (Int32 × Int32 × Me) → Prop := fun s => Ev (wY, z) mtX6_isRing 4 103 4 [some (.ref 0), some (.int a1), some (.int s.1), some (.int s.2.1), none] [] s.2.2 Q
def GX6_isRing_4 (z : Zt) (a1 : Int32) (Q : Option Value → Me → Prop) : (Int32 × Int32 × Me) ⊕ (Int32 × Me) → Prop := Sum.elim (EX6_isRing_4 z a1 Q) (XX6_isRing_4 z a1 Q)
def fpX6_isRing_l4s (a1 : Int32) (a2 : Int32) (a3 : Int32) (M : Me) : Option ((Int32 × Int32 × Me) ⊕ (Int32 × Me)) := (if (M.1 1 0) ≤ a3 then
 some (.inr (a2, M))
 else
 (if a2 = 0 then
 (if (fpX6_has a1 a3) = 0 then
 letv (a3 + (1 : Int32)) fun v4 =>
 some (.inl (a2, v4, M))
 else
 (inb a3 8).bind fun k5 =>
 (if (M.1 1 2) < (M.1 6 k5) then
 letv (a3 + (1 : Int32)) fun v7 =>
 some (.inl (a2, v7, M))
 else
 (fpX6_its a3 (1 : Int32) M).bind fun v8 =>
 (fpX6_ran (M.1 6 k5) a3 M).bind fun v9 =>
 (fpX6_ones a1).bind fun v10 =>
 (fpX6_its a3 (1 : Int32) M).bind fun v11 =>
 (fpX6_bestFrom v8 v9 (a1 &&& (((1 : Int32) <<< (a3 &&& 31)) ^^^ (-1 : Int32))) (v10 - (1 : Int32)) v11 M).bind fun q12 =>
 (if q12.1 < (q12.2.1 6 k5) then
 letv (a3 + (1 : Int32)) fun v14 =>
 some (.inl ((0 : Int32), v14, q12.2))
 else
 letv (a3 + (1 : Int32)) fun v15 =>
 some (.inl ((1 : Int32), v15, q12.2)))))
 else
 some (.inr (a2, M))))
def fpX6_isRing_l4 (a1 : Int32) (s : Int32 × Int32 × Me) : Option ((Int32 × Int32 × Me) ⊕ (Int32 × Me)) := fpX6_isRing_l4s a1 s.1 s.2.1 s.2.2
set_option maxRecDepth 20000 in
theorem ebX6_isRing_l4s {z : Zt} {Q : Option Value → Me → Prop} (a1 : Int32) (a2 : Int32) (a3 : Int32) (M : Me) (h : ok (fpX6_isRing_l4s a1 a2 a3 M) (GX6_isRing_4 z a1 Q)) : Ev (wY, z) mtX6_isRing 4 103 4 [some (.ref 0), some (.int a1), some (.int a2), some (.int a3), none] [] M Q := by
  unfold fpX6_isRing_l4s at h
  refine e_iload_n dX6_isRing_4 rfl ?_
  refine e_aload_n dX6_isRing_5 rfl ?_
  refine e_getR fa_RX6_7 is_Y0 rfl dX6_isRing_6 ?_
  refine e_iconst (0 : Int32) dX6_isRing_9 (by decide) ?_
  refine e_ialdK ia_Y1 (by unfold vp_in; decide) (q := 0) (by decide) dX6_isRing_10 ?_
  refine e_icmp_ge 106 dX6_isRing_11 (by decide) (fun c1 => ?_) (fun c1 => ?_)
  · have h := ok_t c1 h
    refine e_forget [none, none, some (.int a2), none, none] (leL_n (leL_n (leL_s (leL_n (leL_n leL_0))))) ?_
    have h := ok_some h
    exact h
  · have h := ok_f c1 h
    refine e_iload_n dX6_isRing_14 rfl ?_
    refine e_if_ne 106 dX6_isRing_15 (by decide) (fun c2 => ?_) (fun c2 => ?_)
    · have h := ok_f c2 h
      refine e_forget [none, none, some (.int a2), none, none] (leL_n (leL_n (leL_s (leL_n (leL_n leL_0))))) ?_
      have h := ok_some h
      exact h
    · have h := ok_t c2 h
      refine e_iload_n dX6_isRing_18 rfl ?_
      refine e_iload_n dX6_isRing_19 rfl ?_
      refine e_callS (f2 := 0) (l2 := 0) (ν := mtX6_has) (as := [.int a1, .int a3]) cs_RX6_141 ⟨Nat.le_of_ble_eq_true rfl, Nat.le_of_ble_eq_true rfl⟩ rfl rfl (Nat.le_of_ble_eq_true rfl) dX6_isRing_20 ?_
      refine ctX6_has a1 a3 ?_
      show Ev (wY, z) mtX6_isRing 4 103 23 [some (.ref 0), some (.int a1), some (.int a2), some (.int a3), none] [.int (fpX6_has a1 a3)] M Q
      refine e_if_eq 100 dX6_isRing_23 (by decide) (fun c3 => ?_) (fun c3 => ?_)
      · have h := ok_t c3 h
        refine lv1e h (fun v4 ev4 h => ?_)
        refine e_iinc v4 dX6_isRing_100 rfl ev4 (by decide) rfl ?_
        refine e_goto 4 dX6_isRing_103 (by decide) ?_
        refine e_forget [some (.ref 0), some (.int a1), some (.int a2), some (.int v4), none] (leL_s (leL_s (leL_s (leL_s (leL_n leL_0))))) ?_
        have h := ok_some h
        exact h
      · have h := ok_f c3 h
        refine e_aload_n dX6_isRing_26 rfl ?_
        refine e_getR fa_RX6_25 is_Y0 rfl dX6_isRing_27 ?_
        refine e_iload_n dX6_isRing_30 rfl ?_
        refine ok_inb h (fun k5 ek5 ik5 h => ?_)
        refine e_ialdK ia_Y6 ik5 ek5 dX6_isRing_31 ?_
        refine e_aload_n dX6_isRing_32 rfl ?_
        refine e_getR fa_RX6_7 is_Y0 rfl dX6_isRing_33 ?_
        refine e_iconst (2 : Int32) dX6_isRing_36 (by decide) ?_
        refine e_ialdK ia_Y1 (by unfold vp_in; decide) (q := 2) (by decide) dX6_isRing_37 ?_
        refine e_icmp_gt 100 dX6_isRing_38 (by decide) (fun c6 => ?_) (fun c6 => ?_)
        · have h := ok_t c6 h
          refine lv1e h (fun v7 ev7 h => ?_)
          refine e_iinc v7 dX6_isRing_100 rfl ev7 (by decide) rfl ?_
          refine e_goto 4 dX6_isRing_103 (by decide) ?_
          refine e_forget [some (.ref 0), some (.int a1), some (.int a2), some (.int v7), none] (leL_s (leL_s (leL_s (leL_s (leL_n leL_0))))) ?_
          have h := ok_some h
          exact h
        · have h := ok_f c6 h
          refine e_aload_n dX6_isRing_41 rfl ?_
          refine e_aload_n dX6_isRing_42 rfl ?_
          refine e_iload_n dX6_isRing_43 rfl ?_
          refine e_iconst (1 : Int32) dX6_isRing_44 (by decide) ?_
          refine e_callV (f2 := 1) (l2 := 21) (ν := mtX6_its) (as := [.int a3, .int (1 : Int32)]) cv_RX6_90 is_Y0 kc_7 ⟨Nat.le_of_ble_eq_true rfl, Nat.le_of_ble_eq_true rfl⟩ rfl rfl (Nat.le_of_ble_eq_true rfl) dX6_isRing_45 ?_
          refine ctX6_its a3 (1 : Int32) (ok_bnd h (fun v8 h => ?_))
          show Ev (wY, z) mtX6_isRing 4 103 48 [some (.ref 0), some (.int a1), some (.int a2), some (.int a3), none] [.int v8, .ref 0] M Q
          refine e_aload_n dX6_isRing_48 rfl ?_
          refine e_aload_n dX6_isRing_49 rfl ?_
          refine e_getR fa_RX6_25 is_Y0 rfl dX6_isRing_50 ?_
          refine e_iload_n dX6_isRing_53 rfl ?_
          refine e_ialdK ia_Y6 ik5 ek5 dX6_isRing_54 ?_
          refine e_iload_n dX6_isRing_55 rfl ?_
          refine e_callV (f2 := 1) (l2 := 21) (ν := mtX6_ran) (as := [.int (M.1 6 k5), .int a3]) cv_RX6_150 is_Y0 kc_7 ⟨Nat.le_of_ble_eq_true rfl, Nat.le_of_ble_eq_true rfl⟩ rfl rfl (Nat.le_of_ble_eq_true rfl) dX6_isRing_56 ?_
          refine ctX6_ran (M.1 6 k5) a3 (ok_bnd h (fun v9 h => ?_))
          show Ev (wY, z) mtX6_isRing 4 103 59 [some (.ref 0), some (.int a1), some (.int a2), some (.int a3), none] [.int v9, .int v8, .ref 0] M Q
          refine e_iload_n dX6_isRing_59 rfl ?_
          refine e_iconst (1 : Int32) dX6_isRing_60 (by decide) ?_
          refine e_iload_n dX6_isRing_61 rfl ?_
          refine e_ishl dX6_isRing_62 ?_
          refine e_iconst (-1 : Int32) dX6_isRing_63 (by decide) ?_
          refine e_ixor dX6_isRing_64 ?_
          refine e_iand dX6_isRing_65 ?_
          refine e_iload_n dX6_isRing_66 rfl ?_
          refine e_callS (f2 := 0) (l2 := 0) (ν := mtX6_ones) (as := [.int a1]) cs_RX6_144 ⟨Nat.le_of_ble_eq_true rfl, Nat.le_of_ble_eq_true rfl⟩ rfl rfl (Nat.le_of_ble_eq_true rfl) dX6_isRing_67 ?_
          refine ctX6_ones a1 (ok_bnd h (fun v10 h => ?_))
          show Ev (wY, z) mtX6_isRing 4 103 70 [some (.ref 0), some (.int a1), some (.int a2), some (.int a3), none] [.int v10, .int (a1 &&& (((1 : Int32) <<< (a3 &&& 31)) ^^^ (-1 : Int32))), .int v9, .int v8, .ref 0] M Q
          refine e_iconst (1 : Int32) dX6_isRing_70 (by decide) ?_
          refine e_isub dX6_isRing_71 ?_
          refine e_aload_n dX6_isRing_72 rfl ?_
          refine e_iload_n dX6_isRing_73 rfl ?_
          refine e_iconst (1 : Int32) dX6_isRing_74 (by decide) ?_
          refine e_callV (f2 := 1) (l2 := 21) (ν := mtX6_its) (as := [.int a3, .int (1 : Int32)]) cv_RX6_90 is_Y0 kc_7 ⟨Nat.le_of_ble_eq_true rfl, Nat.le_of_ble_eq_true rfl⟩ rfl rfl (Nat.le_of_ble_eq_true rfl) dX6_isRing_75 ?_
          refine ctX6_its a3 (1 : Int32) (ok_bnd h (fun v11 h => ?_))
          show Ev (wY, z) mtX6_isRing 4 103 78 [some (.ref 0), some (.int a1), some (.int a2), some (.int a3), none] [.int v11, .int (v10 - (1 : Int32)), .int (a1 &&& (((1 : Int32) <<< (a3 &&& 31)) ^^^ (-1 : Int32))), .int v9, .int v8, .ref 0] M Q
          refine e_callV (f2 := 3) (l2 := 72) (ν := mtX6_bestFrom) (as := [.int v8, .int v9, .int (a1 &&& (((1 : Int32) <<< (a3 &&& 31)) ^^^ (-1 : Int32))), .int (v10 - (1 : Int32)), .int v11]) cv_RX6_156 is_Y0 kc_7 ⟨Nat.le_of_ble_eq_true rfl, Nat.le_of_ble_eq_true rfl⟩ rfl rfl (Nat.le_of_ble_eq_true rfl) dX6_isRing_78 ?_
          refine ctX6_bestFrom v8 v9 (a1 &&& (((1 : Int32) <<< (a3 &&& 31)) ^^^ (-1 : Int32))) (v10 - (1 : Int32)) v11 (ok_bnd h (fun q12 h => ?_))
          show Ev (wY, z) mtX6_isRing 4 103 81 [some (.ref 0), some (.int a1), some (.int a2), some (.int a3), none] [.int q12.1] q12.2 Q
          refine e_istore dX6_isRing_81 (by decide) rfl ?_
          refine e_iload dX6_isRing_83 rfl ?_
          refine e_aload_n dX6_isRing_85 rfl ?_
          refine e_getR fa_RX6_25 is_Y0 rfl dX6_isRing_86 ?_
          refine e_iload_n dX6_isRing_89 rfl ?_
          refine e_ialdK ia_Y6 ik5 ek5 dX6_isRing_90 ?_
          refine e_icmp_lt 98 dX6_isRing_91 (by decide) (fun c13 => ?_) (fun c13 => ?_)
          · have h := ok_t c13 h
            refine e_iconst (0 : Int32) dX6_isRing_98 (by decide) ?_
            refine e_istore_n dX6_isRing_99 (by decide) rfl ?_
            refine lv1e h (fun v14 ev14 h => ?_)
            refine e_iinc v14 dX6_isRing_100 rfl ev14 (by decide) rfl ?_
            refine e_goto 4 dX6_isRing_103 (by decide) ?_
            refine e_forget [some (.ref 0), some (.int a1), some (.int (0 : Int32)), some (.int v14), none] (leL_s (leL_s (leL_s (leL_s (leL_n leL_0))))) ?_
            have h := ok_some h
            exact h
          · have h := ok_f c13 h
            refine e_iconst (1 : Int32) dX6_isRing_94 (by decide) ?_
            refine e_goto 99 dX6_isRing_95 (by decide) ?_
            refine e_istore_n dX6_isRing_99 (by decide) rfl ?_
            refine lv1e h (fun v15 ev15 h => ?_)
            refine e_iinc v15 dX6_isRing_100 rfl ev15 (by decide) rfl ?_
            refine e_goto 4 dX6_isRing_103 (by decide) ?_
            refine e_forget [some (.ref 0), some (.int a1), some (.int (1 : Int32)), some (.int v15), none] (leL_s (leL_s (leL_s (leL_s (leL_n leL_0))))) ?_
            have h := ok_some h
            exact h
theorem elX6_isRing_l4 {z : Zt} {Q : Option Value → Me → Prop} (a1 : Int32) (N : Nat) (s : Int32 × Int32 × Me) (h : ok (lp (fpX6_isRing_l4 a1) N s) (XX6_isRing_4 z a1 Q)) : EX6_isRing_4 z a1 Q s :=
  lp_ind (fun s h => ebX6_isRing_l4s a1 s.1 s.2.1 s.2.2 h) N s h
def fpX6_isRing (a1 : Int32) (M : Me) : Option (Int32 × Me) := (lp (fpX6_isRing_l4 a1) FU ((0 : Int32), (0 : Int32), M)).bind fun r16 =>
 bz r16.1 <|
 some (r16.1, r16.2)
set_option maxRecDepth 20000 in
theorem ctX6_isRing {z : Zt} {M : Me} {Q : Option Value → Me → Prop} (a1 : Int32)  (h : ok (fpX6_isRing a1 M) (fun a => Q (some (.int a.1)) a.2)) : EvM (wY, z) mtX6_isRing 4 103 [.ref 0, .int a1] M Q := by
  refine evm_of [some (.ref 0), some (.int a1), none, none, none] 3 (by decide +kernel) (Nat.le_of_ble_eq_true rfl) rfl ?_
  unfold fpX6_isRing at h
  refine e_iconst (0 : Int32) dX6_isRing_0 (by decide) ?_
  refine e_istore_n dX6_isRing_1 (by decide) rfl ?_
  refine e_iconst (0 : Int32) dX6_isRing_2 (by decide) ?_
  refine e_istore_n dX6_isRing_3 (by decide) rfl ?_
  refine e_forget [some (.ref 0), some (.int a1), some (.int (0 : Int32)), some (.int (0 : Int32)), none] (leL_s (leL_s (leL_s (leL_s (leL_n leL_0))))) ?_
  refine elX6_isRing_l4 a1 FU ((0 : Int32), (0 : Int32), M) (ok_bnd h (fun r16 h => ?_))
  show Ev (wY, z) mtX6_isRing 4 103 106 [none, none, some (.int r16.1), none, none] [] r16.2 Q
  refine e_iload_n dX6_isRing_106 rfl ?_
  obtain ⟨z17, h⟩ := ok_bz h
  have h := ok_some h
  exact e_zret rfl z17 dX6_isRing_107 h
def XX6_ring_8 (z : Zt) (Q : Option Value → Me → Prop) : (Int32 × Me) → Prop := fun t => Ev (wY, z) mtX6_ring 5 127 84 [some (.ref 0), some (.int t.1), none, none] [] t.2 Q
def EX6_ring_8 (z : Zt) (Q : Option Value → Me → Prop) : (Int32 × Int32 × Me) → Prop := fun s => Ev (wY, z) mtX6_ring 5 127 8 [some (.ref 0), some (.int s.1), some (.int s.2.1), none] [] s.2.2 Q
def GX6_ring_8 (z : Zt) (Q : Option Value → Me → Prop) : (Int32 × Int32 × Me) ⊕ (Int32 × Me) → Prop := Sum.elim (EX6_ring_8 z Q) (XX6_ring_8 z Q)
def fpX6_ring_b59_8 (a1 : Int32) (a2 : Int32) (t0 : Int32) (M : Me) : Option ((Int32 × Int32 × Me) ⊕ (Int32 × Me)) := (if t0 = 0 then
 letv (a2 + (1 : Int32)) fun v5 =>
 some (.inl (a1, v5, M))
 else
 (fpX6_isRing a2 M).bind fun q6 =>
 (if q6.1 = 0 then
 letv (a2 + (1 : Int32)) fun v8 =>
 some (.inl (a1, v8, q6.2))
 else
 letv (a2 + (1 : Int32)) fun v9 =>
 some (.inl (a2, v9, q6.2))))
set_option maxRecDepth 20000 in
theorem ebX6_ring_b59_8 {z : Zt} {Q : Option Value → Me → Prop} (a1 : Int32) (a2 : Int32) (t0 : Int32) (M : Me) (h : ok (fpX6_ring_b59_8 a1 a2 t0 M) (GX6_ring_8 z Q)) : Ev (wY, z) mtX6_ring 5 127 59 [some (.ref 0), some (.int a1), some (.int a2), none] [.int t0] M Q := by
  unfold fpX6_ring_b59_8 at h
  refine e_istore_n dX6_ring_59 (by decide) rfl ?_
  refine e_iload_n dX6_ring_60 rfl ?_
  refine e_if_eq 76 dX6_ring_61 (by decide) (fun c4 => ?_) (fun c4 => ?_)
  · have h := ok_t c4 h
    refine e_iload_n dX6_ring_76 rfl ?_
    refine e_istore_n dX6_ring_77 (by decide) rfl ?_
    refine lv1e h (fun v5 ev5 h => ?_)
    refine e_iinc v5 dX6_ring_78 rfl ev5 (by decide) rfl ?_
    refine e_goto 8 dX6_ring_81 (by decide) ?_
    refine e_forget [some (.ref 0), some (.int a1), some (.int v5), none] (leL_s (leL_s (leL_s (leL_n leL_0)))) ?_
    have h := ok_some h
    exact h
  · have h := ok_f c4 h
    refine e_aload_n dX6_ring_64 rfl ?_
    refine e_iload_n dX6_ring_65 rfl ?_
    refine e_callV (f2 := 4) (l2 := 103) (ν := mtX6_isRing) (as := [.int a2]) cv_RX6_173 is_Y0 kc_7 ⟨Nat.le_of_ble_eq_true rfl, Nat.le_of_ble_eq_true rfl⟩ rfl rfl (Nat.le_of_ble_eq_true rfl) dX6_ring_66 ?_
    refine ctX6_isRing a2 (ok_bnd h (fun q6 h => ?_))
    show Ev (wY, z) mtX6_ring 5 127 69 [some (.ref 0), some (.int a1), some (.int a2), some (.int t0)] [.int q6.1] q6.2 Q
    refine e_if_eq 76 dX6_ring_69 (by decide) (fun c7 => ?_) (fun c7 => ?_)
    · have h := ok_t c7 h
      refine e_iload_n dX6_ring_76 rfl ?_
      refine e_istore_n dX6_ring_77 (by decide) rfl ?_
      refine lv1e h (fun v8 ev8 h => ?_)
      refine e_iinc v8 dX6_ring_78 rfl ev8 (by decide) rfl ?_
      refine e_goto 8 dX6_ring_81 (by decide) ?_
      refine e_forget [some (.ref 0), some (.int a1), some (.int v8), none] (leL_s (leL_s (leL_s (leL_n leL_0)))) ?_
      have h := ok_some h
      exact h
    · have h := ok_f c7 h
      refine e_iload_n dX6_ring_72 rfl ?_
      refine e_goto 77 dX6_ring_73 (by decide) ?_
      refine e_istore_n dX6_ring_77 (by decide) rfl ?_
      refine lv1e h (fun v9 ev9 h => ?_)
      refine e_iinc v9 dX6_ring_78 rfl ev9 (by decide) rfl ?_
      refine e_goto 8 dX6_ring_81 (by decide) ?_
      refine e_forget [some (.ref 0), some (.int a2), some (.int v9), none] (leL_s (leL_s (leL_s (leL_n leL_0)))) ?_
      have h := ok_some h
      exact h
def fpX6_ring_b58_8 (a1 : Int32) (a2 : Int32) (M : Me) : Option ((Int32 × Int32 × Me) ⊕ (Int32 × Me)) := fpX6_ring_b59_8 a1 a2 (0 : Int32) M
set_option maxRecDepth 20000 in
theorem ebX6_ring_b58_8 {z : Zt} {Q : Option Value → Me → Prop} (a1 : Int32) (a2 : Int32) (M : Me) (h : ok (fpX6_ring_b58_8 a1 a2 M) (GX6_ring_8 z Q)) : Ev (wY, z) mtX6_ring 5 127 58 [some (.ref 0), some (.int a1), some (.int a2), none] [] M Q := by
  unfold fpX6_ring_b58_8 at h
  refine e_iconst (0 : Int32) dX6_ring_58 (by decide) ?_
  refine e_forget [some (.ref 0), some (.int a1), some (.int a2), none] (leL_s (leL_s (leL_s (leL_n leL_0)))) ?_
  exact ebX6_ring_b59_8 a1 a2 (0 : Int32) M h
def fpX6_ring_b54_8 (a1 : Int32) (a2 : Int32) (M : Me) : Option ((Int32 × Int32 × Me) ⊕ (Int32 × Me)) := fpX6_ring_b59_8 a1 a2 (1 : Int32) M
set_option maxRecDepth 20000 in
theorem ebX6_ring_b54_8 {z : Zt} {Q : Option Value → Me → Prop} (a1 : Int32) (a2 : Int32) (M : Me) (h : ok (fpX6_ring_b54_8 a1 a2 M) (GX6_ring_8 z Q)) : Ev (wY, z) mtX6_ring 5 127 54 [some (.ref 0), some (.int a1), some (.int a2), none] [] M Q := by
  unfold fpX6_ring_b54_8 at h
  refine e_iconst (1 : Int32) dX6_ring_54 (by decide) ?_
  refine e_goto 59 dX6_ring_55 (by decide) ?_
  refine e_forget [some (.ref 0), some (.int a1), some (.int a2), none] (leL_s (leL_s (leL_s (leL_n leL_0)))) ?_
  exact ebX6_ring_b59_8 a1 a2 (1 : Int32) M h
def fpX6_ring_l8s (a1 : Int32) (a2 : Int32) (M : Me) : Option ((Int32 × Int32 × Me) ⊕ (Int32 × Me)) := (if ((1 : Int32) <<< ((M.1 1 0) &&& 31)) ≤ a2 then
 some (.inr (a1, M))
 else
 (if (a2 &&& ((M.1 0 8) ^^^ (-1 : Int32))) = 0 then
 (fpX6_ones a2).bind fun v10 =>
 (if v10 ≤ (1 : Int32) then
 fpX6_ring_b58_8 a1 a2 M
 else
 (if a1 < 0 then
 fpX6_ring_b54_8 a1 a2 M
 else
 (fpX6_ones a2).bind fun v13 =>
 (fpX6_ones a1).bind fun v14 =>
 (if v14 ≤ v13 then
 fpX6_ring_b58_8 a1 a2 M
 else
 fpX6_ring_b54_8 a1 a2 M)))
 else
 fpX6_ring_b58_8 a1 a2 M))
def fpX6_ring_l8 (s : Int32 × Int32 × Me) : Option ((Int32 × Int32 × Me) ⊕ (Int32 × Me)) := fpX6_ring_l8s s.1 s.2.1 s.2.2
set_option maxRecDepth 20000 in
theorem ebX6_ring_l8s {z : Zt} {Q : Option Value → Me → Prop} (a1 : Int32) (a2 : Int32) (M : Me) (h : ok (fpX6_ring_l8s a1 a2 M) (GX6_ring_8 z Q)) : Ev (wY, z) mtX6_ring 5 127 8 [some (.ref 0), some (.int a1), some (.int a2), none] [] M Q := by
  unfold fpX6_ring_l8s at h
  refine e_iload_n dX6_ring_8 rfl ?_
  refine e_iconst (1 : Int32) dX6_ring_9 (by decide) ?_
  refine e_aload_n dX6_ring_10 rfl ?_
  refine e_getR fa_RX6_7 is_Y0 rfl dX6_ring_11 ?_
  refine e_iconst (0 : Int32) dX6_ring_14 (by decide) ?_
  refine e_ialdK ia_Y1 (by unfold vp_in; decide) (q := 0) (by decide) dX6_ring_15 ?_
  refine e_ishl dX6_ring_16 ?_
  refine e_icmp_ge 84 dX6_ring_17 (by decide) (fun c2 => ?_) (fun c2 => ?_)
  · have h := ok_t c2 h
    refine e_forget [some (.ref 0), some (.int a1), none, none] (leL_s (leL_s (leL_n (leL_n leL_0)))) ?_
    have h := ok_some h
    exact h
  · have h := ok_f c2 h
    refine e_iload_n dX6_ring_20 rfl ?_
    refine e_aload_n dX6_ring_21 rfl ?_
    refine e_getI fa_RX6_137 is_Y0 dX6_ring_22 ?_
    refine e_iconst (-1 : Int32) dX6_ring_25 (by decide) ?_
    refine e_ixor dX6_ring_26 ?_
    refine e_iand dX6_ring_27 ?_
    refine e_if_ne 58 dX6_ring_28 (by decide) (fun c3 => ?_) (fun c3 => ?_)
    · have h := ok_f c3 h
      refine e_forget [some (.ref 0), some (.int a1), some (.int a2), none] (leL_s (leL_s (leL_s (leL_n leL_0)))) ?_
      exact ebX6_ring_b58_8 a1 a2 M h
    · have h := ok_t c3 h
      refine e_iload_n dX6_ring_31 rfl ?_
      refine e_callS (f2 := 0) (l2 := 0) (ν := mtX6_ones) (as := [.int a2]) cs_RX6_144 ⟨Nat.le_of_ble_eq_true rfl, Nat.le_of_ble_eq_true rfl⟩ rfl rfl (Nat.le_of_ble_eq_true rfl) dX6_ring_32 ?_
      refine ctX6_ones a2 (ok_bnd h (fun v10 h => ?_))
      show Ev (wY, z) mtX6_ring 5 127 35 [some (.ref 0), some (.int a1), some (.int a2), none] [.int v10] M Q
      refine e_iconst (1 : Int32) dX6_ring_35 (by decide) ?_
      refine e_icmp_le 58 dX6_ring_36 (by decide) (fun c11 => ?_) (fun c11 => ?_)
      · have h := ok_t c11 h
        refine e_forget [some (.ref 0), some (.int a1), some (.int a2), none] (leL_s (leL_s (leL_s (leL_n leL_0)))) ?_
        exact ebX6_ring_b58_8 a1 a2 M h
      · have h := ok_f c11 h
        refine e_iload_n dX6_ring_39 rfl ?_
        refine e_if_lt 54 dX6_ring_40 (by decide) (fun c12 => ?_) (fun c12 => ?_)
        · have h := ok_t c12 h
          refine e_forget [some (.ref 0), some (.int a1), some (.int a2), none] (leL_s (leL_s (leL_s (leL_n leL_0)))) ?_
          exact ebX6_ring_b54_8 a1 a2 M h
        · have h := ok_f c12 h
          refine e_iload_n dX6_ring_43 rfl ?_
          refine e_callS (f2 := 0) (l2 := 0) (ν := mtX6_ones) (as := [.int a2]) cs_RX6_144 ⟨Nat.le_of_ble_eq_true rfl, Nat.le_of_ble_eq_true rfl⟩ rfl rfl (Nat.le_of_ble_eq_true rfl) dX6_ring_44 ?_
          refine ctX6_ones a2 (ok_bnd h (fun v13 h => ?_))
          show Ev (wY, z) mtX6_ring 5 127 47 [some (.ref 0), some (.int a1), some (.int a2), none] [.int v13] M Q
          refine e_iload_n dX6_ring_47 rfl ?_
          refine e_callS (f2 := 0) (l2 := 0) (ν := mtX6_ones) (as := [.int a1]) cs_RX6_144 ⟨Nat.le_of_ble_eq_true rfl, Nat.le_of_ble_eq_true rfl⟩ rfl rfl (Nat.le_of_ble_eq_true rfl) dX6_ring_48 ?_
          refine ctX6_ones a1 (ok_bnd h (fun v14 h => ?_))
          show Ev (wY, z) mtX6_ring 5 127 51 [some (.ref 0), some (.int a1), some (.int a2), none] [.int v14, .int v13] M Q
          refine e_icmp_ge 58 dX6_ring_51 (by decide) (fun c15 => ?_) (fun c15 => ?_)
          · have h := ok_t c15 h
            refine e_forget [some (.ref 0), some (.int a1), some (.int a2), none] (leL_s (leL_s (leL_s (leL_n leL_0)))) ?_
            exact ebX6_ring_b58_8 a1 a2 M h
          · have h := ok_f c15 h
            refine e_forget [some (.ref 0), some (.int a1), some (.int a2), none] (leL_s (leL_s (leL_s (leL_n leL_0)))) ?_
            exact ebX6_ring_b54_8 a1 a2 M h
theorem elX6_ring_l8 {z : Zt} {Q : Option Value → Me → Prop} (N : Nat) (s : Int32 × Int32 × Me) (h : ok (lp (fpX6_ring_l8) N s) (XX6_ring_8 z Q)) : EX6_ring_8 z Q s :=
  lp_ind (fun s h => ebX6_ring_l8s s.1 s.2.1 s.2.2 h) N s h
def fpX6_ring  (M : Me) : Option (Int32 × Me) := (fpX6_findYields M).bind fun q1 =>
 (lp (fpX6_ring_l8) FU ((-1 : Int32), (1 : Int32), q1)).bind fun r16 =>
 (if 0 ≤ r16.1 then
 some (r16.1, r16.2)
 else
 (fpX6_finds (-1000004 : Int32) r16.2).bind fun q18 =>
 some (q18.1, q18.2))
set_option maxRecDepth 20000 in
theorem ctX6_ring {z : Zt} {M : Me} {Q : Option Value → Me → Prop}   (h : ok (fpX6_ring M) (fun a => Q (some (.int a.1)) a.2)) : EvM (wY, z) mtX6_ring 5 127 [.ref 0] M Q := by
  refine evm_of [some (.ref 0), none, none, none] 3 (by decide +kernel) (Nat.le_of_ble_eq_true rfl) rfl ?_
  unfold fpX6_ring at h
  refine e_aload_n dX6_ring_0 rfl ?_
  refine e_callV (f2 := 4) (l2 := 89) (ν := mtX6_findYields) (as := []) cv_RX6_153 is_Y0 kc_7 ⟨Nat.le_of_ble_eq_true rfl, Nat.le_of_ble_eq_true rfl⟩ rfl rfl (Nat.le_of_ble_eq_true rfl) dX6_ring_1 ?_
  refine ctX6_findYields (ok_bnd h (fun q1 h => ?_))
  show Ev (wY, z) mtX6_ring 5 127 4 [some (.ref 0), none, none, none] [] q1 Q
  refine e_iconst (-1 : Int32) dX6_ring_4 (by decide) ?_
  refine e_istore_n dX6_ring_5 (by decide) rfl ?_
  refine e_iconst (1 : Int32) dX6_ring_6 (by decide) ?_
  refine e_istore_n dX6_ring_7 (by decide) rfl ?_
  refine e_forget [some (.ref 0), some (.int (-1 : Int32)), some (.int (1 : Int32)), none] (leL_s (leL_s (leL_s (leL_n leL_0)))) ?_
  refine elX6_ring_l8 FU ((-1 : Int32), (1 : Int32), q1) (ok_bnd h (fun r16 h => ?_))
  show Ev (wY, z) mtX6_ring 5 127 84 [some (.ref 0), some (.int r16.1), none, none] [] r16.2 Q
  refine e_iload_n dX6_ring_84 rfl ?_
  refine e_if_ge 97 dX6_ring_85 (by decide) (fun c17 => ?_) (fun c17 => ?_)
  · have h := ok_t c17 h
    refine e_iload_n dX6_ring_97 rfl ?_
    have h := ok_some h
    exact e_iret rfl dX6_ring_98 h
  · have h := ok_f c17 h
    refine e_aload_n dX6_ring_88 rfl ?_
    refine e_ldc wk_RX6_172 dX6_ring_89 ?_
    refine e_callV (f2 := 0) (l2 := 0) (ν := mtX6_finds) (as := [.int (-1000004 : Int32)]) cv_RX6_81 is_Y0 kc_7 ⟨Nat.le_of_ble_eq_true rfl, Nat.le_of_ble_eq_true rfl⟩ rfl rfl (Nat.le_of_ble_eq_true rfl) dX6_ring_91 ?_
    refine ctX6_finds (-1000004 : Int32) (ok_bnd h (fun q18 h => ?_))
    show Ev (wY, z) mtX6_ring 5 127 94 [some (.ref 0), some (.int r16.1), none, none] [.int q18.1] q18.2 Q
    refine e_goto 98 dX6_ring_94 (by decide) ?_
    have h := ok_some h
    exact e_iret rfl dX6_ring_98 h
def XX6_takesOrder_2 (z : Zt) (Q : Option Value → Me → Prop) : (Me) → Prop := fun t => Ev (wY, z) mtX6_takesOrder 0 0 28 [none, none] [] t Q
def EX6_takesOrder_2 (z : Zt) (Q : Option Value → Me → Prop) : (Int32 × Me) → Prop := fun s => Ev (wY, z) mtX6_takesOrder 0 0 2 [some (.ref 0), some (.int s.1)] [] s.2 Q
def GX6_takesOrder_2 (z : Zt) (Q : Option Value → Me → Prop) : (Int32 × Me) ⊕ (Me) → Prop := Sum.elim (EX6_takesOrder_2 z Q) (XX6_takesOrder_2 z Q)
def fpX6_takesOrder_l2s (a1 : Int32) (M : Me) : Option ((Int32 × Me) ⊕ (Me)) := (if (M.1 0 12) ≤ a1 then
 some (.inr M)
 else
 (inb a1 8).bind fun k2 =>
 (inb a1 40).bind fun k3 =>
 letv (wrM M 9 k3 (M.1 10 k2)) fun M4 =>
 letv (a1 + (1 : Int32)) fun v5 =>
 some (.inl (v5, M4)))
def fpX6_takesOrder_l2 (s : Int32 × Me) : Option ((Int32 × Me) ⊕ (Me)) := fpX6_takesOrder_l2s s.1 s.2
set_option maxRecDepth 20000 in
theorem ebX6_takesOrder_l2s {z : Zt} {Q : Option Value → Me → Prop} (a1 : Int32) (M : Me) (h : ok (fpX6_takesOrder_l2s a1 M) (GX6_takesOrder_2 z Q)) : Ev (wY, z) mtX6_takesOrder 0 0 2 [some (.ref 0), some (.int a1)] [] M Q := by
  unfold fpX6_takesOrder_l2s at h
  refine e_iload_n dX6_takesOrder_2 rfl ?_
  refine e_aload_n dX6_takesOrder_3 rfl ?_
  refine e_getI fa_RX6_163 is_Y0 dX6_takesOrder_4 ?_
  refine e_icmp_ge 28 dX6_takesOrder_7 (by decide) (fun c1 => ?_) (fun c1 => ?_)
  · have h := ok_t c1 h
    refine e_forget [none, none] (leL_n (leL_n leL_0)) ?_
    have h := ok_some h
    exact h
  · have h := ok_f c1 h
    refine e_aload_n dX6_takesOrder_10 rfl ?_
    refine e_getR fa_RX6_34 is_Y0 rfl dX6_takesOrder_11 ?_
    refine e_iload_n dX6_takesOrder_14 rfl ?_
    refine e_aload_n dX6_takesOrder_15 rfl ?_
    refine e_getR fa_RX6_37 is_Y0 rfl dX6_takesOrder_16 ?_
    refine e_iload_n dX6_takesOrder_19 rfl ?_
    refine ok_inb h (fun k2 ek2 ik2 h => ?_)
    refine e_ialdK ia_Y10 ik2 ek2 dX6_takesOrder_20 ?_
    refine ok_inb h (fun k3 ek3 ik3 h => ?_)
    refine e_iastK ia_Y9 ik3 ek3 dX6_takesOrder_21 ?_
    refine lv1 (P := fun M4 => Ev (wY, z) mtX6_takesOrder 0 0 22 [some (.ref 0), some (.int a1)] [] M4 Q) h (fun M4 h => ?_)
    refine lv1e h (fun v5 ev5 h => ?_)
    refine e_iinc v5 dX6_takesOrder_22 rfl ev5 (by decide) rfl ?_
    refine e_goto 2 dX6_takesOrder_25 (by decide) ?_
    refine e_forget [some (.ref 0), some (.int v5)] (leL_s (leL_s leL_0)) ?_
    have h := ok_some h
    exact h
theorem elX6_takesOrder_l2 {z : Zt} {Q : Option Value → Me → Prop} (N : Nat) (s : Int32 × Me) (h : ok (lp (fpX6_takesOrder_l2) N s) (XX6_takesOrder_2 z Q)) : EX6_takesOrder_2 z Q s :=
  lp_ind (fun s h => ebX6_takesOrder_l2s s.1 s.2 h) N s h
def fpX6_takesOrder  (M : Me) : Option (Me) := (lp (fpX6_takesOrder_l2) FU ((0 : Int32), M)).bind fun r6 =>
 some r6
set_option maxRecDepth 20000 in
theorem ctX6_takesOrder {z : Zt} {M : Me} {Q : Option Value → Me → Prop}   (h : ok (fpX6_takesOrder M) (fun a => Q none a)) : EvM (wY, z) mtX6_takesOrder 0 0 [.ref 0] M Q := by
  refine evm_of [some (.ref 0), none] 1 (by decide +kernel) (Nat.le_of_ble_eq_true rfl) rfl ?_
  unfold fpX6_takesOrder at h
  refine e_iconst (0 : Int32) dX6_takesOrder_0 (by decide) ?_
  refine e_istore_n dX6_takesOrder_1 (by decide) rfl ?_
  refine e_forget [some (.ref 0), some (.int (0 : Int32))] (leL_s (leL_s leL_0)) ?_
  refine elX6_takesOrder_l2 FU ((0 : Int32), M) (ok_bnd h (fun r6 h => ?_))
  show Ev (wY, z) mtX6_takesOrder 0 0 28 [none, none] [] r6 Q
  have h := ok_some h
  exact e_vret rfl dX6_takesOrder_28 h
def fpX6_mistake (a1 : Int32) (a2 : Int32) (M : Me) : Option (Int32 × Me) := (if (fpX6_isWater a1 M) = 0 then
 (fpX6_finds (-1000001 : Int32) M).bind fun q2 =>
 some (q2.1, q2.2)
 else
 (if (fpX6_in (a2.toInt64) (0 : Int64) (7 : Int64)) = 0 then
 (fpX6_finds (-1000001 : Int32) M).bind fun q9 =>
 some (q9.1, q9.2)
 else
 (fpX6_findOrder a1 M).bind fun q4 =>
 (if a2 < (q4.2.1 0 12) then
 (fpX6_takesOrder q4.2).bind fun q6 =>
 (fpX6_brings a1 (q6.1 0 12) a2 q6).bind fun v7 =>
 some ((q4.1 - v7), q6)
 else
 (fpX6_finds (-1000004 : Int32) q4.2).bind fun q8 =>
 some (q8.1, q8.2))))
set_option maxRecDepth 20000 in
theorem ctX6_mistake {z : Zt} {M : Me} {Q : Option Value → Me → Prop} (a1 : Int32) (a2 : Int32)  (h : ok (fpX6_mistake a1 a2 M) (fun a => Q (some (.int a.1)) a.2)) : EvM (wY, z) mtX6_mistake 7 161 [.ref 0, .int a1, .int a2] M Q := by
  refine evm_of [some (.ref 0), some (.int a1), some (.int a2), none] 1 (by decide +kernel) (Nat.le_of_ble_eq_true rfl) rfl ?_
  unfold fpX6_mistake at h
  refine e_aload_n dX6_mistake_0 rfl ?_
  refine e_iload_n dX6_mistake_1 rfl ?_
  refine e_callV (f2 := 1) (l2 := 25) (ν := mtX6_isWater) (as := [.int a1]) cv_RX6_116 is_Y0 kc_7 ⟨Nat.le_of_ble_eq_true rfl, Nat.le_of_ble_eq_true rfl⟩ rfl rfl (Nat.le_of_ble_eq_true rfl) dX6_mistake_2 ?_
  refine ctX6_isWater a1 ?_
  show Ev (wY, z) mtX6_mistake 7 161 5 [some (.ref 0), some (.int a1), some (.int a2), none] [.int (fpX6_isWater a1 M)] M Q
  refine e_if_eq 20 dX6_mistake_5 (by decide) (fun c1 => ?_) (fun c1 => ?_)
  · have h := ok_t c1 h
    refine e_aload_n dX6_mistake_20 rfl ?_
    refine e_ldc wk_RX6_55 dX6_mistake_21 ?_
    refine e_callV (f2 := 0) (l2 := 0) (ν := mtX6_finds) (as := [.int (-1000001 : Int32)]) cv_RX6_81 is_Y0 kc_7 ⟨Nat.le_of_ble_eq_true rfl, Nat.le_of_ble_eq_true rfl⟩ rfl rfl (Nat.le_of_ble_eq_true rfl) dX6_mistake_23 ?_
    refine ctX6_finds (-1000001 : Int32) (ok_bnd h (fun q2 h => ?_))
    show Ev (wY, z) mtX6_mistake 7 161 26 [some (.ref 0), some (.int a1), some (.int a2), none] [.int q2.1] q2.2 Q
    have h := ok_some h
    exact e_iret rfl dX6_mistake_26 h
  · have h := ok_f c1 h
    refine e_iload_n dX6_mistake_8 rfl ?_
    refine e_i2l dX6_mistake_9 ?_
    refine e_lconst (0 : Int64) dX6_mistake_10 (by decide) ?_
    refine e_ldc2 wk_RX6_102 dX6_mistake_11 ?_
    refine e_callS (f2 := 0) (l2 := 0) (ν := mtX6_in) (as := [.long (a2.toInt64), .long (0 : Int64), .long (7 : Int64)]) cs_RX6_58 ⟨Nat.le_of_ble_eq_true rfl, Nat.le_of_ble_eq_true rfl⟩ rfl rfl (Nat.le_of_ble_eq_true rfl) dX6_mistake_14 ?_
    refine ctX6_in (a2.toInt64) (0 : Int64) (7 : Int64) ?_
    show Ev (wY, z) mtX6_mistake 7 161 17 [some (.ref 0), some (.int a1), some (.int a2), none] [.int (fpX6_in (a2.toInt64) (0 : Int64) (7 : Int64))] M Q
    refine e_if_ne 27 dX6_mistake_17 (by decide) (fun c3 => ?_) (fun c3 => ?_)
    · have h := ok_f c3 h
      refine e_aload_n dX6_mistake_27 rfl ?_
      refine e_iload_n dX6_mistake_28 rfl ?_
      refine e_callV (f2 := 6) (l2 := 132) (ν := mtX6_findOrder) (as := [.int a1]) cv_RX6_169 is_Y0 kc_7 ⟨Nat.le_of_ble_eq_true rfl, Nat.le_of_ble_eq_true rfl⟩ rfl rfl (Nat.le_of_ble_eq_true rfl) dX6_mistake_29 ?_
      refine ctX6_findOrder a1 (ok_bnd h (fun q4 h => ?_))
      show Ev (wY, z) mtX6_mistake 7 161 32 [some (.ref 0), some (.int a1), some (.int a2), none] [.int q4.1] q4.2 Q
      refine e_istore_n dX6_mistake_32 (by decide) rfl ?_
      refine e_iload_n dX6_mistake_33 rfl ?_
      refine e_aload_n dX6_mistake_34 rfl ?_
      refine e_getI fa_RX6_163 is_Y0 dX6_mistake_35 ?_
      refine e_icmp_lt 48 dX6_mistake_38 (by decide) (fun c5 => ?_) (fun c5 => ?_)
      · have h := ok_t c5 h
        refine e_aload_n dX6_mistake_48 rfl ?_
        refine e_callV (f2 := 0) (l2 := 0) (ν := mtX6_takesOrder) (as := []) cv_RX6_176 is_Y0 kc_7 ⟨Nat.le_of_ble_eq_true rfl, Nat.le_of_ble_eq_true rfl⟩ rfl rfl (Nat.le_of_ble_eq_true rfl) dX6_mistake_49 ?_
        refine ctX6_takesOrder (ok_bnd h (fun q6 h => ?_))
        show Ev (wY, z) mtX6_mistake 7 161 52 [some (.ref 0), some (.int a1), some (.int a2), some (.int q4.1)] [] q6 Q
        refine e_iload_n dX6_mistake_52 rfl ?_
        refine e_aload_n dX6_mistake_53 rfl ?_
        refine e_iload_n dX6_mistake_54 rfl ?_
        refine e_aload_n dX6_mistake_55 rfl ?_
        refine e_getI fa_RX6_163 is_Y0 dX6_mistake_56 ?_
        refine e_iload_n dX6_mistake_59 rfl ?_
        refine e_callV (f2 := 2) (l2 := 44) (ν := mtX6_brings) (as := [.int a1, .int (q6.1 0 12), .int a2]) cv_RX6_166 is_Y0 kc_7 ⟨Nat.le_of_ble_eq_true rfl, Nat.le_of_ble_eq_true rfl⟩ rfl rfl (Nat.le_of_ble_eq_true rfl) dX6_mistake_60 ?_
        refine ctX6_brings a1 (q6.1 0 12) a2 (ok_bnd h (fun v7 h => ?_))
        show Ev (wY, z) mtX6_mistake 7 161 63 [some (.ref 0), some (.int a1), some (.int a2), some (.int q4.1)] [.int v7, .int q4.1] q6 Q
        refine e_isub dX6_mistake_63 ?_
        have h := ok_some h
        exact e_iret rfl dX6_mistake_64 h
      · have h := ok_f c5 h
        refine e_aload_n dX6_mistake_41 rfl ?_
        refine e_ldc wk_RX6_172 dX6_mistake_42 ?_
        refine e_callV (f2 := 0) (l2 := 0) (ν := mtX6_finds) (as := [.int (-1000004 : Int32)]) cv_RX6_81 is_Y0 kc_7 ⟨Nat.le_of_ble_eq_true rfl, Nat.le_of_ble_eq_true rfl⟩ rfl rfl (Nat.le_of_ble_eq_true rfl) dX6_mistake_44 ?_
        refine ctX6_finds (-1000004 : Int32) (ok_bnd h (fun q8 h => ?_))
        show Ev (wY, z) mtX6_mistake 7 161 47 [some (.ref 0), some (.int a1), some (.int a2), some (.int q4.1)] [.int q8.1] q8.2 Q
        have h := ok_some h
        exact e_iret rfl dX6_mistake_47 h
    · have h := ok_t c3 h
      refine e_aload_n dX6_mistake_20 rfl ?_
      refine e_ldc wk_RX6_55 dX6_mistake_21 ?_
      refine e_callV (f2 := 0) (l2 := 0) (ν := mtX6_finds) (as := [.int (-1000001 : Int32)]) cv_RX6_81 is_Y0 kc_7 ⟨Nat.le_of_ble_eq_true rfl, Nat.le_of_ble_eq_true rfl⟩ rfl rfl (Nat.le_of_ble_eq_true rfl) dX6_mistake_23 ?_
      refine ctX6_finds (-1000001 : Int32) (ok_bnd h (fun q9 h => ?_))
      show Ev (wY, z) mtX6_mistake 7 161 26 [some (.ref 0), some (.int a1), some (.int a2), none] [.int q9.1] q9.2 Q
      have h := ok_some h
      exact e_iret rfl dX6_mistake_26 h
def XX6_dear_26 (z : Zt) (a1 : Int32) (Q : Option Value → Me → Prop) : (Int32 × Me) → Prop := fun t => Ev (wY, z) mtX6_dear 5 111 86 [some (.ref 0), none, some (.int t.1), none, none, none] [] t.2 Q
def EX6_dear_26 (z : Zt) (a1 : Int32) (Q : Option Value → Me → Prop) : (Int32 × Int32 × Int32 × Me) → Prop := fun s => Ev (wY, z) mtX6_dear 5 111 26 [some (.ref 0), some (.int a1), some (.int s.1), some (.int s.2.1), some (.int s.2.2.1), none] [] s.2.2.2 Q
def GX6_dear_26 (z : Zt) (a1 : Int32) (Q : Option Value → Me → Prop) : (Int32 × Int32 × Int32 × Me) ⊕ (Int32 × Me) → Prop := Sum.elim (EX6_dear_26 z a1 Q) (XX6_dear_26 z a1 Q)
def fpX6_dear_l26s (a1 : Int32) (a2 : Int32) (a3 : Int32) (a4 : Int32) (M : Me) : Option ((Int32 × Int32 × Int32 × Me) ⊕ (Int32 × Me)) := (if (M.1 1 0) ≤ a4 then
 some (.inr (a2, M))
 else
 (fpX6_bestFrom (M.1 1 7) a1 ((M.1 0 8) &&& (((1 : Int32) <<< (a4 &&& 31)) ^^^ (-1 : Int32))) (-1 : Int32) (0 : Int32) M).bind fun q4 =>
 (if a2 < 0 then
 letv (a4 + (1 : Int32)) fun v6 =>
 some (.inl (a4, q4.1, v6, q4.2))
 else
 (if a3 ≤ q4.1 then
 letv (a4 + (1 : Int32)) fun v8 =>
 some (.inl (a2, a3, v8, q4.2))
 else
 letv (a4 + (1 : Int32)) fun v9 =>
 some (.inl (a4, q4.1, v9, q4.2)))))
def fpX6_dear_l26 (a1 : Int32) (s : Int32 × Int32 × Int32 × Me) : Option ((Int32 × Int32 × Int32 × Me) ⊕ (Int32 × Me)) := fpX6_dear_l26s a1 s.1 s.2.1 s.2.2.1 s.2.2.2
set_option maxRecDepth 20000 in
theorem ebX6_dear_l26s {z : Zt} {Q : Option Value → Me → Prop} (a1 : Int32) (a2 : Int32) (a3 : Int32) (a4 : Int32) (M : Me) (h : ok (fpX6_dear_l26s a1 a2 a3 a4 M) (GX6_dear_26 z a1 Q)) : Ev (wY, z) mtX6_dear 5 111 26 [some (.ref 0), some (.int a1), some (.int a2), some (.int a3), some (.int a4), none] [] M Q := by
  unfold fpX6_dear_l26s at h
  refine e_iload dX6_dear_26 rfl ?_
  refine e_aload_n dX6_dear_28 rfl ?_
  refine e_getR fa_RX6_7 is_Y0 rfl dX6_dear_29 ?_
  refine e_iconst (0 : Int32) dX6_dear_32 (by decide) ?_
  refine e_ialdK ia_Y1 (by unfold vp_in; decide) (q := 0) (by decide) dX6_dear_33 ?_
  refine e_icmp_ge 86 dX6_dear_34 (by decide) (fun c3 => ?_) (fun c3 => ?_)
  · have h := ok_t c3 h
    refine e_forget [some (.ref 0), none, some (.int a2), none, none, none] (leL_s (leL_n (leL_s (leL_n (leL_n (leL_n leL_0)))))) ?_
    have h := ok_some h
    exact h
  · have h := ok_f c3 h
    refine e_aload_n dX6_dear_37 rfl ?_
    refine e_aload_n dX6_dear_38 rfl ?_
    refine e_getR fa_RX6_7 is_Y0 rfl dX6_dear_39 ?_
    refine e_bipush (7 : Int32) dX6_dear_42 (by decide) ?_
    refine e_ialdK ia_Y1 (by unfold vp_in; decide) (q := 7) (by decide) dX6_dear_44 ?_
    refine e_iload_n dX6_dear_45 rfl ?_
    refine e_aload_n dX6_dear_46 rfl ?_
    refine e_getI fa_RX6_137 is_Y0 dX6_dear_47 ?_
    refine e_iconst (1 : Int32) dX6_dear_50 (by decide) ?_
    refine e_iload dX6_dear_51 rfl ?_
    refine e_ishl dX6_dear_53 ?_
    refine e_iconst (-1 : Int32) dX6_dear_54 (by decide) ?_
    refine e_ixor dX6_dear_55 ?_
    refine e_iand dX6_dear_56 ?_
    refine e_iconst (-1 : Int32) dX6_dear_57 (by decide) ?_
    refine e_iconst (0 : Int32) dX6_dear_58 (by decide) ?_
    refine e_callV (f2 := 3) (l2 := 72) (ν := mtX6_bestFrom) (as := [.int (M.1 1 7), .int a1, .int ((M.1 0 8) &&& (((1 : Int32) <<< (a4 &&& 31)) ^^^ (-1 : Int32))), .int (-1 : Int32), .int (0 : Int32)]) cv_RX6_156 is_Y0 kc_7 ⟨Nat.le_of_ble_eq_true rfl, Nat.le_of_ble_eq_true rfl⟩ rfl rfl (Nat.le_of_ble_eq_true rfl) dX6_dear_59 ?_
    refine ctX6_bestFrom (M.1 1 7) a1 ((M.1 0 8) &&& (((1 : Int32) <<< (a4 &&& 31)) ^^^ (-1 : Int32))) (-1 : Int32) (0 : Int32) (ok_bnd h (fun q4 h => ?_))
    show Ev (wY, z) mtX6_dear 5 111 62 [some (.ref 0), some (.int a1), some (.int a2), some (.int a3), some (.int a4), none] [.int q4.1] q4.2 Q
    refine e_istore dX6_dear_62 (by decide) rfl ?_
    refine e_iload_n dX6_dear_64 rfl ?_
    refine e_if_lt 74 dX6_dear_65 (by decide) (fun c5 => ?_) (fun c5 => ?_)
    · have h := ok_t c5 h
      refine e_iload dX6_dear_74 rfl ?_
      refine e_istore_n dX6_dear_76 (by decide) rfl ?_
      refine e_iload dX6_dear_77 rfl ?_
      refine e_istore_n dX6_dear_79 (by decide) rfl ?_
      refine lv1e h (fun v6 ev6 h => ?_)
      refine e_iinc v6 dX6_dear_80 rfl ev6 (by decide) rfl ?_
      refine e_goto 26 dX6_dear_83 (by decide) ?_
      refine e_forget [some (.ref 0), some (.int a1), some (.int a4), some (.int q4.1), some (.int v6), none] (leL_s (leL_s (leL_s (leL_s (leL_s (leL_n leL_0)))))) ?_
      have h := ok_some h
      exact h
    · have h := ok_f c5 h
      refine e_iload dX6_dear_68 rfl ?_
      refine e_iload_n dX6_dear_70 rfl ?_
      refine e_icmp_ge 80 dX6_dear_71 (by decide) (fun c7 => ?_) (fun c7 => ?_)
      · have h := ok_t c7 h
        refine lv1e h (fun v8 ev8 h => ?_)
        refine e_iinc v8 dX6_dear_80 rfl ev8 (by decide) rfl ?_
        refine e_goto 26 dX6_dear_83 (by decide) ?_
        refine e_forget [some (.ref 0), some (.int a1), some (.int a2), some (.int a3), some (.int v8), none] (leL_s (leL_s (leL_s (leL_s (leL_s (leL_n leL_0)))))) ?_
        have h := ok_some h
        exact h
      · have h := ok_f c7 h
        refine e_iload dX6_dear_74 rfl ?_
        refine e_istore_n dX6_dear_76 (by decide) rfl ?_
        refine e_iload dX6_dear_77 rfl ?_
        refine e_istore_n dX6_dear_79 (by decide) rfl ?_
        refine lv1e h (fun v9 ev9 h => ?_)
        refine e_iinc v9 dX6_dear_80 rfl ev9 (by decide) rfl ?_
        refine e_goto 26 dX6_dear_83 (by decide) ?_
        refine e_forget [some (.ref 0), some (.int a1), some (.int a4), some (.int q4.1), some (.int v9), none] (leL_s (leL_s (leL_s (leL_s (leL_s (leL_n leL_0)))))) ?_
        have h := ok_some h
        exact h
theorem elX6_dear_l26 {z : Zt} {Q : Option Value → Me → Prop} (a1 : Int32) (N : Nat) (s : Int32 × Int32 × Int32 × Me) (h : ok (lp (fpX6_dear_l26 a1) N s) (XX6_dear_26 z a1 Q)) : EX6_dear_26 z a1 Q s :=
  lp_ind (fun s h => ebX6_dear_l26s a1 s.1 s.2.1 s.2.2.1 s.2.2.2 h) N s h
def fpX6_dear (a1 : Int32) (M : Me) : Option (Int32 × Me) := (if (fpX6_isWater a1 M) = 0 then
 (fpX6_finds (-1000001 : Int32) M).bind fun q13 =>
 some (q13.1, q13.2)
 else
 (fpX6_findYields M).bind fun q2 =>
 (lp (fpX6_dear_l26 a1) FU ((-1 : Int32), (0 : Int32), (0 : Int32), q2)).bind fun r10 =>
 (if 0 ≤ r10.1 then
 some (r10.1, r10.2)
 else
 (fpX6_finds (-1000004 : Int32) r10.2).bind fun q12 =>
 some (q12.1, q12.2)))
set_option maxRecDepth 20000 in
theorem ctX6_dear {z : Zt} {M : Me} {Q : Option Value → Me → Prop} (a1 : Int32)  (h : ok (fpX6_dear a1 M) (fun a => Q (some (.int a.1)) a.2)) : EvM (wY, z) mtX6_dear 5 111 [.ref 0, .int a1] M Q := by
  refine evm_of [some (.ref 0), some (.int a1), none, none, none, none] 4 (by decide +kernel) (Nat.le_of_ble_eq_true rfl) rfl ?_
  unfold fpX6_dear at h
  refine e_aload_n dX6_dear_0 rfl ?_
  refine e_iload_n dX6_dear_1 rfl ?_
  refine e_callV (f2 := 1) (l2 := 25) (ν := mtX6_isWater) (as := [.int a1]) cv_RX6_116 is_Y0 kc_7 ⟨Nat.le_of_ble_eq_true rfl, Nat.le_of_ble_eq_true rfl⟩ rfl rfl (Nat.le_of_ble_eq_true rfl) dX6_dear_2 ?_
  refine ctX6_isWater a1 ?_
  show Ev (wY, z) mtX6_dear 5 111 5 [some (.ref 0), some (.int a1), none, none, none, none] [.int (fpX6_isWater a1 M)] M Q
  refine e_if_ne 15 dX6_dear_5 (by decide) (fun c1 => ?_) (fun c1 => ?_)
  · have h := ok_f c1 h
    refine e_aload_n dX6_dear_15 rfl ?_
    refine e_callV (f2 := 4) (l2 := 89) (ν := mtX6_findYields) (as := []) cv_RX6_153 is_Y0 kc_7 ⟨Nat.le_of_ble_eq_true rfl, Nat.le_of_ble_eq_true rfl⟩ rfl rfl (Nat.le_of_ble_eq_true rfl) dX6_dear_16 ?_
    refine ctX6_findYields (ok_bnd h (fun q2 h => ?_))
    show Ev (wY, z) mtX6_dear 5 111 19 [some (.ref 0), some (.int a1), none, none, none, none] [] q2 Q
    refine e_iconst (-1 : Int32) dX6_dear_19 (by decide) ?_
    refine e_istore_n dX6_dear_20 (by decide) rfl ?_
    refine e_iconst (0 : Int32) dX6_dear_21 (by decide) ?_
    refine e_istore_n dX6_dear_22 (by decide) rfl ?_
    refine e_iconst (0 : Int32) dX6_dear_23 (by decide) ?_
    refine e_istore dX6_dear_24 (by decide) rfl ?_
    refine e_forget [some (.ref 0), some (.int a1), some (.int (-1 : Int32)), some (.int (0 : Int32)), some (.int (0 : Int32)), none] (leL_s (leL_s (leL_s (leL_s (leL_s (leL_n leL_0)))))) ?_
    refine elX6_dear_l26 a1 FU ((-1 : Int32), (0 : Int32), (0 : Int32), q2) (ok_bnd h (fun r10 h => ?_))
    show Ev (wY, z) mtX6_dear 5 111 86 [some (.ref 0), none, some (.int r10.1), none, none, none] [] r10.2 Q
    refine e_iload_n dX6_dear_86 rfl ?_
    refine e_if_ge 99 dX6_dear_87 (by decide) (fun c11 => ?_) (fun c11 => ?_)
    · have h := ok_t c11 h
      refine e_iload_n dX6_dear_99 rfl ?_
      have h := ok_some h
      exact e_iret rfl dX6_dear_100 h
    · have h := ok_f c11 h
      refine e_aload_n dX6_dear_90 rfl ?_
      refine e_ldc wk_RX6_172 dX6_dear_91 ?_
      refine e_callV (f2 := 0) (l2 := 0) (ν := mtX6_finds) (as := [.int (-1000004 : Int32)]) cv_RX6_81 is_Y0 kc_7 ⟨Nat.le_of_ble_eq_true rfl, Nat.le_of_ble_eq_true rfl⟩ rfl rfl (Nat.le_of_ble_eq_true rfl) dX6_dear_93 ?_
      refine ctX6_finds (-1000004 : Int32) (ok_bnd h (fun q12 h => ?_))
      show Ev (wY, z) mtX6_dear 5 111 96 [some (.ref 0), none, some (.int r10.1), none, none, none] [.int q12.1] q12.2 Q
      refine e_goto 100 dX6_dear_96 (by decide) ?_
      have h := ok_some h
      exact e_iret rfl dX6_dear_100 h
  · have h := ok_t c1 h
    refine e_aload_n dX6_dear_8 rfl ?_
    refine e_ldc wk_RX6_55 dX6_dear_9 ?_
    refine e_callV (f2 := 0) (l2 := 0) (ν := mtX6_finds) (as := [.int (-1000001 : Int32)]) cv_RX6_81 is_Y0 kc_7 ⟨Nat.le_of_ble_eq_true rfl, Nat.le_of_ble_eq_true rfl⟩ rfl rfl (Nat.le_of_ble_eq_true rfl) dX6_dear_11 ?_
    refine ctX6_finds (-1000001 : Int32) (ok_bnd h (fun q13 h => ?_))
    show Ev (wY, z) mtX6_dear 5 111 14 [some (.ref 0), some (.int a1), none, none, none, none] [.int q13.1] q13.2 Q
    have h := ok_some h
    exact e_iret rfl dX6_dear_14 h
