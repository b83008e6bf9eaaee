def XX6_spring_54 (z : Zt) (a1 : Int32) (a2 : Int32) (Q : Option Value → Me → Prop) : (Int32 × Me) → Prop := fun t => Ev (wY, z) mtX6_spring 6 132 116 [some (.ref 0), none, none, some (.int t.1), none, none, none] [] t.2 Q
def EX6_spring_54 (z : Zt) (a1 : Int32) (a2 : Int32) (Q : Option Value → Me → Prop) : (Int32 × Int32 × Int32 × Me) → Prop := fun s => Ev (wY, z) mtX6_spring 6 132 54 [some (.ref 0), some (.int a1), some (.int a2), some (.int s.1), some (.int s.2.1), some (.int s.2.2.1), none] [] s.2.2.2 Q
def GX6_spring_54 (z : Zt) (a1 : Int32) (a2 : Int32) (Q : Option Value → Me → Prop) : (Int32 × Int32 × Int32 × Me) ⊕ (Int32 × Me) → Prop := Sum.elim (EX6_spring_54 z a1 a2 Q) (XX6_spring_54 z a1 a2 Q)
def fpX6_spring_b93_54 (a1 : Int32) (a2 : Int32) (a4 : Int32) (a5 : Int32) (a6 : Int32) (t0 : Int32) (M : Me) : Option ((Int32 × Int32 × Int32 × Me) ⊕ (Int32 × Me)) := (if a6 ≤ a4 then
 letv (a5 + (1 : Int32)) fun v11 =>
 some (.inl (t0, a4, v11, M))
 else
 letv (a5 + (1 : Int32)) fun v12 =>
 some (.inl (t0, a6, v12, M)))
set_option maxRecDepth 20000 in
theorem ebX6_spring_b93_54 {z : Zt} {Q : Option Value → Me → Prop} (a1 : Int32) (a2 : Int32) (a4 : Int32) (a5 : Int32) (a6 : Int32) (t0 : Int32) (M : Me) (h : ok (fpX6_spring_b93_54 a1 a2 a4 a5 a6 t0 M) (GX6_spring_54 z a1 a2 Q)) : Ev (wY, z) mtX6_spring 6 132 93 [some (.ref 0), some (.int a1), some (.int a2), none, some (.int a4), some (.int a5), some (.int a6)] [.int t0] M Q := by
  unfold fpX6_spring_b93_54 at h
  refine e_istore_n dX6_spring_93 (by decide) rfl ?_
  refine e_iload dX6_spring_94 rfl ?_
  refine e_iload dX6_spring_96 rfl ?_
  refine e_icmp_le 106 dX6_spring_98 (by decide) (fun c10 => ?_) (fun c10 => ?_)
  · have h := ok_t c10 h
    refine e_iload dX6_spring_106 rfl ?_
    refine e_istore dX6_spring_108 (by decide) rfl ?_
    refine lv1e h (fun v11 ev11 h => ?_)
    refine e_iinc v11 dX6_spring_110 rfl ev11 (by decide) rfl ?_
    refine e_goto 54 dX6_spring_113 (by decide) ?_
    refine e_forget [some (.ref 0), some (.int a1), some (.int a2), some (.int t0), some (.int a4), some (.int v11), none] (leL_s (leL_s (leL_s (leL_s (leL_s (leL_s (leL_n leL_0))))))) ?_
    have h := ok_some h
    exact h
  · have h := ok_f c10 h
    refine e_iload dX6_spring_101 rfl ?_
    refine e_goto 108 dX6_spring_103 (by decide) ?_
    refine e_istore dX6_spring_108 (by decide) rfl ?_
    refine lv1e h (fun v12 ev12 h => ?_)
    refine e_iinc v12 dX6_spring_110 rfl ev12 (by decide) rfl ?_
    refine e_goto 54 dX6_spring_113 (by decide) ?_
    refine e_forget [some (.ref 0), some (.int a1), some (.int a2), some (.int t0), some (.int a6), some (.int v12), none] (leL_s (leL_s (leL_s (leL_s (leL_s (leL_s (leL_n leL_0))))))) ?_
    have h := ok_some h
    exact h
def fpX6_spring_l54s (a1 : Int32) (a2 : Int32) (a3 : Int32) (a4 : Int32) (a5 : Int32) (M : Me) : Option ((Int32 × Int32 × Int32 × Me) ⊕ (Int32 × Me)) := (if (100 : Int32) ≤ a5 then
 some (.inr (a3, M))
 else
 (inb (fpX6_at a2 (1 : Int32)) 70).bind fun k6 =>
 letv (wrM M 1 k6 a5) fun M7 =>
 (fpX6_mostWith a1 M7).bind fun q8 =>
 (if q8.1 ≤ a4 then
 fpX6_spring_b93_54 a1 a2 a4 a5 q8.1 a3 q8.2
 else
 fpX6_spring_b93_54 a1 a2 a4 a5 q8.1 a5 q8.2))
def fpX6_spring_l54 (a1 : Int32) (a2 : Int32) (s : Int32 × Int32 × Int32 × Me) : Option ((Int32 × Int32 × Int32 × Me) ⊕ (Int32 × Me)) := fpX6_spring_l54s a1 a2 s.1 s.2.1 s.2.2.1 s.2.2.2
set_option maxRecDepth 20000 in
theorem ebX6_spring_l54s {z : Zt} {Q : Option Value → Me → Prop} (a1 : Int32) (a2 : Int32) (a3 : Int32) (a4 : Int32) (a5 : Int32) (M : Me) (h : ok (fpX6_spring_l54s a1 a2 a3 a4 a5 M) (GX6_spring_54 z a1 a2 Q)) : Ev (wY, z) mtX6_spring 6 132 54 [some (.ref 0), some (.int a1), some (.int a2), some (.int a3), some (.int a4), some (.int a5), none] [] M Q := by
  unfold fpX6_spring_l54s at h
  refine e_iload dX6_spring_54 rfl ?_
  refine e_bipush (100 : Int32) dX6_spring_56 (by decide) ?_
  refine e_icmp_ge 116 dX6_spring_58 (by decide) (fun c5 => ?_) (fun c5 => ?_)
  · have h := ok_t c5 h
    refine e_forget [some (.ref 0), none, none, some (.int a3), none, none, none] (leL_s (leL_n (leL_n (leL_s (leL_n (leL_n (leL_n leL_0))))))) ?_
    have h := ok_some h
    exact h
  · have h := ok_f c5 h
    refine e_aload_n dX6_spring_61 rfl ?_
    refine e_getR fa_RX6_7 is_Y0 rfl dX6_spring_62 ?_
    refine e_iload_n dX6_spring_65 rfl ?_
    refine e_iconst (1 : Int32) dX6_spring_66 (by decide) ?_
    refine e_callS (f2 := 0) (l2 := 0) (ν := mtX6_at) (as := [.int a2, .int (1 : Int32)]) cs_RX6_63 ⟨Nat.le_of_ble_eq_true rfl, Nat.le_of_ble_eq_true rfl⟩ rfl rfl (Nat.le_of_ble_eq_true rfl) dX6_spring_67 ?_
    refine ctX6_at a2 (1 : Int32) ?_
    show Ev (wY, z) mtX6_spring 6 132 70 [some (.ref 0), some (.int a1), some (.int a2), some (.int a3), some (.int a4), some (.int a5), none] [.int (fpX6_at a2 (1 : Int32)), .ref 1] M Q
    refine e_iload dX6_spring_70 rfl ?_
    refine ok_inb h (fun k6 ek6 ik6 h => ?_)
    refine e_iastK ia_Y1 ik6 ek6 dX6_spring_72 ?_
    refine lv1 (P := fun M7 => Ev (wY, z) mtX6_spring 6 132 73 [some (.ref 0), some (.int a1), some (.int a2), some (.int a3), some (.int a4), some (.int a5), none] [] M7 Q) h (fun M7 h => ?_)
    refine e_aload_n dX6_spring_73 rfl ?_
    refine e_iload_n dX6_spring_74 rfl ?_
    refine e_callV (f2 := 5) (l2 := 111) (ν := mtX6_mostWith) (as := [.int a1]) cv_RX6_160 is_Y0 kc_7 ⟨Nat.le_of_ble_eq_true rfl, Nat.le_of_ble_eq_true rfl⟩ rfl rfl (Nat.le_of_ble_eq_true rfl) dX6_spring_75 ?_
    refine ctX6_mostWith a1 (ok_bnd h (fun q8 h => ?_))
    show Ev (wY, z) mtX6_spring 6 132 78 [some (.ref 0), some (.int a1), some (.int a2), some (.int a3), some (.int a4), some (.int a5), none] [.int q8.1] q8.2 Q
    refine e_istore dX6_spring_78 (by decide) rfl ?_
    refine e_iload dX6_spring_80 rfl ?_
    refine e_iload dX6_spring_82 rfl ?_
    refine e_icmp_le 92 dX6_spring_84 (by decide) (fun c9 => ?_) (fun c9 => ?_)
    · have h := ok_t c9 h
      refine e_iload_n dX6_spring_92 rfl ?_
      refine e_forget [some (.ref 0), some (.int a1), some (.int a2), none, some (.int a4), some (.int a5), some (.int q8.1)] (leL_s (leL_s (leL_s (leL_n (leL_s (leL_s (leL_s leL_0))))))) ?_
      exact ebX6_spring_b93_54 a1 a2 a4 a5 q8.1 a3 q8.2 h
    · have h := ok_f c9 h
      refine e_iload dX6_spring_87 rfl ?_
      refine e_goto 93 dX6_spring_89 (by decide) ?_
      refine e_forget [some (.ref 0), some (.int a1), some (.int a2), none, some (.int a4), some (.int a5), some (.int q8.1)] (leL_s (leL_s (leL_s (leL_n (leL_s (leL_s (leL_s leL_0))))))) ?_
      exact ebX6_spring_b93_54 a1 a2 a4 a5 q8.1 a5 q8.2 h
theorem elX6_spring_l54 {z : Zt} {Q : Option Value → Me → Prop} (a1 : Int32) (a2 : Int32) (N : Nat) (s : Int32 × Int32 × Int32 × Me) (h : ok (lp (fpX6_spring_l54 a1 a2) N s) (XX6_spring_54 z a1 a2 Q)) : EX6_spring_54 z a1 a2 Q s :=
  lp_ind (fun s h => ebX6_spring_l54s a1 a2 s.1 s.2.1 s.2.2.1 s.2.2.2 h) N s h
def fpX6_spring (a1 : Int32) (M : Me) : Option (Int32 × Me) := (if (fpX6_isWater a1 M) = 0 then
 (fpX6_finds (-1000001 : Int32) M).bind fun q16 =>
 some (q16.1, q16.2)
 else
 (if (M.1 1 0) = (8 : Int32) then
 (fpX6_finds (-1000002 : Int32) M).bind fun q15 =>
 some (q15.1, q15.2)
 else
 (fpX6_puts M).bind fun q3 =>
 (fpX6_newPump (2 : Int32) (0 : Int32) (1 : Int32) (0 : Int32) q3).bind fun q4 =>
 (lp (fpX6_spring_l54 a1 q4.1) FU ((0 : Int32), (-1 : Int32), (0 : Int32), q4.2)).bind fun r13 =>
 (fpX6_putsBack r13.2).bind fun q14 =>
 some (r13.1, q14)))
set_option maxRecDepth 20000 in
theorem ctX6_spring {z : Zt} {M : Me} {Q : Option Value → Me → Prop} (a1 : Int32)  (h : ok (fpX6_spring a1 M) (fun a => Q (some (.int a.1)) a.2)) : EvM (wY, z) mtX6_spring 6 132 [.ref 0, .int a1] M Q := by
  refine evm_of [some (.ref 0), some (.int a1), none, none, none, none, none] 5 (by decide +kernel) (Nat.le_of_ble_eq_true rfl) rfl ?_
  unfold fpX6_spring at h
  refine e_aload_n dX6_spring_0 rfl ?_
  refine e_iload_n dX6_spring_1 rfl ?_
  refine e_callV (f2 := 1) (l2 := 25) (ν := mtX6_isWater) (as := [.int a1]) cv_RX6_116 is_Y0 kc_7 ⟨Nat.le_of_ble_eq_true rfl, Nat.le_of_ble_eq_true rfl⟩ rfl rfl (Nat.le_of_ble_eq_true rfl) dX6_spring_2 ?_
  refine ctX6_isWater a1 ?_
  show Ev (wY, z) mtX6_spring 6 132 5 [some (.ref 0), some (.int a1), none, none, none, none, none] [.int (fpX6_isWater a1 M)] M Q
  refine e_if_ne 15 dX6_spring_5 (by decide) (fun c1 => ?_) (fun c1 => ?_)
  · have h := ok_f c1 h
    refine e_aload_n dX6_spring_15 rfl ?_
    refine e_getR fa_RX6_7 is_Y0 rfl dX6_spring_16 ?_
    refine e_iconst (0 : Int32) dX6_spring_19 (by decide) ?_
    refine e_ialdK ia_Y1 (by unfold vp_in; decide) (q := 0) (by decide) dX6_spring_20 ?_
    refine e_bipush (8 : Int32) dX6_spring_21 (by decide) ?_
    refine e_icmp_ne 33 dX6_spring_23 (by decide) (fun c2 => ?_) (fun c2 => ?_)
    · have h := ok_f c2 h
      refine e_aload_n dX6_spring_33 rfl ?_
      refine e_callV (f2 := 0) (l2 := 0) (ν := mtX6_puts) (as := []) cv_RX6_179 is_Y0 kc_7 ⟨Nat.le_of_ble_eq_true rfl, Nat.le_of_ble_eq_true rfl⟩ rfl rfl (Nat.le_of_ble_eq_true rfl) dX6_spring_34 ?_
      refine ctX6_puts (ok_bnd h (fun q3 h => ?_))
      show Ev (wY, z) mtX6_spring 6 132 37 [some (.ref 0), some (.int a1), none, none, none, none, none] [] q3 Q
      refine e_aload_n dX6_spring_37 rfl ?_
      refine e_iconst (2 : Int32) dX6_spring_38 (by decide) ?_
      refine e_iconst (0 : Int32) dX6_spring_39 (by decide) ?_
      refine e_iconst (1 : Int32) dX6_spring_40 (by decide) ?_
      refine e_iconst (0 : Int32) dX6_spring_41 (by decide) ?_
      refine e_callV (f2 := 1) (l2 := 21) (ν := mtX6_newPump) (as := [.int (2 : Int32), .int (0 : Int32), .int (1 : Int32), .int (0 : Int32)]) cv_RX6_86 is_Y0 kc_7 ⟨Nat.le_of_ble_eq_true rfl, Nat.le_of_ble_eq_true rfl⟩ rfl rfl (Nat.le_of_ble_eq_true rfl) dX6_spring_42 ?_
      refine ctX6_newPump (2 : Int32) (0 : Int32) (1 : Int32) (0 : Int32) (ok_bnd h (fun q4 h => ?_))
      show Ev (wY, z) mtX6_spring 6 132 45 [some (.ref 0), some (.int a1), none, none, none, none, none] [.int q4.1] q4.2 Q
      refine e_istore_n dX6_spring_45 (by decide) rfl ?_
      refine e_iconst (0 : Int32) dX6_spring_46 (by decide) ?_
      refine e_istore_n dX6_spring_47 (by decide) rfl ?_
      refine e_iconst (-1 : Int32) dX6_spring_48 (by decide) ?_
      refine e_istore dX6_spring_49 (by decide) rfl ?_
      refine e_iconst (0 : Int32) dX6_spring_51 (by decide) ?_
      refine e_istore dX6_spring_52 (by decide) rfl ?_
      refine e_forget [some (.ref 0), some (.int a1), some (.int q4.1), some (.int (0 : Int32)), some (.int (-1 : Int32)), some (.int (0 : Int32)), none] (leL_s (leL_s (leL_s (leL_s (leL_s (leL_s (leL_n leL_0))))))) ?_
      refine elX6_spring_l54 a1 q4.1 FU ((0 : Int32), (-1 : Int32), (0 : Int32), q4.2) (ok_bnd h (fun r13 h => ?_))
      show Ev (wY, z) mtX6_spring 6 132 116 [some (.ref 0), none, none, some (.int r13.1), none, none, none] [] r13.2 Q
      refine e_aload_n dX6_spring_116 rfl ?_
      refine e_callV (f2 := 0) (l2 := 0) (ν := mtX6_putsBack) (as := []) cv_RX6_182 is_Y0 kc_7 ⟨Nat.le_of_ble_eq_true rfl, Nat.le_of_ble_eq_true rfl⟩ rfl rfl (Nat.le_of_ble_eq_true rfl) dX6_spring_117 ?_
      refine ctX6_putsBack (ok_bnd h (fun q14 h => ?_))
      show Ev (wY, z) mtX6_spring 6 132 120 [some (.ref 0), none, none, some (.int r13.1), none, none, none] [] q14 Q
      refine e_iload_n dX6_spring_120 rfl ?_
      have h := ok_some h
      exact e_iret rfl dX6_spring_121 h
    · have h := ok_t c2 h
      refine e_aload_n dX6_spring_26 rfl ?_
      refine e_ldc wk_RX6_85 dX6_spring_27 ?_
      refine e_callV (f2 := 0) (l2 := 0) (ν := mtX6_finds) (as := [.int (-1000002 : Int32)]) cv_RX6_81 is_Y0 kc_7 ⟨Nat.le_of_ble_eq_true rfl, Nat.le_of_ble_eq_true rfl⟩ rfl rfl (Nat.le_of_ble_eq_true rfl) dX6_spring_29 ?_
      refine ctX6_finds (-1000002 : Int32) (ok_bnd h (fun q15 h => ?_))
      show Ev (wY, z) mtX6_spring 6 132 32 [some (.ref 0), some (.int a1), none, none, none, none, none] [.int q15.1] q15.2 Q
      have h := ok_some h
      exact e_iret rfl dX6_spring_32 h
  · have h := ok_t c1 h
    refine e_aload_n dX6_spring_8 rfl ?_
    refine e_ldc wk_RX6_55 dX6_spring_9 ?_
    refine e_callV (f2 := 0) (l2 := 0) (ν := mtX6_finds) (as := [.int (-1000001 : Int32)]) cv_RX6_81 is_Y0 kc_7 ⟨Nat.le_of_ble_eq_true rfl, Nat.le_of_ble_eq_true rfl⟩ rfl rfl (Nat.le_of_ble_eq_true rfl) dX6_spring_11 ?_
    refine ctX6_finds (-1000001 : Int32) (ok_bnd h (fun q16 h => ?_))
    show Ev (wY, z) mtX6_spring 6 132 14 [some (.ref 0), some (.int a1), none, none, none, none, none] [.int q16.1] q16.2 Q
    have h := ok_some h
    exact e_iret rfl dX6_spring_14 h
def XX6_matters_42 (z : Zt) (a1 : Int32) (a2 : Int32) (a3 : Int32) (Q : Option Value → Me → Prop) : (Int32 × Me) → Prop := fun t => Ev (wY, z) mtX6_matters 6 132 83 [some (.ref 0), none, some (.int a2), none, some (.int t.1), none] [] t.2 Q
def EX6_matters_42 (z : Zt) (a1 : Int32) (a2 : Int32) (a3 : Int32) (Q : Option Value → Me → Prop) : (Int32 × Int32 × Me) → Prop := fun s => Ev (wY, z) mtX6_matters 6 132 42 [some (.ref 0), some (.int a1), some (.int a2), some (.int a3), some (.int s.1), some (.int s.2.1)] [] s.2.2 Q
def GX6_matters_42 (z : Zt) (a1 : Int32) (a2 : Int32) (a3 : Int32) (Q : Option Value → Me → Prop) : (Int32 × Int32 × Me) ⊕ (Int32 × Me) → Prop := Sum.elim (EX6_matters_42 z a1 a2 a3 Q) (XX6_matters_42 z a1 a2 a3 Q)
def fpX6_matters_l42s (a1 : Int32) (a2 : Int32) (a3 : Int32) (a4 : Int32) (a5 : Int32) (M : Me) : Option ((Int32 × Int32 × Me) ⊕ (Int32 × Me)) := (if a5 ≤ 0 then
 some (.inr (a4, M))
 else
 (if 0 ≤ a4 then
 some (.inr (a4, M))
 else
 letv (wrM M 1 3 a5) fun M7 =>
 (fpX6_mostWith a1 M7).bind fun q8 =>
 (if a3 ≤ q8.1 then
 letv (a5 + (-1 : Int32)) fun v10 =>
 some (.inl ((-1 : Int32), v10, q8.2))
 else
 letv (a5 + (-1 : Int32)) fun v11 =>
 some (.inl (a5, v11, q8.2)))))
def fpX6_matters_l42 (a1 : Int32) (a2 : Int32) (a3 : Int32) (s : Int32 × Int32 × Me) : Option ((Int32 × Int32 × Me) ⊕ (Int32 × Me)) := fpX6_matters_l42s a1 a2 a3 s.1 s.2.1 s.2.2
set_option maxRecDepth 20000 in
theorem ebX6_matters_l42s {z : Zt} {Q : Option Value → Me → Prop} (a1 : Int32) (a2 : Int32) (a3 : Int32) (a4 : Int32) (a5 : Int32) (M : Me) (h : ok (fpX6_matters_l42s a1 a2 a3 a4 a5 M) (GX6_matters_42 z a1 a2 a3 Q)) : Ev (wY, z) mtX6_matters 6 132 42 [some (.ref 0), some (.int a1), some (.int a2), some (.int a3), some (.int a4), some (.int a5)] [] M Q := by
  unfold fpX6_matters_l42s at h
  refine e_iload dX6_matters_42 rfl ?_
  refine e_if_le 83 dX6_matters_44 (by decide) (fun c5 => ?_) (fun c5 => ?_)
  · have h := ok_t c5 h
    refine e_forget [some (.ref 0), none, some (.int a2), none, some (.int a4), none] (leL_s (leL_n (leL_s (leL_n (leL_s (leL_n leL_0)))))) ?_
    have h := ok_some h
    exact h
  · have h := ok_f c5 h
    refine e_iload dX6_matters_47 rfl ?_
    refine e_if_ge 83 dX6_matters_49 (by decide) (fun c6 => ?_) (fun c6 => ?_)
    · have h := ok_t c6 h
      refine e_forget [some (.ref 0), none, some (.int a2), none, some (.int a4), none] (leL_s (leL_n (leL_s (leL_n (leL_s (leL_n leL_0)))))) ?_
      have h := ok_some h
      exact h
    · have h := ok_f c6 h
      refine e_aload_n dX6_matters_52 rfl ?_
      refine e_getR fa_RX6_7 is_Y0 rfl dX6_matters_53 ?_
      refine e_iconst (3 : Int32) dX6_matters_56 (by decide) ?_
      refine e_iload dX6_matters_57 rfl ?_
      refine e_iastK ia_Y1 (by unfold vp_in; decide) (q := 3) (by decide) dX6_matters_59 ?_
      refine lv1 (P := fun M7 => Ev (wY, z) mtX6_matters 6 132 60 [some (.ref 0), some (.int a1), some (.int a2), some (.int a3), some (.int a4), some (.int a5)] [] M7 Q) h (fun M7 h => ?_)
      refine e_aload_n dX6_matters_60 rfl ?_
      refine e_iload_n dX6_matters_61 rfl ?_
      refine e_callV (f2 := 5) (l2 := 111) (ν := mtX6_mostWith) (as := [.int a1]) cv_RX6_160 is_Y0 kc_7 ⟨Nat.le_of_ble_eq_true rfl, Nat.le_of_ble_eq_true rfl⟩ rfl rfl (Nat.le_of_ble_eq_true rfl) dX6_matters_62 ?_
      refine ctX6_mostWith a1 (ok_bnd h (fun q8 h => ?_))
      show Ev (wY, z) mtX6_matters 6 132 65 [some (.ref 0), some (.int a1), some (.int a2), some (.int a3), some (.int a4), some (.int a5)] [.int q8.1] q8.2 Q
      refine e_iload_n dX6_matters_65 rfl ?_
      refine e_icmp_ge 74 dX6_matters_66 (by decide) (fun c9 => ?_) (fun c9 => ?_)
      · have h := ok_t c9 h
        refine e_iconst (-1 : Int32) dX6_matters_74 (by decide) ?_
        refine e_istore dX6_matters_75 (by decide) rfl ?_
        refine lv1e h (fun v10 ev10 h => ?_)
        refine e_iinc v10 dX6_matters_77 rfl ev10 (by decide) rfl ?_
        refine e_goto 42 dX6_matters_80 (by decide) ?_
        refine e_forget [some (.ref 0), some (.int a1), some (.int a2), some (.int a3), some (.int (-1 : Int32)), some (.int v10)] (leL_s (leL_s (leL_s (leL_s (leL_s (leL_s leL_0)))))) ?_
        have h := ok_some h
        exact h
      · have h := ok_f c9 h
        refine e_iload dX6_matters_69 rfl ?_
        refine e_goto 75 dX6_matters_71 (by decide) ?_
        refine e_istore dX6_matters_75 (by decide) rfl ?_
        refine lv1e h (fun v11 ev11 h => ?_)
        refine e_iinc v11 dX6_matters_77 rfl ev11 (by decide) rfl ?_
        refine e_goto 42 dX6_matters_80 (by decide) ?_
        refine e_forget [some (.ref 0), some (.int a1), some (.int a2), some (.int a3), some (.int a5), some (.int v11)] (leL_s (leL_s (leL_s (leL_s (leL_s (leL_s leL_0)))))) ?_
        have h := ok_some h
        exact h
theorem elX6_matters_l42 {z : Zt} {Q : Option Value → Me → Prop} (a1 : Int32) (a2 : Int32) (a3 : Int32) (N : Nat) (s : Int32 × Int32 × Me) (h : ok (lp (fpX6_matters_l42 a1 a2 a3) N s) (XX6_matters_42 z a1 a2 a3 Q)) : EX6_matters_42 z a1 a2 a3 Q s :=
  lp_ind (fun s h => ebX6_matters_l42s a1 a2 a3 s.1 s.2.1 s.2.2 h) N s h
def fpX6_matters_b83 (a2 : Int32) (a4 : Int32) (M : Me) : Option (Int32 × Me) := letv (wrM M 1 3 a2) fun M13 =>
 (if 0 ≤ a4 then
 some (a4, M13)
 else
 (fpX6_finds (-1000004 : Int32) M13).bind fun q15 =>
 some (q15.1, q15.2))
set_option maxRecDepth 20000 in
theorem ebX6_matters_b83 {z : Zt} {Q : Option Value → Me → Prop} (a2 : Int32) (a4 : Int32) (M : Me) (h : ok (fpX6_matters_b83 a2 a4 M) (fun a => Q (some (.int a.1)) a.2)) : Ev (wY, z) mtX6_matters 6 132 83 [some (.ref 0), none, some (.int a2), none, some (.int a4), none] [] M Q := by
  unfold fpX6_matters_b83 at h
  refine e_aload_n dX6_matters_83 rfl ?_
  refine e_getR fa_RX6_7 is_Y0 rfl dX6_matters_84 ?_
  refine e_iconst (3 : Int32) dX6_matters_87 (by decide) ?_
  refine e_iload_n dX6_matters_88 rfl ?_
  refine e_iastK ia_Y1 (by unfold vp_in; decide) (q := 3) (by decide) dX6_matters_89 ?_
  refine lv1 (P := fun M13 => Ev (wY, z) mtX6_matters 6 132 90 [some (.ref 0), none, some (.int a2), none, some (.int a4), none] [] M13 Q) h (fun M13 h => ?_)
  refine e_iload dX6_matters_90 rfl ?_
  refine e_if_ge 104 dX6_matters_92 (by decide) (fun c14 => ?_) (fun c14 => ?_)
  · have h := ok_t c14 h
    refine e_iload dX6_matters_104 rfl ?_
    have h := ok_some h
    exact e_iret rfl dX6_matters_106 h
  · have h := ok_f c14 h
    refine e_aload_n dX6_matters_95 rfl ?_
    refine e_ldc wk_RX6_172 dX6_matters_96 ?_
    refine e_callV (f2 := 0) (l2 := 0) (ν := mtX6_finds) (as := [.int (-1000004 : Int32)]) cv_RX6_81 is_Y0 kc_7 ⟨Nat.le_of_ble_eq_true rfl, Nat.le_of_ble_eq_true rfl⟩ rfl rfl (Nat.le_of_ble_eq_true rfl) dX6_matters_98 ?_
    refine ctX6_finds (-1000004 : Int32) (ok_bnd h (fun q15 h => ?_))
    show Ev (wY, z) mtX6_matters 6 132 101 [some (.ref 0), none, some (.int a2), none, some (.int a4), none] [.int q15.1] q15.2 Q
    refine e_goto 106 dX6_matters_101 (by decide) ?_
    have h := ok_some h
    exact e_iret rfl dX6_matters_106 h
def fpX6_matters (a1 : Int32) (M : Me) : Option (Int32 × Me) := (if (fpX6_isWater a1 M) = 0 then
 (fpX6_finds (-1000001 : Int32) M).bind fun q16 =>
 some (q16.1, q16.2)
 else
 letv (M.1 1 3) fun v2 =>
 letv (wrM M 1 3 (0 : Int32)) fun M3 =>
 (fpX6_mostWith a1 M3).bind fun q4 =>
 (lp (fpX6_matters_l42 a1 v2 q4.1) FU ((-1 : Int32), (99 : Int32), q4.2)).bind fun r12 =>
 fpX6_matters_b83 v2 r12.1 r12.2)
set_option maxRecDepth 20000 in
theorem ctX6_matters {z : Zt} {M : Me} {Q : Option Value → Me → Prop} (a1 : Int32)  (h : ok (fpX6_matters a1 M) (fun a => Q (some (.int a.1)) a.2)) : EvM (wY, z) mtX6_matters 6 132 [.ref 0, .int a1] M Q := by
  refine evm_of [some (.ref 0), some (.int a1), none, none, none, none] 4 (by decide +kernel) (Nat.le_of_ble_eq_true rfl) rfl ?_
  unfold fpX6_matters at h
  refine e_aload_n dX6_matters_0 rfl ?_
  refine e_iload_n dX6_matters_1 rfl ?_
  refine e_callV (f2 := 1) (l2 := 25) (ν := mtX6_isWater) (as := [.int a1]) cv_RX6_116 is_Y0 kc_7 ⟨Nat.le_of_ble_eq_true rfl, Nat.le_of_ble_eq_true rfl⟩ rfl rfl (Nat.le_of_ble_eq_true rfl) dX6_matters_2 ?_
  refine ctX6_isWater a1 ?_
  show Ev (wY, z) mtX6_matters 6 132 5 [some (.ref 0), some (.int a1), none, none, none, none] [.int (fpX6_isWater a1 M)] M Q
  refine e_if_ne 15 dX6_matters_5 (by decide) (fun c1 => ?_) (fun c1 => ?_)
  · have h := ok_f c1 h
    refine e_aload_n dX6_matters_15 rfl ?_
    refine e_getR fa_RX6_7 is_Y0 rfl dX6_matters_16 ?_
    refine e_iconst (3 : Int32) dX6_matters_19 (by decide) ?_
    refine e_ialdK ia_Y1 (by unfold vp_in; decide) (q := 3) (by decide) dX6_matters_20 ?_
    refine lv1 (P := fun v2 => Ev (wY, z) mtX6_matters 6 132 21 [some (.ref 0), some (.int a1), none, none, none, none] [.int v2] M Q) h (fun v2 h => ?_)
    refine e_istore_n dX6_matters_21 (by decide) rfl ?_
    refine e_aload_n dX6_matters_22 rfl ?_
    refine e_getR fa_RX6_7 is_Y0 rfl dX6_matters_23 ?_
    refine e_iconst (3 : Int32) dX6_matters_26 (by decide) ?_
    refine e_iconst (0 : Int32) dX6_matters_27 (by decide) ?_
    refine e_iastK ia_Y1 (by unfold vp_in; decide) (q := 3) (by decide) dX6_matters_28 ?_
    refine lv1 (P := fun M3 => Ev (wY, z) mtX6_matters 6 132 29 [some (.ref 0), some (.int a1), some (.int v2), none, none, none] [] M3 Q) h (fun M3 h => ?_)
    refine e_aload_n dX6_matters_29 rfl ?_
    refine e_iload_n dX6_matters_30 rfl ?_
    refine e_callV (f2 := 5) (l2 := 111) (ν := mtX6_mostWith) (as := [.int a1]) cv_RX6_160 is_Y0 kc_7 ⟨Nat.le_of_ble_eq_true rfl, Nat.le_of_ble_eq_true rfl⟩ rfl rfl (Nat.le_of_ble_eq_true rfl) dX6_matters_31 ?_
    refine ctX6_mostWith a1 (ok_bnd h (fun q4 h => ?_))
    show Ev (wY, z) mtX6_matters 6 132 34 [some (.ref 0), some (.int a1), some (.int v2), none, none, none] [.int q4.1] q4.2 Q
    refine e_istore_n dX6_matters_34 (by decide) rfl ?_
    refine e_iconst (-1 : Int32) dX6_matters_35 (by decide) ?_
    refine e_istore dX6_matters_36 (by decide) rfl ?_
    refine e_bipush (99 : Int32) dX6_matters_38 (by decide) ?_
    refine e_istore dX6_matters_40 (by decide) rfl ?_
    refine e_forget [some (.ref 0), some (.int a1), some (.int v2), some (.int q4.1), some (.int (-1 : Int32)), some (.int (99 : Int32))] (leL_s (leL_s (leL_s (leL_s (leL_s (leL_s leL_0)))))) ?_
    refine elX6_matters_l42 a1 v2 q4.1 FU ((-1 : Int32), (99 : Int32), q4.2) (ok_bnd h (fun r12 h => ?_))
    show Ev (wY, z) mtX6_matters 6 132 83 [some (.ref 0), none, some (.int v2), none, some (.int r12.1), none] [] r12.2 Q
    refine e_forget [some (.ref 0), none, some (.int v2), none, some (.int r12.1), none] (leL_s (leL_n (leL_s (leL_n (leL_s (leL_n leL_0)))))) ?_
    exact ebX6_matters_b83 v2 r12.1 r12.2 h
  · have h := ok_t c1 h
    refine e_aload_n dX6_matters_8 rfl ?_
    refine e_ldc wk_RX6_55 dX6_matters_9 ?_
    refine e_callV (f2 := 0) (l2 := 0) (ν := mtX6_finds) (as := [.int (-1000001 : Int32)]) cv_RX6_81 is_Y0 kc_7 ⟨Nat.le_of_ble_eq_true rfl, Nat.le_of_ble_eq_true rfl⟩ rfl rfl (Nat.le_of_ble_eq_true rfl) dX6_matters_11 ?_
    refine ctX6_finds (-1000001 : Int32) (ok_bnd h (fun q16 h => ?_))
    show Ev (wY, z) mtX6_matters 6 132 14 [some (.ref 0), some (.int a1), none, none, none, none] [.int q16.1] q16.2 Q
    have h := ok_some h
    exact e_iret rfl dX6_matters_14 h
def XX6_room_56 (z : Zt) (a1 : Int32) (a2 : Int32) (a3 : Int32) (Q : Option Value → Me → Prop) : (Int32 × Me) → Prop := fun t => Ev (wY, z) mtX6_room 6 132 109 [some (.ref 0), none, some (.int a2), none, none, some (.int t.1)] [] t.2 Q
def EX6_room_56 (z : Zt) (a1 : Int32) (a2 : Int32) (a3 : Int32) (Q : Option Value → Me → Prop) : (Int32 × Int32 × Me) → Prop := fun s => Ev (wY, z) mtX6_room 6 132 56 [some (.ref 0), some (.int a1), some (.int a2), some (.int a3), some (.int s.1), some (.int s.2.1)] [] s.2.2 Q
def GX6_room_56 (z : Zt) (a1 : Int32) (a2 : Int32) (a3 : Int32) (Q : Option Value → Me → Prop) : (Int32 × Int32 × Me) ⊕ (Int32 × Me) → Prop := Sum.elim (EX6_room_56 z a1 a2 a3 Q) (XX6_room_56 z a1 a2 a3 Q)
def fpX6_room_l56s (a1 : Int32) (a2 : Int32) (a3 : Int32) (a4 : Int32) (a5 : Int32) (M : Me) : Option ((Int32 × Int32 × Me) ⊕ (Int32 × Me)) := (if (a5 - a4) ≤ (1 : Int32) then
 some (.inr (a5, M))
 else
 letv (wrM M 1 2 ((a4 + a5) / (2 : Int32))) fun M7 =>
 (fpX6_mostWith a1 M7).bind fun q8 =>
 (if a3 ≤ q8.1 then
 letv (q8.2.1 1 2) fun v10 =>
 some (.inl (a4, v10, q8.2))
 else
 letv (q8.2.1 1 2) fun v11 =>
 some (.inl (v11, a5, q8.2))))
def fpX6_room_l56 (a1 : Int32) (a2 : Int32) (a3 : Int32) (s : Int32 × Int32 × Me) : Option ((Int32 × Int32 × Me) ⊕ (Int32 × Me)) := fpX6_room_l56s a1 a2 a3 s.1 s.2.1 s.2.2
set_option maxRecDepth 20000 in
theorem ebX6_room_l56s {z : Zt} {Q : Option Value → Me → Prop} (a1 : Int32) (a2 : Int32) (a3 : Int32) (a4 : Int32) (a5 : Int32) (M : Me) (h : ok (fpX6_room_l56s a1 a2 a3 a4 a5 M) (GX6_room_56 z a1 a2 a3 Q)) : Ev (wY, z) mtX6_room 6 132 56 [some (.ref 0), some (.int a1), some (.int a2), some (.int a3), some (.int a4), some (.int a5)] [] M Q := by
  unfold fpX6_room_l56s at h
  refine e_iload dX6_room_56 rfl ?_
  refine e_iload dX6_room_58 rfl ?_
  refine e_isub dX6_room_60 ?_
  refine e_iconst (1 : Int32) dX6_room_61 (by decide) ?_
  refine e_icmp_le 109 dX6_room_62 (by decide) (fun c6 => ?_) (fun c6 => ?_)
  · have h := ok_t c6 h
    refine e_forget [some (.ref 0), none, some (.int a2), none, none, some (.int a5)] (leL_s (leL_n (leL_s (leL_n (leL_n (leL_s leL_0)))))) ?_
    have h := ok_some h
    exact h
  · have h := ok_f c6 h
    refine e_aload_n dX6_room_65 rfl ?_
    refine e_getR fa_RX6_7 is_Y0 rfl dX6_room_66 ?_
    refine e_iconst (2 : Int32) dX6_room_69 (by decide) ?_
    refine e_iload dX6_room_70 rfl ?_
    refine e_iload dX6_room_72 rfl ?_
    refine e_iadd dX6_room_74 ?_
    refine e_iconst (2 : Int32) dX6_room_75 (by decide) ?_
    refine e_idiv dX6_room_76 (by decide) ?_
    refine e_iastK ia_Y1 (by unfold vp_in; decide) (q := 2) (by decide) dX6_room_77 ?_
    refine lv1 (P := fun M7 => Ev (wY, z) mtX6_room 6 132 78 [some (.ref 0), some (.int a1), some (.int a2), some (.int a3), some (.int a4), some (.int a5)] [] M7 Q) h (fun M7 h => ?_)
    refine e_aload_n dX6_room_78 rfl ?_
    refine e_iload_n dX6_room_79 rfl ?_
    refine e_callV (f2 := 5) (l2 := 111) (ν := mtX6_mostWith) (as := [.int a1]) cv_RX6_160 is_Y0 kc_7 ⟨Nat.le_of_ble_eq_true rfl, Nat.le_of_ble_eq_true rfl⟩ rfl rfl (Nat.le_of_ble_eq_true rfl) dX6_room_80 ?_
    refine ctX6_mostWith a1 (ok_bnd h (fun q8 h => ?_))
    show Ev (wY, z) mtX6_room 6 132 83 [some (.ref 0), some (.int a1), some (.int a2), some (.int a3), some (.int a4), some (.int a5)] [.int q8.1] q8.2 Q
    refine e_iload_n dX6_room_83 rfl ?_
    refine e_icmp_ge 98 dX6_room_84 (by decide) (fun c9 => ?_) (fun c9 => ?_)
    · have h := ok_t c9 h
      refine e_aload_n dX6_room_98 rfl ?_
      refine e_getR fa_RX6_7 is_Y0 rfl dX6_room_99 ?_
      refine e_iconst (2 : Int32) dX6_room_102 (by decide) ?_
      refine e_ialdK ia_Y1 (by unfold vp_in; decide) (q := 2) (by decide) dX6_room_103 ?_
      refine lv1 (P := fun v10 => Ev (wY, z) mtX6_room 6 132 104 [some (.ref 0), some (.int a1), some (.int a2), some (.int a3), some (.int a4), some (.int a5)] [.int v10] q8.2 Q) h (fun v10 h => ?_)
      refine e_istore dX6_room_104 (by decide) rfl ?_
      refine e_goto 56 dX6_room_106 (by decide) ?_
      refine e_forget [some (.ref 0), some (.int a1), some (.int a2), some (.int a3), some (.int a4), some (.int v10)] (leL_s (leL_s (leL_s (leL_s (leL_s (leL_s leL_0)))))) ?_
      have h := ok_some h
      exact h
    · have h := ok_f c9 h
      refine e_aload_n dX6_room_87 rfl ?_
      refine e_getR fa_RX6_7 is_Y0 rfl dX6_room_88 ?_
      refine e_iconst (2 : Int32) dX6_room_91 (by decide) ?_
      refine e_ialdK ia_Y1 (by unfold vp_in; decide) (q := 2) (by decide) dX6_room_92 ?_
      refine lv1 (P := fun v11 => Ev (wY, z) mtX6_room 6 132 93 [some (.ref 0), some (.int a1), some (.int a2), some (.int a3), some (.int a4), some (.int a5)] [.int v11] q8.2 Q) h (fun v11 h => ?_)
      refine e_istore dX6_room_93 (by decide) rfl ?_
      refine e_goto 56 dX6_room_95 (by decide) ?_
      refine e_forget [some (.ref 0), some (.int a1), some (.int a2), some (.int a3), some (.int v11), some (.int a5)] (leL_s (leL_s (leL_s (leL_s (leL_s (leL_s leL_0)))))) ?_
      have h := ok_some h
      exact h
theorem elX6_room_l56 {z : Zt} {Q : Option Value → Me → Prop} (a1 : Int32) (a2 : Int32) (a3 : Int32) (N : Nat) (s : Int32 × Int32 × Me) (h : ok (lp (fpX6_room_l56 a1 a2 a3) N s) (XX6_room_56 z a1 a2 a3 Q)) : EX6_room_56 z a1 a2 a3 Q s :=
  lp_ind (fun s h => ebX6_room_l56s a1 a2 a3 s.1 s.2.1 s.2.2 h) N s h
def fpX6_room_b49 (a1 : Int32) (a2 : Int32) (a3 : Int32) (t0 : Int32) (M : Me) : Option (Int32 × Me) := (lp (fpX6_room_l56 a1 a2 a3) FU (t0, (999 : Int32), M)).bind fun r12 =>
 letv (wrM r12.2 1 2 a2) fun M13 =>
 some (r12.1, M13)
set_option maxRecDepth 20000 in
theorem ebX6_room_b49 {z : Zt} {Q : Option Value → Me → Prop} (a1 : Int32) (a2 : Int32) (a3 : Int32) (t0 : Int32) (M : Me) (h : ok (fpX6_room_b49 a1 a2 a3 t0 M) (fun a => Q (some (.int a.1)) a.2)) : Ev (wY, z) mtX6_room 6 132 49 [some (.ref 0), some (.int a1), some (.int a2), some (.int a3), none, none] [.int t0] M Q := by
  unfold fpX6_room_b49 at h
  refine e_istore dX6_room_49 (by decide) rfl ?_
  refine e_sipush (999 : Int32) dX6_room_51 (by decide) ?_
  refine e_istore dX6_room_54 (by decide) rfl ?_
  refine e_forget [some (.ref 0), some (.int a1), some (.int a2), some (.int a3), some (.int t0), some (.int (999 : Int32))] (leL_s (leL_s (leL_s (leL_s (leL_s (leL_s leL_0)))))) ?_
  refine elX6_room_l56 a1 a2 a3 FU (t0, (999 : Int32), M) (ok_bnd h (fun r12 h => ?_))
  show Ev (wY, z) mtX6_room 6 132 109 [some (.ref 0), none, some (.int a2), none, none, some (.int r12.1)] [] r12.2 Q
  refine e_aload_n dX6_room_109 rfl ?_
  refine e_getR fa_RX6_7 is_Y0 rfl dX6_room_110 ?_
  refine e_iconst (2 : Int32) dX6_room_113 (by decide) ?_
  refine e_iload_n dX6_room_114 rfl ?_
  refine e_iastK ia_Y1 (by unfold vp_in; decide) (q := 2) (by decide) dX6_room_115 ?_
  refine lv1 (P := fun M13 => Ev (wY, z) mtX6_room 6 132 116 [some (.ref 0), none, some (.int a2), none, none, some (.int r12.1)] [] M13 Q) h (fun M13 h => ?_)
  refine e_iload dX6_room_116 rfl ?_
  have h := ok_some h
  exact e_iret rfl dX6_room_118 h
def fpX6_room (a1 : Int32) (M : Me) : Option (Int32 × Me) := (if (fpX6_isWater a1 M) = 0 then
 (fpX6_finds (-1000001 : Int32) M).bind fun q14 =>
 some (q14.1, q14.2)
 else
 letv (M.1 1 2) fun v2 =>
 letv (wrM M 1 2 (999 : Int32)) fun M3 =>
 (fpX6_mostWith a1 M3).bind fun q4 =>
 (if a1 ≤ (1 : Int32) then
 fpX6_room_b49 a1 v2 q4.1 (0 : Int32) q4.2
 else
 fpX6_room_b49 a1 v2 q4.1 (a1 - (1 : Int32)) q4.2))
set_option maxRecDepth 20000 in
theorem ctX6_room {z : Zt} {M : Me} {Q : Option Value → Me → Prop} (a1 : Int32)  (h : ok (fpX6_room a1 M) (fun a => Q (some (.int a.1)) a.2)) : EvM (wY, z) mtX6_room 6 132 [.ref 0, .int a1] M Q := by
  refine evm_of [some (.ref 0), some (.int a1), none, none, none, none] 4 (by decide +kernel) (Nat.le_of_ble_eq_true rfl) rfl ?_
  unfold fpX6_room at h
  refine e_aload_n dX6_room_0 rfl ?_
  refine e_iload_n dX6_room_1 rfl ?_
  refine e_callV (f2 := 1) (l2 := 25) (ν := mtX6_isWater) (as := [.int a1]) cv_RX6_116 is_Y0 kc_7 ⟨Nat.le_of_ble_eq_true rfl, Nat.le_of_ble_eq_true rfl⟩ rfl rfl (Nat.le_of_ble_eq_true rfl) dX6_room_2 ?_
  refine ctX6_isWater a1 ?_
  show Ev (wY, z) mtX6_room 6 132 5 [some (.ref 0), some (.int a1), none, none, none, none] [.int (fpX6_isWater a1 M)] M Q
  refine e_if_ne 15 dX6_room_5 (by decide) (fun c1 => ?_) (fun c1 => ?_)
  · have h := ok_f c1 h
    refine e_aload_n dX6_room_15 rfl ?_
    refine e_getR fa_RX6_7 is_Y0 rfl dX6_room_16 ?_
    refine e_iconst (2 : Int32) dX6_room_19 (by decide) ?_
    refine e_ialdK ia_Y1 (by unfold vp_in; decide) (q := 2) (by decide) dX6_room_20 ?_
    refine lv1 (P := fun v2 => Ev (wY, z) mtX6_room 6 132 21 [some (.ref 0), some (.int a1), none, none, none, none] [.int v2] M Q) h (fun v2 h => ?_)
    refine e_istore_n dX6_room_21 (by decide) rfl ?_
    refine e_aload_n dX6_room_22 rfl ?_
    refine e_getR fa_RX6_7 is_Y0 rfl dX6_room_23 ?_
    refine e_iconst (2 : Int32) dX6_room_26 (by decide) ?_
    refine e_sipush (999 : Int32) dX6_room_27 (by decide) ?_
    refine e_iastK ia_Y1 (by unfold vp_in; decide) (q := 2) (by decide) dX6_room_30 ?_
    refine lv1 (P := fun M3 => Ev (wY, z) mtX6_room 6 132 31 [some (.ref 0), some (.int a1), some (.int v2), none, none, none] [] M3 Q) h (fun M3 h => ?_)
    refine e_aload_n dX6_room_31 rfl ?_
    refine e_iload_n dX6_room_32 rfl ?_
    refine e_callV (f2 := 5) (l2 := 111) (ν := mtX6_mostWith) (as := [.int a1]) cv_RX6_160 is_Y0 kc_7 ⟨Nat.le_of_ble_eq_true rfl, Nat.le_of_ble_eq_true rfl⟩ rfl rfl (Nat.le_of_ble_eq_true rfl) dX6_room_33 ?_
    refine ctX6_mostWith a1 (ok_bnd h (fun q4 h => ?_))
    show Ev (wY, z) mtX6_room 6 132 36 [some (.ref 0), some (.int a1), some (.int v2), none, none, none] [.int q4.1] q4.2 Q
    refine e_istore_n dX6_room_36 (by decide) rfl ?_
    refine e_iload_n dX6_room_37 rfl ?_
    refine e_iconst (1 : Int32) dX6_room_38 (by decide) ?_
    refine e_icmp_le 48 dX6_room_39 (by decide) (fun c5 => ?_) (fun c5 => ?_)
    · have h := ok_t c5 h
      refine e_iconst (0 : Int32) dX6_room_48 (by decide) ?_
      refine e_forget [some (.ref 0), some (.int a1), some (.int v2), some (.int q4.1), none, none] (leL_s (leL_s (leL_s (leL_s (leL_n (leL_n leL_0)))))) ?_
      exact ebX6_room_b49 a1 v2 q4.1 (0 : Int32) q4.2 h
    · have h := ok_f c5 h
      refine e_iload_n dX6_room_42 rfl ?_
      refine e_iconst (1 : Int32) dX6_room_43 (by decide) ?_
      refine e_isub dX6_room_44 ?_
      refine e_goto 49 dX6_room_45 (by decide) ?_
      refine e_forget [some (.ref 0), some (.int a1), some (.int v2), some (.int q4.1), none, none] (leL_s (leL_s (leL_s (leL_s (leL_n (leL_n leL_0)))))) ?_
      exact ebX6_room_b49 a1 v2 q4.1 (a1 - (1 : Int32)) q4.2 h
  · have h := ok_t c1 h
    refine e_aload_n dX6_room_8 rfl ?_
    refine e_ldc wk_RX6_55 dX6_room_9 ?_
    refine e_callV (f2 := 0) (l2 := 0) (ν := mtX6_finds) (as := [.int (-1000001 : Int32)]) cv_RX6_81 is_Y0 kc_7 ⟨Nat.le_of_ble_eq_true rfl, Nat.le_of_ble_eq_true rfl⟩ rfl rfl (Nat.le_of_ble_eq_true rfl) dX6_room_11 ?_
    refine ctX6_finds (-1000001 : Int32) (ok_bnd h (fun q14 h => ?_))
    show Ev (wY, z) mtX6_room 6 132 14 [some (.ref 0), some (.int a1), none, none, none, none] [.int q14.1] q14.2 Q
    have h := ok_some h
    exact e_iret rfl dX6_room_14 h
def XX6_bears_28 (z : Zt) (a1 : Int32) (a2 : Int32) (Q : Option Value → Me → Prop) : (Int32 × Me) → Prop := fun t => Ev (wY, z) mtX6_bears 6 132 67 [some (.ref 0), none, some (.int a2), some (.int t.1), none] [] t.2 Q
def EX6_bears_28 (z : Zt) (a1 : Int32) (a2 : Int32) (Q : Option Value → Me → Prop) : (Int32 × Int32 × Me) → Prop := fun s => Ev (wY, z) mtX6_bears 6 132 28 [some (.ref 0), some (.int a1), some (.int a2), some (.int s.1), some (.int s.2.1)] [] s.2.2 Q
def GX6_bears_28 (z : Zt) (a1 : Int32) (a2 : Int32) (Q : Option Value → Me → Prop) : (Int32 × Int32 × Me) ⊕ (Int32 × Me) → Prop := Sum.elim (EX6_bears_28 z a1 a2 Q) (XX6_bears_28 z a1 a2 Q)
def fpX6_bears_l28s (a1 : Int32) (a2 : Int32) (a3 : Int32) (a4 : Int32) (M : Me) : Option ((Int32 × Int32 × Me) ⊕ (Int32 × Me)) := (if a4 < 0 then
 some (.inr (a3, M))
 else
 (if 0 ≤ a3 then
 some (.inr (a3, M))
 else
 letv (wrM M 1 4 a4) fun M5 =>
 (fpX6_mostWith a1 M5).bind fun q6 =>
 (if q6.1 < a1 then
 letv (a4 + (-1 : Int32)) fun v8 =>
 some (.inl ((-1 : Int32), v8, q6.2))
 else
 letv (a4 + (-1 : Int32)) fun v9 =>
 some (.inl (a4, v9, q6.2)))))
def fpX6_bears_l28 (a1 : Int32) (a2 : Int32) (s : Int32 × Int32 × Me) : Option ((Int32 × Int32 × Me) ⊕ (Int32 × Me)) := fpX6_bears_l28s a1 a2 s.1 s.2.1 s.2.2
set_option maxRecDepth 20000 in
theorem ebX6_bears_l28s {z : Zt} {Q : Option Value → Me → Prop} (a1 : Int32) (a2 : Int32) (a3 : Int32) (a4 : Int32) (M : Me) (h : ok (fpX6_bears_l28s a1 a2 a3 a4 M) (GX6_bears_28 z a1 a2 Q)) : Ev (wY, z) mtX6_bears 6 132 28 [some (.ref 0), some (.int a1), some (.int a2), some (.int a3), some (.int a4)] [] M Q := by
  unfold fpX6_bears_l28s at h
  refine e_iload dX6_bears_28 rfl ?_
  refine e_if_lt 67 dX6_bears_30 (by decide) (fun c3 => ?_) (fun c3 => ?_)
  · have h := ok_t c3 h
    refine e_forget [some (.ref 0), none, some (.int a2), some (.int a3), none] (leL_s (leL_n (leL_s (leL_s (leL_n leL_0))))) ?_
    have h := ok_some h
    exact h
  · have h := ok_f c3 h
    refine e_iload_n dX6_bears_33 rfl ?_
    refine e_if_ge 67 dX6_bears_34 (by decide) (fun c4 => ?_) (fun c4 => ?_)
    · have h := ok_t c4 h
      refine e_forget [some (.ref 0), none, some (.int a2), some (.int a3), none] (leL_s (leL_n (leL_s (leL_s (leL_n leL_0))))) ?_
      have h := ok_some h
      exact h
    · have h := ok_f c4 h
      refine e_aload_n dX6_bears_37 rfl ?_
      refine e_getR fa_RX6_7 is_Y0 rfl dX6_bears_38 ?_
      refine e_iconst (4 : Int32) dX6_bears_41 (by decide) ?_
      refine e_iload dX6_bears_42 rfl ?_
      refine e_iastK ia_Y1 (by unfold vp_in; decide) (q := 4) (by decide) dX6_bears_44 ?_
      refine lv1 (P := fun M5 => Ev (wY, z) mtX6_bears 6 132 45 [some (.ref 0), some (.int a1), some (.int a2), some (.int a3), some (.int a4)] [] M5 Q) h (fun M5 h => ?_)
      refine e_aload_n dX6_bears_45 rfl ?_
      refine e_iload_n dX6_bears_46 rfl ?_
      refine e_callV (f2 := 5) (l2 := 111) (ν := mtX6_mostWith) (as := [.int a1]) cv_RX6_160 is_Y0 kc_7 ⟨Nat.le_of_ble_eq_true rfl, Nat.le_of_ble_eq_true rfl⟩ rfl rfl (Nat.le_of_ble_eq_true rfl) dX6_bears_47 ?_
      refine ctX6_mostWith a1 (ok_bnd h (fun q6 h => ?_))
      show Ev (wY, z) mtX6_bears 6 132 50 [some (.ref 0), some (.int a1), some (.int a2), some (.int a3), some (.int a4)] [.int q6.1] q6.2 Q
      refine e_iload_n dX6_bears_50 rfl ?_
      refine e_icmp_lt 59 dX6_bears_51 (by decide) (fun c7 => ?_) (fun c7 => ?_)
      · have h := ok_t c7 h
        refine e_iconst (-1 : Int32) dX6_bears_59 (by decide) ?_
        refine e_istore_n dX6_bears_60 (by decide) rfl ?_
        refine lv1e h (fun v8 ev8 h => ?_)
        refine e_iinc v8 dX6_bears_61 rfl ev8 (by decide) rfl ?_
        refine e_goto 28 dX6_bears_64 (by decide) ?_
        refine e_forget [some (.ref 0), some (.int a1), some (.int a2), some (.int (-1 : Int32)), some (.int v8)] (leL_s (leL_s (leL_s (leL_s (leL_s leL_0))))) ?_
        have h := ok_some h
        exact h
      · have h := ok_f c7 h
        refine e_iload dX6_bears_54 rfl ?_
        refine e_goto 60 dX6_bears_56 (by decide) ?_
        refine e_istore_n dX6_bears_60 (by decide) rfl ?_
        refine lv1e h (fun v9 ev9 h => ?_)
        refine e_iinc v9 dX6_bears_61 rfl ev9 (by decide) rfl ?_
        refine e_goto 28 dX6_bears_64 (by decide) ?_
        refine e_forget [some (.ref 0), some (.int a1), some (.int a2), some (.int a4), some (.int v9)] (leL_s (leL_s (leL_s (leL_s (leL_s leL_0))))) ?_
        have h := ok_some h
        exact h
theorem elX6_bears_l28 {z : Zt} {Q : Option Value → Me → Prop} (a1 : Int32) (a2 : Int32) (N : Nat) (s : Int32 × Int32 × Me) (h : ok (lp (fpX6_bears_l28 a1 a2) N s) (XX6_bears_28 z a1 a2 Q)) : EX6_bears_28 z a1 a2 Q s :=
  lp_ind (fun s h => ebX6_bears_l28s a1 a2 s.1 s.2.1 s.2.2 h) N s h
def fpX6_bears_b67 (a2 : Int32) (a3 : Int32) (M : Me) : Option (Int32 × Me) := letv (wrM M 1 4 a2) fun M11 =>
 (if 0 ≤ a3 then
 some (a3, M11)
 else
 (fpX6_finds (-1000004 : Int32) M11).bind fun q13 =>
 some (q13.1, q13.2))
set_option maxRecDepth 20000 in
theorem ebX6_bears_b67 {z : Zt} {Q : Option Value → Me → Prop} (a2 : Int32) (a3 : Int32) (M : Me) (h : ok (fpX6_bears_b67 a2 a3 M) (fun a => Q (some (.int a.1)) a.2)) : Ev (wY, z) mtX6_bears 6 132 67 [some (.ref 0), none, some (.int a2), some (.int a3), none] [] M Q := by
  unfold fpX6_bears_b67 at h
  refine e_aload_n dX6_bears_67 rfl ?_
  refine e_getR fa_RX6_7 is_Y0 rfl dX6_bears_68 ?_
  refine e_iconst (4 : Int32) dX6_bears_71 (by decide) ?_
  refine e_iload_n dX6_bears_72 rfl ?_
  refine e_iastK ia_Y1 (by unfold vp_in; decide) (q := 4) (by decide) dX6_bears_73 ?_
  refine lv1 (P := fun M11 => Ev (wY, z) mtX6_bears 6 132 74 [some (.ref 0), none, some (.int a2), some (.int a3), none] [] M11 Q) h (fun M11 h => ?_)
  refine e_iload_n dX6_bears_74 rfl ?_
  refine e_if_ge 87 dX6_bears_75 (by decide) (fun c12 => ?_) (fun c12 => ?_)
  · have h := ok_t c12 h
    refine e_iload_n dX6_bears_87 rfl ?_
    have h := ok_some h
    exact e_iret rfl dX6_bears_88 h
  · have h := ok_f c12 h
    refine e_aload_n dX6_bears_78 rfl ?_
    refine e_ldc wk_RX6_172 dX6_bears_79 ?_
    refine e_callV (f2 := 0) (l2 := 0) (ν := mtX6_finds) (as := [.int (-1000004 : Int32)]) cv_RX6_81 is_Y0 kc_7 ⟨Nat.le_of_ble_eq_true rfl, Nat.le_of_ble_eq_true rfl⟩ rfl rfl (Nat.le_of_ble_eq_true rfl) dX6_bears_81 ?_
    refine ctX6_finds (-1000004 : Int32) (ok_bnd h (fun q13 h => ?_))
    show Ev (wY, z) mtX6_bears 6 132 84 [some (.ref 0), none, some (.int a2), some (.int a3), none] [.int q13.1] q13.2 Q
    refine e_goto 88 dX6_bears_84 (by decide) ?_
    have h := ok_some h
    exact e_iret rfl dX6_bears_88 h
def fpX6_bears (a1 : Int32) (M : Me) : Option (Int32 × Me) := (if (fpX6_isWater a1 M) = 0 then
 (fpX6_finds (-1000001 : Int32) M).bind fun q14 =>
 some (q14.1, q14.2)
 else
 letv (M.1 1 4) fun v2 =>
 (lp (fpX6_bears_l28 a1 v2) FU ((-1 : Int32), (9 : Int32), M)).bind fun r10 =>
 fpX6_bears_b67 v2 r10.1 r10.2)
set_option maxRecDepth 20000 in
theorem ctX6_bears {z : Zt} {M : Me} {Q : Option Value → Me → Prop} (a1 : Int32)  (h : ok (fpX6_bears a1 M) (fun a => Q (some (.int a.1)) a.2)) : EvM (wY, z) mtX6_bears 6 132 [.ref 0, .int a1] M Q := by
  refine evm_of [some (.ref 0), some (.int a1), none, none, none] 3 (by decide +kernel) (Nat.le_of_ble_eq_true rfl) rfl ?_
  unfold fpX6_bears at h
  refine e_aload_n dX6_bears_0 rfl ?_
  refine e_iload_n dX6_bears_1 rfl ?_
  refine e_callV (f2 := 1) (l2 := 25) (ν := mtX6_isWater) (as := [.int a1]) cv_RX6_116 is_Y0 kc_7 ⟨Nat.le_of_ble_eq_true rfl, Nat.le_of_ble_eq_true rfl⟩ rfl rfl (Nat.le_of_ble_eq_true rfl) dX6_bears_2 ?_
  refine ctX6_isWater a1 ?_
  show Ev (wY, z) mtX6_bears 6 132 5 [some (.ref 0), some (.int a1), none, none, none] [.int (fpX6_isWater a1 M)] M Q
  refine e_if_ne 15 dX6_bears_5 (by decide) (fun c1 => ?_) (fun c1 => ?_)
  · have h := ok_f c1 h
    refine e_aload_n dX6_bears_15 rfl ?_
    refine e_getR fa_RX6_7 is_Y0 rfl dX6_bears_16 ?_
    refine e_iconst (4 : Int32) dX6_bears_19 (by decide) ?_
    refine e_ialdK ia_Y1 (by unfold vp_in; decide) (q := 4) (by decide) dX6_bears_20 ?_
    refine lv1 (P := fun v2 => Ev (wY, z) mtX6_bears 6 132 21 [some (.ref 0), some (.int a1), none, none, none] [.int v2] M Q) h (fun v2 h => ?_)
    refine e_istore_n dX6_bears_21 (by decide) rfl ?_
    refine e_iconst (-1 : Int32) dX6_bears_22 (by decide) ?_
    refine e_istore_n dX6_bears_23 (by decide) rfl ?_
    refine e_bipush (9 : Int32) dX6_bears_24 (by decide) ?_
    refine e_istore dX6_bears_26 (by decide) rfl ?_
    refine e_forget [some (.ref 0), some (.int a1), some (.int v2), some (.int (-1 : Int32)), some (.int (9 : Int32))] (leL_s (leL_s (leL_s (leL_s (leL_s leL_0))))) ?_
    refine elX6_bears_l28 a1 v2 FU ((-1 : Int32), (9 : Int32), M) (ok_bnd h (fun r10 h => ?_))
    show Ev (wY, z) mtX6_bears 6 132 67 [some (.ref 0), none, some (.int v2), some (.int r10.1), none] [] r10.2 Q
    refine e_forget [some (.ref 0), none, some (.int v2), some (.int r10.1), none] (leL_s (leL_n (leL_s (leL_s (leL_n leL_0))))) ?_
    exact ebX6_bears_b67 v2 r10.1 r10.2 h
  · have h := ok_t c1 h
    refine e_aload_n dX6_bears_8 rfl ?_
    refine e_ldc wk_RX6_55 dX6_bears_9 ?_
    refine e_callV (f2 := 0) (l2 := 0) (ν := mtX6_finds) (as := [.int (-1000001 : Int32)]) cv_RX6_81 is_Y0 kc_7 ⟨Nat.le_of_ble_eq_true rfl, Nat.le_of_ble_eq_true rfl⟩ rfl rfl (Nat.le_of_ble_eq_true rfl) dX6_bears_11 ?_
    refine ctX6_finds (-1000001 : Int32) (ok_bnd h (fun q14 h => ?_))
    show Ev (wY, z) mtX6_bears 6 132 14 [some (.ref 0), some (.int a1), none, none, none] [.int q14.1] q14.2 Q
    have h := ok_some h
    exact e_iret rfl dX6_bears_14 h
def XX6_bringsIf_19 (z : Zt) (a2 : Int32) (Q : Option Value → Me → Prop) : (Int32 × Int32 × Me) → Prop := fun t => Ev (wY, z) mtX6_bringsIf 2 44 174 [some (.ref 0), none, none, some (.int t.1), some (.int t.2.1), none, none, none, none] [] t.2.2 Q
def EX6_bringsIf_19 (z : Zt) (a2 : Int32) (Q : Option Value → Me → Prop) : (Int32 × Int32 × Int32 × Me) → Prop := fun s => Ev (wY, z) mtX6_bringsIf 2 44 19 [some (.ref 0), none, some (.int a2), some (.int s.1), some (.int s.2.1), some (.int s.2.2.1), none, none, none] [] s.2.2.2 Q
def GX6_bringsIf_19 (z : Zt) (a2 : Int32) (Q : Option Value → Me → Prop) : (Int32 × Int32 × Int32 × Me) ⊕ (Int32 × Int32 × Me) → Prop := Sum.elim (EX6_bringsIf_19 z a2 Q) (XX6_bringsIf_19 z a2 Q)
def fpX6_bringsIf_b106_19 (a2 : Int32) (a3 : Int32) (a4 : Int32) (a5 : Int32) (t1 : Int64) (t2 : Int64) (M : Me) : Option ((Int32 × Int32 × Int32 × Me) ⊕ (Int32 × Int32 × Me)) := letv (wrL M (t1 * t2)) fun M20 =>
 letv (a5 + (1 : Int32)) fun v21 =>
 some (.inl (a3, a4, v21, M20))
set_option maxRecDepth 20000 in
theorem ebX6_bringsIf_b106_19 {z : Zt} {Q : Option Value → Me → Prop} (a2 : Int32) (a3 : Int32) (a4 : Int32) (a5 : Int32) (t1 : Int64) (t2 : Int64) (M : Me) (h : ok (fpX6_bringsIf_b106_19 a2 a3 a4 a5 t1 t2 M) (GX6_bringsIf_19 z a2 Q)) : Ev (wY, z) mtX6_bringsIf 2 44 106 [some (.ref 0), none, some (.int a2), some (.int a3), some (.int a4), some (.int a5), none, none, none] [.long t2, .long t1, .ref 0] M Q := by
  unfold fpX6_bringsIf_b106_19 at h
  refine e_lmul dX6_bringsIf_106 ?_
  refine e_putL fw_RX6_185 is_Y0 rfl rfl ho_Y dX6_bringsIf_107 ?_
  refine lv1 (P := fun M20 => Ev (wY, z) mtX6_bringsIf 2 44 110 [some (.ref 0), none, some (.int a2), some (.int a3), some (.int a4), some (.int a5), none, none, none] [] M20 Q) h (fun M20 h => ?_)
  refine e_goto 168 dX6_bringsIf_110 (by decide) ?_
  refine lv1e h (fun v21 ev21 h => ?_)
  refine e_iinc v21 dX6_bringsIf_168 rfl ev21 (by decide) rfl ?_
  refine e_goto 19 dX6_bringsIf_171 (by decide) ?_
  refine e_forget [some (.ref 0), none, some (.int a2), some (.int a3), some (.int a4), some (.int v21), none, none, none] (leL_s (leL_n (leL_s (leL_s (leL_s (leL_s (leL_n (leL_n (leL_n leL_0))))))))) ?_
  have h := ok_some h
  exact h
def fpX6_bringsIf_l19s (a2 : Int32) (a3 : Int32) (a4 : Int32) (a5 : Int32) (M : Me) : Option ((Int32 × Int32 × Int32 × Me) ⊕ (Int32 × Int32 × Me)) := (if (M.1 0 12) ≤ a5 then
 some (.inr (a3, a4, M))
 else
 (inb a5 8).bind fun k4 =>
 letv (M.1 10 k4) fun v5 =>
 (fpX6_its v5 (1 : Int32) M).bind fun v6 =>
 (fpX6_left a4 a3 v6 M).bind fun v7 =>
 (fpX6_its v5 (1 : Int32) M).bind fun v8 =>
 (fpX6_ran v7 v5 M).bind fun v9 =>
 (fpX6_its v5 (3 : Int32) M).bind fun v10 =>
 (if 0 ≤ v9 then
 (if (fpX6_has a2 a5) = 0 then
 letv (wrL M ((M.2) * (((12 : Int32) - v10).toInt64))) fun M13 =>
 letv (a5 + (1 : Int32)) fun v14 =>
 some (.inl (v8, v9, v14, M13))
 else
 letv (wrL M ((M.2) * (v10.toInt64))) fun M15 =>
 (inb v5 8).bind fun k16 =>
 letv (v7 - (M15.1 6 k16)) fun v17 =>
 letv (a5 + (1 : Int32)) fun v18 =>
 some (.inl (v8, v17, v18, M15)))
 else
 (if (fpX6_has a2 a5) = 0 then
 fpX6_bringsIf_b106_19 a2 v8 v7 a5 (M.2) (12 : Int64) M
 else
 fpX6_bringsIf_b106_19 a2 v8 v7 a5 (M.2) (0 : Int64) M)))
def fpX6_bringsIf_l19 (a2 : Int32) (s : Int32 × Int32 × Int32 × Me) : Option ((Int32 × Int32 × Int32 × Me) ⊕ (Int32 × Int32 × Me)) := fpX6_bringsIf_l19s a2 s.1 s.2.1 s.2.2.1 s.2.2.2
set_option maxRecDepth 20000 in
theorem ebX6_bringsIf_l19s {z : Zt} {Q : Option Value → Me → Prop} (a2 : Int32) (a3 : Int32) (a4 : Int32) (a5 : Int32) (M : Me) (h : ok (fpX6_bringsIf_l19s a2 a3 a4 a5 M) (GX6_bringsIf_19 z a2 Q)) : Ev (wY, z) mtX6_bringsIf 2 44 19 [some (.ref 0), none, some (.int a2), some (.int a3), some (.int a4), some (.int a5), none, none, none] [] M Q := by
  unfold fpX6_bringsIf_l19s at h
  refine e_iload dX6_bringsIf_19 rfl ?_
  refine e_aload_n dX6_bringsIf_21 rfl ?_
  refine e_getI fa_RX6_163 is_Y0 dX6_bringsIf_22 ?_
  refine e_icmp_ge 174 dX6_bringsIf_25 (by decide) (fun c3 => ?_) (fun c3 => ?_)
  · have h := ok_t c3 h
    refine e_forget [some (.ref 0), none, none, some (.int a3), some (.int a4), none, none, none, none] (leL_s (leL_n (leL_n (leL_s (leL_s (leL_n (leL_n (leL_n (leL_n leL_0))))))))) ?_
    have h := ok_some h
    exact h
  · have h := ok_f c3 h
    refine e_aload_n dX6_bringsIf_28 rfl ?_
    refine e_getR fa_RX6_37 is_Y0 rfl dX6_bringsIf_29 ?_
    refine e_iload dX6_bringsIf_32 rfl ?_
    refine ok_inb h (fun k4 ek4 ik4 h => ?_)
    refine e_ialdK ia_Y10 ik4 ek4 dX6_bringsIf_34 ?_
    refine lv1 (P := fun v5 => Ev (wY, z) mtX6_bringsIf 2 44 35 [some (.ref 0), none, some (.int a2), some (.int a3), some (.int a4), some (.int a5), none, none, none] [.int v5] M Q) h (fun v5 h => ?_)
    refine e_istore dX6_bringsIf_35 (by decide) rfl ?_
    refine e_aload_n dX6_bringsIf_37 rfl ?_
    refine e_iload dX6_bringsIf_38 rfl ?_
    refine e_iload_n dX6_bringsIf_40 rfl ?_
    refine e_aload_n dX6_bringsIf_41 rfl ?_
    refine e_iload dX6_bringsIf_42 rfl ?_
    refine e_iconst (1 : Int32) dX6_bringsIf_44 (by decide) ?_
    refine e_callV (f2 := 1) (l2 := 21) (ν := mtX6_its) (as := [.int v5, .int (1 : Int32)]) cv_RX6_90 is_Y0 kc_7 ⟨Nat.le_of_ble_eq_true rfl, Nat.le_of_ble_eq_true rfl⟩ rfl rfl (Nat.le_of_ble_eq_true rfl) dX6_bringsIf_45 ?_
    refine ctX6_its v5 (1 : Int32) (ok_bnd h (fun v6 h => ?_))
    show Ev (wY, z) mtX6_bringsIf 2 44 48 [some (.ref 0), none, some (.int a2), some (.int a3), some (.int a4), some (.int a5), some (.int v5), none, none] [.int v6, .int a3, .int a4, .ref 0] M Q
    refine e_callV (f2 := 1) (l2 := 21) (ν := mtX6_left) (as := [.int a4, .int a3, .int v6]) cv_RX6_123 is_Y0 kc_7 ⟨Nat.le_of_ble_eq_true rfl, Nat.le_of_ble_eq_true rfl⟩ rfl rfl (Nat.le_of_ble_eq_true rfl) dX6_bringsIf_48 ?_
    refine ctX6_left a4 a3 v6 (ok_bnd h (fun v7 h => ?_))
    show Ev (wY, z) mtX6_bringsIf 2 44 51 [some (.ref 0), none, some (.int a2), some (.int a3), some (.int a4), some (.int a5), some (.int v5), none, none] [.int v7] M Q
    refine e_istore dX6_bringsIf_51 (by decide) rfl ?_
    refine e_aload_n dX6_bringsIf_53 rfl ?_
    refine e_iload dX6_bringsIf_54 rfl ?_
    refine e_iconst (1 : Int32) dX6_bringsIf_56 (by decide) ?_
    refine e_callV (f2 := 1) (l2 := 21) (ν := mtX6_its) (as := [.int v5, .int (1 : Int32)]) cv_RX6_90 is_Y0 kc_7 ⟨Nat.le_of_ble_eq_true rfl, Nat.le_of_ble_eq_true rfl⟩ rfl rfl (Nat.le_of_ble_eq_true rfl) dX6_bringsIf_57 ?_
    refine ctX6_its v5 (1 : Int32) (ok_bnd h (fun v8 h => ?_))
    show Ev (wY, z) mtX6_bringsIf 2 44 60 [some (.ref 0), none, some (.int a2), some (.int a3), some (.int v7), some (.int a5), some (.int v5), none, none] [.int v8] M Q
    refine e_istore_n dX6_bringsIf_60 (by decide) rfl ?_
    refine e_aload_n dX6_bringsIf_61 rfl ?_
    refine e_iload dX6_bringsIf_62 rfl ?_
    refine e_iload dX6_bringsIf_64 rfl ?_
    refine e_callV (f2 := 1) (l2 := 21) (ν := mtX6_ran) (as := [.int v7, .int v5]) cv_RX6_150 is_Y0 kc_7 ⟨Nat.le_of_ble_eq_true rfl, Nat.le_of_ble_eq_true rfl⟩ rfl rfl (Nat.le_of_ble_eq_true rfl) dX6_bringsIf_66 ?_
    refine ctX6_ran v7 v5 (ok_bnd h (fun v9 h => ?_))
    show Ev (wY, z) mtX6_bringsIf 2 44 69 [some (.ref 0), none, some (.int a2), some (.int v8), some (.int v7), some (.int a5), some (.int v5), none, none] [.int v9] M Q
    refine e_istore dX6_bringsIf_69 (by decide) rfl ?_
    refine e_aload_n dX6_bringsIf_71 rfl ?_
    refine e_iload dX6_bringsIf_72 rfl ?_
    refine e_iconst (3 : Int32) dX6_bringsIf_74 (by decide) ?_
    refine e_callV (f2 := 1) (l2 := 21) (ν := mtX6_its) (as := [.int v5, .int (3 : Int32)]) cv_RX6_90 is_Y0 kc_7 ⟨Nat.le_of_ble_eq_true rfl, Nat.le_of_ble_eq_true rfl⟩ rfl rfl (Nat.le_of_ble_eq_true rfl) dX6_bringsIf_75 ?_
    refine ctX6_its v5 (3 : Int32) (ok_bnd h (fun v10 h => ?_))
    show Ev (wY, z) mtX6_bringsIf 2 44 78 [some (.ref 0), none, some (.int a2), some (.int v8), some (.int v7), some (.int a5), some (.int v5), some (.int v9), none] [.int v10] M Q
    refine e_istore dX6_bringsIf_78 (by decide) rfl ?_
    refine e_iload dX6_bringsIf_80 rfl ?_
    refine e_if_ge 113 dX6_bringsIf_82 (by decide) (fun c11 => ?_) (fun c11 => ?_)
    · have h := ok_t c11 h
      refine e_iload_n dX6_bringsIf_113 rfl ?_
      refine e_iload dX6_bringsIf_114 rfl ?_
      refine e_callS (f2 := 0) (l2 := 0) (ν := mtX6_has) (as := [.int a2, .int a5]) cs_RX6_141 ⟨Nat.le_of_ble_eq_true rfl, Nat.le_of_ble_eq_true rfl⟩ rfl rfl (Nat.le_of_ble_eq_true rfl) dX6_bringsIf_116 ?_
      refine ctX6_has a2 a5 ?_
      show Ev (wY, z) mtX6_bringsIf 2 44 119 [some (.ref 0), none, some (.int a2), some (.int v8), some (.int v7), some (.int a5), some (.int v5), some (.int v9), some (.int v10)] [.int (fpX6_has a2 a5)] M Q
      refine e_if_eq 149 dX6_bringsIf_119 (by decide) (fun c12 => ?_) (fun c12 => ?_)
      · have h := ok_t c12 h
        refine e_aload_n dX6_bringsIf_149 rfl ?_
        refine e_dup dX6_bringsIf_150 rfl ?_
        refine e_getL fa_RX6_185 is_Y0 dX6_bringsIf_151 ?_
        refine e_bipush (12 : Int32) dX6_bringsIf_154 (by decide) ?_
        refine e_iload dX6_bringsIf_156 rfl ?_
        refine e_isub dX6_bringsIf_158 ?_
        refine e_i2l dX6_bringsIf_159 ?_
        refine e_lmul dX6_bringsIf_160 ?_
        refine e_putL fw_RX6_185 is_Y0 rfl rfl ho_Y dX6_bringsIf_161 ?_
        refine lv1 (P := fun M13 => Ev (wY, z) mtX6_bringsIf 2 44 164 [some (.ref 0), none, some (.int a2), some (.int v8), some (.int v7), some (.int a5), some (.int v5), some (.int v9), some (.int v10)] [] M13 Q) h (fun M13 h => ?_)
        refine e_iload dX6_bringsIf_164 rfl ?_
        refine e_istore dX6_bringsIf_166 (by decide) rfl ?_
        refine lv1e h (fun v14 ev14 h => ?_)
        refine e_iinc v14 dX6_bringsIf_168 rfl ev14 (by decide) rfl ?_
        refine e_goto 19 dX6_bringsIf_171 (by decide) ?_
        refine e_forget [some (.ref 0), none, some (.int a2), some (.int v8), some (.int v9), some (.int v14), none, none, none] (leL_s (leL_n (leL_s (leL_s (leL_s (leL_s (leL_n (leL_n (leL_n leL_0))))))))) ?_
        have h := ok_some h
        exact h
      · have h := ok_f c12 h
        refine e_aload_n dX6_bringsIf_122 rfl ?_
        refine e_dup dX6_bringsIf_123 rfl ?_
        refine e_getL fa_RX6_185 is_Y0 dX6_bringsIf_124 ?_
        refine e_iload dX6_bringsIf_127 rfl ?_
        refine e_i2l dX6_bringsIf_129 ?_
        refine e_lmul dX6_bringsIf_130 ?_
        refine e_putL fw_RX6_185 is_Y0 rfl rfl ho_Y dX6_bringsIf_131 ?_
        refine lv1 (P := fun M15 => Ev (wY, z) mtX6_bringsIf 2 44 134 [some (.ref 0), none, some (.int a2), some (.int v8), some (.int v7), some (.int a5), some (.int v5), some (.int v9), some (.int v10)] [] M15 Q) h (fun M15 h => ?_)
        refine e_iload dX6_bringsIf_134 rfl ?_
        refine e_aload_n dX6_bringsIf_136 rfl ?_
        refine e_getR fa_RX6_25 is_Y0 rfl dX6_bringsIf_137 ?_
        refine e_iload dX6_bringsIf_140 rfl ?_
        refine ok_inb h (fun k16 ek16 ik16 h => ?_)
        refine e_ialdK ia_Y6 ik16 ek16 dX6_bringsIf_142 ?_
        refine e_isub dX6_bringsIf_143 ?_
        refine lv1 (P := fun v17 => Ev (wY, z) mtX6_bringsIf 2 44 144 [some (.ref 0), none, some (.int a2), some (.int v8), some (.int v7), some (.int a5), some (.int v5), some (.int v9), some (.int v10)] [.int v17] M15 Q) h (fun v17 h => ?_)
        refine e_istore dX6_bringsIf_144 (by decide) rfl ?_
        refine e_goto 168 dX6_bringsIf_146 (by decide) ?_
        refine lv1e h (fun v18 ev18 h => ?_)
        refine e_iinc v18 dX6_bringsIf_168 rfl ev18 (by decide) rfl ?_
        refine e_goto 19 dX6_bringsIf_171 (by decide) ?_
        refine e_forget [some (.ref 0), none, some (.int a2), some (.int v8), some (.int v17), some (.int v18), none, none, none] (leL_s (leL_n (leL_s (leL_s (leL_s (leL_s (leL_n (leL_n (leL_n leL_0))))))))) ?_
        have h := ok_some h
        exact h
    · have h := ok_f c11 h
      refine e_aload_n dX6_bringsIf_85 rfl ?_
      refine e_dup dX6_bringsIf_86 rfl ?_
      refine e_getL fa_RX6_185 is_Y0 dX6_bringsIf_87 ?_
      refine e_iload_n dX6_bringsIf_90 rfl ?_
      refine e_iload dX6_bringsIf_91 rfl ?_
      refine e_callS (f2 := 0) (l2 := 0) (ν := mtX6_has) (as := [.int a2, .int a5]) cs_RX6_141 ⟨Nat.le_of_ble_eq_true rfl, Nat.le_of_ble_eq_true rfl⟩ rfl rfl (Nat.le_of_ble_eq_true rfl) dX6_bringsIf_93 ?_
      refine ctX6_has a2 a5 ?_
      show Ev (wY, z) mtX6_bringsIf 2 44 96 [some (.ref 0), none, some (.int a2), some (.int v8), some (.int v7), some (.int a5), some (.int v5), some (.int v9), some (.int v10)] [.int (fpX6_has a2 a5), .long (M.2), .ref 0] M Q
      refine e_if_eq 103 dX6_bringsIf_96 (by decide) (fun c19 => ?_) (fun c19 => ?_)
      · have h := ok_t c19 h
        refine e_ldc2 wk_RX6_189 dX6_bringsIf_103 ?_
        refine e_forget [some (.ref 0), none, some (.int a2), some (.int v8), some (.int v7), some (.int a5), none, none, none] (leL_s (leL_n (leL_s (leL_s (leL_s (leL_s (leL_n (leL_n (leL_n leL_0))))))))) ?_
        exact ebX6_bringsIf_b106_19 a2 v8 v7 a5 (M.2) (12 : Int64) M h
      · have h := ok_f c19 h
        refine e_lconst (0 : Int64) dX6_bringsIf_99 (by decide) ?_
        refine e_goto 106 dX6_bringsIf_100 (by decide) ?_
        refine e_forget [some (.ref 0), none, some (.int a2), some (.int v8), some (.int v7), some (.int a5), none, none, none] (leL_s (leL_n (leL_s (leL_s (leL_s (leL_s (leL_n (leL_n (leL_n leL_0))))))))) ?_
        exact ebX6_bringsIf_b106_19 a2 v8 v7 a5 (M.2) (0 : Int64) M h
theorem elX6_bringsIf_l19 {z : Zt} {Q : Option Value → Me → Prop} (a2 : Int32) (N : Nat) (s : Int32 × Int32 × Int32 × Me) (h : ok (lp (fpX6_bringsIf_l19 a2) N s) (XX6_bringsIf_19 z a2 Q)) : EX6_bringsIf_19 z a2 Q s :=
  lp_ind (fun s h => ebX6_bringsIf_l19s a2 s.1 s.2.1 s.2.2.1 s.2.2.2 h) N s h
def fpX6_bringsIf (a1 : Int32) (a2 : Int32) (M : Me) : Option (Int32 × Me) := letv (M.1 1 7) fun v1 =>
 letv (wrL M (1 : Int64)) fun M2 =>
 (lp (fpX6_bringsIf_l19 a2) FU (v1, a1, (0 : Int32), M2)).bind fun r22 =>
 (fpX6_left r22.2.1 r22.1 (0 : Int32) r22.2.2).bind fun v23 =>
 some (v23, r22.2.2)
set_option maxRecDepth 20000 in
theorem ctX6_bringsIf {z : Zt} {M : Me} {Q : Option Value → Me → Prop} (a1 : Int32) (a2 : Int32)  (h : ok (fpX6_bringsIf a1 a2 M) (fun a => Q (some (.int a.1)) a.2)) : EvM (wY, z) mtX6_bringsIf 2 44 [.ref 0, .int a1, .int a2] M Q := by
  refine evm_of [some (.ref 0), some (.int a1), some (.int a2), none, none, none, none, none, none] 6 (by decide +kernel) (Nat.le_of_ble_eq_true rfl) rfl ?_
  unfold fpX6_bringsIf at h
  refine e_aload_n dX6_bringsIf_0 rfl ?_
  refine e_getR fa_RX6_7 is_Y0 rfl dX6_bringsIf_1 ?_
  refine e_bipush (7 : Int32) dX6_bringsIf_4 (by decide) ?_
  refine e_ialdK ia_Y1 (by unfold vp_in; decide) (q := 7) (by decide) dX6_bringsIf_6 ?_
  refine lv1 (P := fun v1 => Ev (wY, z) mtX6_bringsIf 2 44 7 [some (.ref 0), some (.int a1), some (.int a2), none, none, none, none, none, none] [.int v1] M Q) h (fun v1 h => ?_)
  refine e_istore_n dX6_bringsIf_7 (by decide) rfl ?_
  refine e_iload_n dX6_bringsIf_8 rfl ?_
  refine e_istore dX6_bringsIf_9 (by decide) rfl ?_
  refine e_aload_n dX6_bringsIf_11 rfl ?_
  refine e_lconst (1 : Int64) dX6_bringsIf_12 (by decide) ?_
  refine e_putL fw_RX6_185 is_Y0 rfl rfl ho_Y dX6_bringsIf_13 ?_
  refine lv1 (P := fun M2 => Ev (wY, z) mtX6_bringsIf 2 44 16 [some (.ref 0), some (.int a1), some (.int a2), some (.int v1), some (.int a1), none, none, none, none] [] M2 Q) h (fun M2 h => ?_)
  refine e_iconst (0 : Int32) dX6_bringsIf_16 (by decide) ?_
  refine e_istore dX6_bringsIf_17 (by decide) rfl ?_
  refine e_forget [some (.ref 0), none, some (.int a2), some (.int v1), some (.int a1), some (.int (0 : Int32)), none, none, none] (leL_s (leL_n (leL_s (leL_s (leL_s (leL_s (leL_n (leL_n (leL_n leL_0))))))))) ?_
  refine elX6_bringsIf_l19 a2 FU (v1, a1, (0 : Int32), M2) (ok_bnd h (fun r22 h => ?_))
  show Ev (wY, z) mtX6_bringsIf 2 44 174 [some (.ref 0), none, none, some (.int r22.1), some (.int r22.2.1), none, none, none, none] [] r22.2.2 Q
  refine e_aload_n dX6_bringsIf_174 rfl ?_
  refine e_iload dX6_bringsIf_175 rfl ?_
  refine e_iload_n dX6_bringsIf_177 rfl ?_
  refine e_iconst (0 : Int32) dX6_bringsIf_178 (by decide) ?_
  refine e_callV (f2 := 1) (l2 := 21) (ν := mtX6_left) (as := [.int r22.2.1, .int r22.1, .int (0 : Int32)]) cv_RX6_123 is_Y0 kc_7 ⟨Nat.le_of_ble_eq_true rfl, Nat.le_of_ble_eq_true rfl⟩ rfl rfl (Nat.le_of_ble_eq_true rfl) dX6_bringsIf_179 ?_
  refine ctX6_left r22.2.1 r22.1 (0 : Int32) (ok_bnd h (fun v23 h => ?_))
  show Ev (wY, z) mtX6_bringsIf 2 44 182 [some (.ref 0), none, none, some (.int r22.1), some (.int r22.2.1), none, none, none, none] [.int v23] r22.2.2 Q
  have h := ok_some h
  exact e_iret rfl dX6_bringsIf_182 h
def XX6_odds_40 (z : Zt) (a1 : Int32) (a2 : Int32) (Q : Option Value → Me → Prop) : (Int64 × Me) → Prop := fun t => Ev (wY, z) mtX6_odds 7 161 85 [none, none, none, none, some (.long t.1), none, none, none] [] t.2 Q
def EX6_odds_40 (z : Zt) (a1 : Int32) (a2 : Int32) (Q : Option Value → Me → Prop) : (Int64 × Int32 × Me) → Prop := fun s => Ev (wY, z) mtX6_odds 7 161 40 [some (.ref 0), some (.int a1), some (.int a2), none, some (.long s.1), none, some (.int s.2.1), none] [] s.2.2 Q
def GX6_odds_40 (z : Zt) (a1 : Int32) (a2 : Int32) (Q : Option Value → Me → Prop) : (Int64 × Int32 × Me) ⊕ (Int64 × Me) → Prop := Sum.elim (EX6_odds_40 z a1 a2 Q) (XX6_odds_40 z a1 a2 Q)
def fpX6_odds_l40s (a1 : Int32) (a2 : Int32) (a4 : Int64) (a6 : Int32) (M : Me) : Option ((Int64 × Int32 × Me) ⊕ (Int64 × Me)) := (if ((1 : Int32) <<< ((M.1 0 12) &&& 31)) ≤ a6 then
 some (.inr (a4, M))
 else
 (fpX6_bringsIf a1 a6 M).bind fun q6 =>
 (if q6.1 < a2 then
 letv (a4 + (0 : Int64)) fun v8 =>
 letv (a6 + (1 : Int32)) fun v9 =>
 some (.inl (v8, v9, q6.2))
 else
 letv (a4 + (q6.2.2)) fun v10 =>
 letv (a6 + (1 : Int32)) fun v11 =>
 some (.inl (v10, v11, q6.2))))
def fpX6_odds_l40 (a1 : Int32) (a2 : Int32) (s : Int64 × Int32 × Me) : Option ((Int64 × Int32 × Me) ⊕ (Int64 × Me)) := fpX6_odds_l40s a1 a2 s.1 s.2.1 s.2.2
set_option maxRecDepth 20000 in
theorem ebX6_odds_l40s {z : Zt} {Q : Option Value → Me → Prop} (a1 : Int32) (a2 : Int32) (a4 : Int64) (a6 : Int32) (M : Me) (h : ok (fpX6_odds_l40s a1 a2 a4 a6 M) (GX6_odds_40 z a1 a2 Q)) : Ev (wY, z) mtX6_odds 7 161 40 [some (.ref 0), some (.int a1), some (.int a2), none, some (.long a4), none, some (.int a6), none] [] M Q := by
  unfold fpX6_odds_l40s at h
  refine e_iload dX6_odds_40 rfl ?_
  refine e_iconst (1 : Int32) dX6_odds_42 (by decide) ?_
  refine e_aload_n dX6_odds_43 rfl ?_
  refine e_getI fa_RX6_163 is_Y0 dX6_odds_44 ?_
  refine e_ishl dX6_odds_47 ?_
  refine e_icmp_ge 85 dX6_odds_48 (by decide) (fun c5 => ?_) (fun c5 => ?_)
  · have h := ok_t c5 h
    refine e_forget [none, none, none, none, some (.long a4), none, none, none] (leL_n (leL_n (leL_n (leL_n (leL_s (leL_n (leL_n (leL_n leL_0)))))))) ?_
    have h := ok_some h
    exact h
  · have h := ok_f c5 h
    refine e_aload_n dX6_odds_51 rfl ?_
    refine e_iload_n dX6_odds_52 rfl ?_
    refine e_iload dX6_odds_53 rfl ?_
    refine e_callV (f2 := 2) (l2 := 44) (ν := mtX6_bringsIf) (as := [.int a1, .int a6]) cv_RX6_191 is_Y0 kc_7 ⟨Nat.le_of_ble_eq_true rfl, Nat.le_of_ble_eq_true rfl⟩ rfl rfl (Nat.le_of_ble_eq_true rfl) dX6_odds_55 ?_
    refine ctX6_bringsIf a1 a6 (ok_bnd h (fun q6 h => ?_))
    show Ev (wY, z) mtX6_odds 7 161 58 [some (.ref 0), some (.int a1), some (.int a2), none, some (.long a4), none, some (.int a6), none] [.int q6.1] q6.2 Q
    refine e_istore dX6_odds_58 (by decide) rfl ?_
    refine e_lload dX6_odds_60 rfl ?_
    refine e_iload dX6_odds_62 rfl ?_
    refine e_iload_n dX6_odds_64 rfl ?_
    refine e_icmp_lt 75 dX6_odds_65 (by decide) (fun c7 => ?_) (fun c7 => ?_)
    · have h := ok_t c7 h
      refine e_lconst (0 : Int64) dX6_odds_75 (by decide) ?_
      refine e_ladd dX6_odds_76 ?_
      refine lv1 (P := fun v8 => Ev (wY, z) mtX6_odds 7 161 77 [some (.ref 0), some (.int a1), some (.int a2), none, some (.long a4), none, some (.int a6), some (.int q6.1)] [.long v8] q6.2 Q) h (fun v8 h => ?_)
      refine e_lstore dX6_odds_77 (by decide) rfl ?_
      refine lv1e h (fun v9 ev9 h => ?_)
      refine e_iinc v9 dX6_odds_79 rfl ev9 (by decide) rfl ?_
      refine e_goto 40 dX6_odds_82 (by decide) ?_
      refine e_forget [some (.ref 0), some (.int a1), some (.int a2), none, some (.long v8), none, some (.int v9), none] (leL_s (leL_s (leL_s (leL_n (leL_s (leL_n (leL_s (leL_n leL_0)))))))) ?_
      have h := ok_some h
      exact h
    · have h := ok_f c7 h
      refine e_aload_n dX6_odds_68 rfl ?_
      refine e_getL fa_RX6_185 is_Y0 dX6_odds_69 ?_
      refine e_goto 76 dX6_odds_72 (by decide) ?_
      refine e_ladd dX6_odds_76 ?_
      refine lv1 (P := fun v10 => Ev (wY, z) mtX6_odds 7 161 77 [some (.ref 0), some (.int a1), some (.int a2), none, some (.long a4), none, some (.int a6), some (.int q6.1)] [.long v10] q6.2 Q) h (fun v10 h => ?_)
      refine e_lstore dX6_odds_77 (by decide) rfl ?_
      refine lv1e h (fun v11 ev11 h => ?_)
      refine e_iinc v11 dX6_odds_79 rfl ev11 (by decide) rfl ?_
      refine e_goto 40 dX6_odds_82 (by decide) ?_
      refine e_forget [some (.ref 0), some (.int a1), some (.int a2), none, some (.long v10), none, some (.int v11), none] (leL_s (leL_s (leL_s (leL_n (leL_s (leL_n (leL_s (leL_n leL_0)))))))) ?_
      have h := ok_some h
      exact h
theorem elX6_odds_l40 {z : Zt} {Q : Option Value → Me → Prop} (a1 : Int32) (a2 : Int32) (N : Nat) (s : Int64 × Int32 × Me) (h : ok (lp (fpX6_odds_l40 a1 a2) N s) (XX6_odds_40 z a1 a2 Q)) : EX6_odds_40 z a1 a2 Q s :=
  lp_ind (fun s h => ebX6_odds_l40s a1 a2 s.1 s.2.1 s.2.2 h) N s h
def fpX6_odds (a1 : Int32) (a2 : Int32) (M : Me) : Option (Int64 × Me) := (if (fpX6_isWater a1 M) = 0 then
 (fpX6_finds (-1000001 : Int32) M).bind fun q2 =>
 some ((q2.1.toInt64), q2.2)
 else
 (if (fpX6_in (a2.toInt64) (0 : Int64) (999 : Int64)) = 0 then
 (fpX6_finds (-1000001 : Int32) M).bind fun q13 =>
 some ((q13.1.toInt64), q13.2)
 else
 (fpX6_findOrder a1 M).bind fun q4 =>
 (lp (fpX6_odds_l40 a1 a2) FU ((0 : Int64), (0 : Int32), q4.2)).bind fun r12 =>
 some (r12.1, r12.2)))
set_option maxRecDepth 20000 in
theorem ctX6_odds {z : Zt} {M : Me} {Q : Option Value → Me → Prop} (a1 : Int32) (a2 : Int32)  (h : ok (fpX6_odds a1 a2 M) (fun a => Q (some (.long a.1)) a.2)) : EvM (wY, z) mtX6_odds 7 161 [.ref 0, .int a1, .int a2] M Q := by
  refine evm_of [some (.ref 0), some (.int a1), some (.int a2), none, none, none, none, none] 5 (by decide +kernel) (Nat.le_of_ble_eq_true rfl) rfl ?_
  unfold fpX6_odds at h
  refine e_aload_n dX6_odds_0 rfl ?_
  refine e_iload_n dX6_odds_1 rfl ?_
  refine e_callV (f2 := 1) (l2 := 25) (ν := mtX6_isWater) (as := [.int a1]) cv_RX6_116 is_Y0 kc_7 ⟨Nat.le_of_ble_eq_true rfl, Nat.le_of_ble_eq_true rfl⟩ rfl rfl (Nat.le_of_ble_eq_true rfl) dX6_odds_2 ?_
  refine ctX6_isWater a1 ?_
  show Ev (wY, z) mtX6_odds 7 161 5 [some (.ref 0), some (.int a1), some (.int a2), none, none, none, none, none] [.int (fpX6_isWater a1 M)] M Q
  refine e_if_eq 20 dX6_odds_5 (by decide) (fun c1 => ?_) (fun c1 => ?_)
  · have h := ok_t c1 h
    refine e_aload_n dX6_odds_20 rfl ?_
    refine e_ldc wk_RX6_55 dX6_odds_21 ?_
    refine e_callV (f2 := 0) (l2 := 0) (ν := mtX6_finds) (as := [.int (-1000001 : Int32)]) cv_RX6_81 is_Y0 kc_7 ⟨Nat.le_of_ble_eq_true rfl, Nat.le_of_ble_eq_true rfl⟩ rfl rfl (Nat.le_of_ble_eq_true rfl) dX6_odds_23 ?_
    refine ctX6_finds (-1000001 : Int32) (ok_bnd h (fun q2 h => ?_))
    show Ev (wY, z) mtX6_odds 7 161 26 [some (.ref 0), some (.int a1), some (.int a2), none, none, none, none, none] [.int q2.1] q2.2 Q
    refine e_i2l dX6_odds_26 ?_
    have h := ok_some h
    exact e_lret rfl dX6_odds_27 h
  · have h := ok_f c1 h
    refine e_iload_n dX6_odds_8 rfl ?_
    refine e_i2l dX6_odds_9 ?_
    refine e_lconst (0 : Int64) dX6_odds_10 (by decide) ?_
    refine e_ldc2 wk_RX6_107 dX6_odds_11 ?_
    refine e_callS (f2 := 0) (l2 := 0) (ν := mtX6_in) (as := [.long (a2.toInt64), .long (0 : Int64), .long (999 : Int64)]) cs_RX6_58 ⟨Nat.le_of_ble_eq_true rfl, Nat.le_of_ble_eq_true rfl⟩ rfl rfl (Nat.le_of_ble_eq_true rfl) dX6_odds_14 ?_
    refine ctX6_in (a2.toInt64) (0 : Int64) (999 : Int64) ?_
    show Ev (wY, z) mtX6_odds 7 161 17 [some (.ref 0), some (.int a1), some (.int a2), none, none, none, none, none] [.int (fpX6_in (a2.toInt64) (0 : Int64) (999 : Int64))] M Q
    refine e_if_ne 28 dX6_odds_17 (by decide) (fun c3 => ?_) (fun c3 => ?_)
    · have h := ok_f c3 h
      refine e_aload_n dX6_odds_28 rfl ?_
      refine e_iload_n dX6_odds_29 rfl ?_
      refine e_callV (f2 := 6) (l2 := 132) (ν := mtX6_findOrder) (as := [.int a1]) cv_RX6_169 is_Y0 kc_7 ⟨Nat.le_of_ble_eq_true rfl, Nat.le_of_ble_eq_true rfl⟩ rfl rfl (Nat.le_of_ble_eq_true rfl) dX6_odds_30 ?_
      refine ctX6_findOrder a1 (ok_bnd h (fun q4 h => ?_))
      show Ev (wY, z) mtX6_odds 7 161 33 [some (.ref 0), some (.int a1), some (.int a2), none, none, none, none, none] [.int q4.1] q4.2 Q
      refine e_istore_n dX6_odds_33 (by decide) rfl ?_
      refine e_lconst (0 : Int64) dX6_odds_34 (by decide) ?_
      refine e_lstore dX6_odds_35 (by decide) rfl ?_
      refine e_iconst (0 : Int32) dX6_odds_37 (by decide) ?_
      refine e_istore dX6_odds_38 (by decide) rfl ?_
      refine e_forget [some (.ref 0), some (.int a1), some (.int a2), none, some (.long (0 : Int64)), none, some (.int (0 : Int32)), none] (leL_s (leL_s (leL_s (leL_n (leL_s (leL_n (leL_s (leL_n leL_0)))))))) ?_
      refine elX6_odds_l40 a1 a2 FU ((0 : Int64), (0 : Int32), q4.2) (ok_bnd h (fun r12 h => ?_))
      show Ev (wY, z) mtX6_odds 7 161 85 [none, none, none, none, some (.long r12.1), none, none, none] [] r12.2 Q
      refine e_lload dX6_odds_85 rfl ?_
      have h := ok_some h
      exact e_lret rfl dX6_odds_87 h
    · have h := ok_t c3 h
      refine e_aload_n dX6_odds_20 rfl ?_
      refine e_ldc wk_RX6_55 dX6_odds_21 ?_
      refine e_callV (f2 := 0) (l2 := 0) (ν := mtX6_finds) (as := [.int (-1000001 : Int32)]) cv_RX6_81 is_Y0 kc_7 ⟨Nat.le_of_ble_eq_true rfl, Nat.le_of_ble_eq_true rfl⟩ rfl rfl (Nat.le_of_ble_eq_true rfl) dX6_odds_23 ?_
      refine ctX6_finds (-1000001 : Int32) (ok_bnd h (fun q13 h => ?_))
      show Ev (wY, z) mtX6_odds 7 161 26 [some (.ref 0), some (.int a1), some (.int a2), none, none, none, none, none] [.int q13.1] q13.2 Q
      refine e_i2l dX6_odds_26 ?_
      have h := ok_some h
      exact e_lret rfl dX6_odds_27 h
def XX6_mean_27 (z : Zt) (a1 : Int32) (Q : Option Value → Me → Prop) : (Int64 × Me) → Prop := fun t => Ev (wY, z) mtX6_mean 7 161 64 [none, none, none, some (.long t.1), none, none, none] [] t.2 Q
def EX6_mean_27 (z : Zt) (a1 : Int32) (Q : Option Value → Me → Prop) : (Int64 × Int32 × Me) → Prop := fun s => Ev (wY, z) mtX6_mean 7 161 27 [some (.ref 0), some (.int a1), none, some (.long s.1), none, some (.int s.2.1), none] [] s.2.2 Q
def GX6_mean_27 (z : Zt) (a1 : Int32) (Q : Option Value → Me → Prop) : (Int64 × Int32 × Me) ⊕ (Int64 × Me) → Prop := Sum.elim (EX6_mean_27 z a1 Q) (XX6_mean_27 z a1 Q)
def fpX6_mean_l27s (a1 : Int32) (a3 : Int64) (a5 : Int32) (M : Me) : Option ((Int64 × Int32 × Me) ⊕ (Int64 × Me)) := (if ((1 : Int32) <<< ((M.1 0 12) &&& 31)) ≤ a5 then
 some (.inr (a3, M))
 else
 (fpX6_bringsIf a1 a5 M).bind fun q4 =>
 letv (a3 + ((q4.2.2) * (q4.1.toInt64))) fun v5 =>
 letv (a5 + (1 : Int32)) fun v6 =>
 some (.inl (v5, v6, q4.2)))
def fpX6_mean_l27 (a1 : Int32) (s : Int64 × Int32 × Me) : Option ((Int64 × Int32 × Me) ⊕ (Int64 × Me)) := fpX6_mean_l27s a1 s.1 s.2.1 s.2.2
set_option maxRecDepth 20000 in
theorem ebX6_mean_l27s {z : Zt} {Q : Option Value → Me → Prop} (a1 : Int32) (a3 : Int64) (a5 : Int32) (M : Me) (h : ok (fpX6_mean_l27s a1 a3 a5 M) (GX6_mean_27 z a1 Q)) : Ev (wY, z) mtX6_mean 7 161 27 [some (.ref 0), some (.int a1), none, some (.long a3), none, some (.int a5), none] [] M Q := by
  unfold fpX6_mean_l27s at h
  refine e_iload dX6_mean_27 rfl ?_
  refine e_iconst (1 : Int32) dX6_mean_29 (by decide) ?_
  refine e_aload_n dX6_mean_30 rfl ?_
  refine e_getI fa_RX6_163 is_Y0 dX6_mean_31 ?_
  refine e_ishl dX6_mean_34 ?_
  refine e_icmp_ge 64 dX6_mean_35 (by decide) (fun c3 => ?_) (fun c3 => ?_)
  · have h := ok_t c3 h
    refine e_forget [none, none, none, some (.long a3), none, none, none] (leL_n (leL_n (leL_n (leL_s (leL_n (leL_n (leL_n leL_0))))))) ?_
    have h := ok_some h
    exact h
  · have h := ok_f c3 h
    refine e_aload_n dX6_mean_38 rfl ?_
    refine e_iload_n dX6_mean_39 rfl ?_
    refine e_iload dX6_mean_40 rfl ?_
    refine e_callV (f2 := 2) (l2 := 44) (ν := mtX6_bringsIf) (as := [.int a1, .int a5]) cv_RX6_191 is_Y0 kc_7 ⟨Nat.le_of_ble_eq_true rfl, Nat.le_of_ble_eq_true rfl⟩ rfl rfl (Nat.le_of_ble_eq_true rfl) dX6_mean_42 ?_
    refine ctX6_bringsIf a1 a5 (ok_bnd h (fun q4 h => ?_))
    show Ev (wY, z) mtX6_mean 7 161 45 [some (.ref 0), some (.int a1), none, some (.long a3), none, some (.int a5), none] [.int q4.1] q4.2 Q
    refine e_istore dX6_mean_45 (by decide) rfl ?_
    refine e_lload_n dX6_mean_47 rfl ?_
    refine e_aload_n dX6_mean_48 rfl ?_
    refine e_getL fa_RX6_185 is_Y0 dX6_mean_49 ?_
    refine e_iload dX6_mean_52 rfl ?_
    refine e_i2l dX6_mean_54 ?_
    refine e_lmul dX6_mean_55 ?_
    refine e_ladd dX6_mean_56 ?_
    refine lv1 (P := fun v5 => Ev (wY, z) mtX6_mean 7 161 57 [some (.ref 0), some (.int a1), none, some (.long a3), none, some (.int a5), some (.int q4.1)] [.long v5] q4.2 Q) h (fun v5 h => ?_)
    refine e_lstore_n dX6_mean_57 (by decide) rfl ?_
    refine lv1e h (fun v6 ev6 h => ?_)
    refine e_iinc v6 dX6_mean_58 rfl ev6 (by decide) rfl ?_
    refine e_goto 27 dX6_mean_61 (by decide) ?_
    refine e_forget [some (.ref 0), some (.int a1), none, some (.long v5), none, some (.int v6), none] (leL_s (leL_s (leL_n (leL_s (leL_n (leL_s (leL_n leL_0))))))) ?_
    have h := ok_some h
    exact h
theorem elX6_mean_l27 {z : Zt} {Q : Option Value → Me → Prop} (a1 : Int32) (N : Nat) (s : Int64 × Int32 × Me) (h : ok (lp (fpX6_mean_l27 a1) N s) (XX6_mean_27 z a1 Q)) : EX6_mean_27 z a1 Q s :=
  lp_ind (fun s h => ebX6_mean_l27s a1 s.1 s.2.1 s.2.2 h) N s h
def fpX6_mean (a1 : Int32) (M : Me) : Option (Int64 × Me) := (if (fpX6_isWater a1 M) = 0 then
 (fpX6_finds (-1000001 : Int32) M).bind fun q8 =>
 some ((q8.1.toInt64), q8.2)
 else
 (fpX6_findOrder a1 M).bind fun q2 =>
 (lp (fpX6_mean_l27 a1) FU ((0 : Int64), (0 : Int32), q2.2)).bind fun r7 =>
 some (r7.1, r7.2))
set_option maxRecDepth 20000 in
theorem ctX6_mean {z : Zt} {M : Me} {Q : Option Value → Me → Prop} (a1 : Int32)  (h : ok (fpX6_mean a1 M) (fun a => Q (some (.long a.1)) a.2)) : EvM (wY, z) mtX6_mean 7 161 [.ref 0, .int a1] M Q := by
  refine evm_of [some (.ref 0), some (.int a1), none, none, none, none, none] 5 (by decide +kernel) (Nat.le_of_ble_eq_true rfl) rfl ?_
  unfold fpX6_mean at h
  refine e_aload_n dX6_mean_0 rfl ?_
  refine e_iload_n dX6_mean_1 rfl ?_
  refine e_callV (f2 := 1) (l2 := 25) (ν := mtX6_isWater) (as := [.int a1]) cv_RX6_116 is_Y0 kc_7 ⟨Nat.le_of_ble_eq_true rfl, Nat.le_of_ble_eq_true rfl⟩ rfl rfl (Nat.le_of_ble_eq_true rfl) dX6_mean_2 ?_
  refine ctX6_isWater a1 ?_
  show Ev (wY, z) mtX6_mean 7 161 5 [some (.ref 0), some (.int a1), none, none, none, none, none] [.int (fpX6_isWater a1 M)] M Q
  refine e_if_ne 16 dX6_mean_5 (by decide) (fun c1 => ?_) (fun c1 => ?_)
  · have h := ok_f c1 h
    refine e_aload_n dX6_mean_16 rfl ?_
    refine e_iload_n dX6_mean_17 rfl ?_
    refine e_callV (f2 := 6) (l2 := 132) (ν := mtX6_findOrder) (as := [.int a1]) cv_RX6_169 is_Y0 kc_7 ⟨Nat.le_of_ble_eq_true rfl, Nat.le_of_ble_eq_true rfl⟩ rfl rfl (Nat.le_of_ble_eq_true rfl) dX6_mean_18 ?_
    refine ctX6_findOrder a1 (ok_bnd h (fun q2 h => ?_))
    show Ev (wY, z) mtX6_mean 7 161 21 [some (.ref 0), some (.int a1), none, none, none, none, none] [.int q2.1] q2.2 Q
    refine e_istore_n dX6_mean_21 (by decide) rfl ?_
    refine e_lconst (0 : Int64) dX6_mean_22 (by decide) ?_
    refine e_lstore_n dX6_mean_23 (by decide) rfl ?_
    refine e_iconst (0 : Int32) dX6_mean_24 (by decide) ?_
    refine e_istore dX6_mean_25 (by decide) rfl ?_
    refine e_forget [some (.ref 0), some (.int a1), none, some (.long (0 : Int64)), none, some (.int (0 : Int32)), none] (leL_s (leL_s (leL_n (leL_s (leL_n (leL_s (leL_n leL_0))))))) ?_
    refine elX6_mean_l27 a1 FU ((0 : Int64), (0 : Int32), q2.2) (ok_bnd h (fun r7 h => ?_))
    show Ev (wY, z) mtX6_mean 7 161 64 [none, none, none, some (.long r7.1), none, none, none] [] r7.2 Q
    refine e_lload_n dX6_mean_64 rfl ?_
    have h := ok_some h
    exact e_lret rfl dX6_mean_65 h
  · have h := ok_t c1 h
    refine e_aload_n dX6_mean_8 rfl ?_
    refine e_ldc wk_RX6_55 dX6_mean_9 ?_
    refine e_callV (f2 := 0) (l2 := 0) (ν := mtX6_finds) (as := [.int (-1000001 : Int32)]) cv_RX6_81 is_Y0 kc_7 ⟨Nat.le_of_ble_eq_true rfl, Nat.le_of_ble_eq_true rfl⟩ rfl rfl (Nat.le_of_ble_eq_true rfl) dX6_mean_11 ?_
    refine ctX6_finds (-1000001 : Int32) (ok_bnd h (fun q8 h => ?_))
    show Ev (wY, z) mtX6_mean 7 161 14 [some (.ref 0), some (.int a1), none, none, none, none, none] [.int q8.1] q8.2 Q
    refine e_i2l dX6_mean_14 ?_
    have h := ok_some h
    exact e_lret rfl dX6_mean_15 h
def XX6_rust_37 (z : Zt) (a1 : Int32) (Q : Option Value → Me → Prop) : (Me) → Prop := fun t => Ev (wY, z) mtX6_rust 2 43 77 [some (.ref 0), none, none, none] [] t Q
def EX6_rust_37 (z : Zt) (a1 : Int32) (Q : Option Value → Me → Prop) : (Int32 × Me) → Prop := fun s => Ev (wY, z) mtX6_rust 2 43 37 [some (.ref 0), some (.int a1), some (.int s.1), none] [] s.2 Q
def GX6_rust_37 (z : Zt) (a1 : Int32) (Q : Option Value → Me → Prop) : (Int32 × Me) ⊕ (Me) → Prop := Sum.elim (EX6_rust_37 z a1 Q) (XX6_rust_37 z a1 Q)
def fpX6_rust_l37s (a1 : Int32) (a2 : Int32) (M : Me) : Option ((Int32 × Me) ⊕ (Me)) := (if a1 ≤ a2 then
 some (.inr M)
 else
 (fpX6_draw M).bind fun q4 =>
 dvz (q4.2.1 1 0) <|
 letv (jrem q4.1 (q4.2.1 1 0)) fun v6 =>
 (fpX6_draw q4.2).bind fun q7 =>
 (inb (fpX6_at v6 (3 : Int32)) 70).bind fun k8 =>
 letv (wrM q7.2 1 k8 (jrem q7.1 (12 : Int32))) fun M9 =>
 letv (a2 + (1 : Int32)) fun v10 =>
 some (.inl (v10, M9)))
def fpX6_rust_l37 (a1 : Int32) (s : Int32 × Me) : Option ((Int32 × Me) ⊕ (Me)) := fpX6_rust_l37s a1 s.1 s.2
set_option maxRecDepth 20000 in
theorem ebX6_rust_l37s {z : Zt} {Q : Option Value → Me → Prop} (a1 : Int32) (a2 : Int32) (M : Me) (h : ok (fpX6_rust_l37s a1 a2 M) (GX6_rust_37 z a1 Q)) : Ev (wY, z) mtX6_rust 2 43 37 [some (.ref 0), some (.int a1), some (.int a2), none] [] M Q := by
  unfold fpX6_rust_l37s at h
  refine e_iload_n dX6_rust_37 rfl ?_
  refine e_iload_n dX6_rust_38 rfl ?_
  refine e_icmp_ge 77 dX6_rust_39 (by decide) (fun c3 => ?_) (fun c3 => ?_)
  · have h := ok_t c3 h
    refine e_forget [some (.ref 0), none, none, none] (leL_s (leL_n (leL_n (leL_n leL_0)))) ?_
    have h := ok_some h
    exact h
  · have h := ok_f c3 h
    refine e_aload_n dX6_rust_42 rfl ?_
    refine e_callV (f2 := 0) (l2 := 0) (ν := mtX6_draw) (as := []) cv_RX6_133 is_Y0 kc_7 ⟨Nat.le_of_ble_eq_true rfl, Nat.le_of_ble_eq_true rfl⟩ rfl rfl (Nat.le_of_ble_eq_true rfl) dX6_rust_43 ?_
    refine ctX6_draw (ok_bnd h (fun q4 h => ?_))
    show Ev (wY, z) mtX6_rust 2 43 46 [some (.ref 0), some (.int a1), some (.int a2), none] [.int q4.1] q4.2 Q
    refine e_aload_n dX6_rust_46 rfl ?_
    refine e_getR fa_RX6_7 is_Y0 rfl dX6_rust_47 ?_
    refine e_iconst (0 : Int32) dX6_rust_50 (by decide) ?_
    refine e_ialdK ia_Y1 (by unfold vp_in; decide) (q := 0) (by decide) dX6_rust_51 ?_
    obtain ⟨z5, h⟩ := ok_dvz h
    refine e_irem dX6_rust_52 z5 ?_
    refine lv1 (P := fun v6 => Ev (wY, z) mtX6_rust 2 43 53 [some (.ref 0), some (.int a1), some (.int a2), none] [.int v6] q4.2 Q) h (fun v6 h => ?_)
    refine e_istore_n dX6_rust_53 (by decide) rfl ?_
    refine e_aload_n dX6_rust_54 rfl ?_
    refine e_getR fa_RX6_7 is_Y0 rfl dX6_rust_55 ?_
    refine e_iload_n dX6_rust_58 rfl ?_
    refine e_iconst (3 : Int32) dX6_rust_59 (by decide) ?_
    refine e_callS (f2 := 0) (l2 := 0) (ν := mtX6_at) (as := [.int v6, .int (3 : Int32)]) cs_RX6_63 ⟨Nat.le_of_ble_eq_true rfl, Nat.le_of_ble_eq_true rfl⟩ rfl rfl (Nat.le_of_ble_eq_true rfl) dX6_rust_60 ?_
    refine ctX6_at v6 (3 : Int32) ?_
    show Ev (wY, z) mtX6_rust 2 43 63 [some (.ref 0), some (.int a1), some (.int a2), some (.int v6)] [.int (fpX6_at v6 (3 : Int32)), .ref 1] q4.2 Q
    refine e_aload_n dX6_rust_63 rfl ?_
    refine e_callV (f2 := 0) (l2 := 0) (ν := mtX6_draw) (as := []) cv_RX6_133 is_Y0 kc_7 ⟨Nat.le_of_ble_eq_true rfl, Nat.le_of_ble_eq_true rfl⟩ rfl rfl (Nat.le_of_ble_eq_true rfl) dX6_rust_64 ?_
    refine ctX6_draw (ok_bnd h (fun q7 h => ?_))
    show Ev (wY, z) mtX6_rust 2 43 67 [some (.ref 0), some (.int a1), some (.int a2), some (.int v6)] [.int q7.1, .int (fpX6_at v6 (3 : Int32)), .ref 1] q7.2 Q
    refine e_bipush (12 : Int32) dX6_rust_67 (by decide) ?_
    refine e_irem dX6_rust_69 (by decide) ?_
    refine ok_inb h (fun k8 ek8 ik8 h => ?_)
    refine e_iastK ia_Y1 ik8 ek8 dX6_rust_70 ?_
    refine lv1 (P := fun M9 => Ev (wY, z) mtX6_rust 2 43 71 [some (.ref 0), some (.int a1), some (.int a2), some (.int v6)] [] M9 Q) h (fun M9 h => ?_)
    refine lv1e h (fun v10 ev10 h => ?_)
    refine e_iinc v10 dX6_rust_71 rfl ev10 (by decide) rfl ?_
    refine e_goto 37 dX6_rust_74 (by decide) ?_
    refine e_forget [some (.ref 0), some (.int a1), some (.int v10), none] (leL_s (leL_s (leL_s (leL_n leL_0)))) ?_
    have h := ok_some h
    exact h
theorem elX6_rust_l37 {z : Zt} {Q : Option Value → Me → Prop} (a1 : Int32) (N : Nat) (s : Int32 × Me) (h : ok (lp (fpX6_rust_l37 a1) N s) (XX6_rust_37 z a1 Q)) : EX6_rust_37 z a1 Q s :=
  lp_ind (fun s h => ebX6_rust_l37s a1 s.1 s.2 h) N s h
def XX6_rust_81 (z : Zt) (M : Me) (Q : Option Value → Me → Prop) : (Int32) → Prop := fun t => Ev (wY, z) mtX6_rust 2 43 114 [none, none, some (.int t), none] [] M Q
def EX6_rust_81 (z : Zt) (M : Me) (Q : Option Value → Me → Prop) : (Int32 × Int32) → Prop := fun s => Ev (wY, z) mtX6_rust 2 43 81 [some (.ref 0), none, some (.int s.1), some (.int s.2)] [] M Q
def GX6_rust_81 (z : Zt) (M : Me) (Q : Option Value → Me → Prop) : (Int32 × Int32) ⊕ (Int32) → Prop := Sum.elim (EX6_rust_81 z M Q) (XX6_rust_81 z M Q)
def fpX6_rust_l81s (a2 : Int32) (a3 : Int32) (M : Me) : Option ((Int32 × Int32) ⊕ (Int32)) := (if (M.1 1 0) ≤ a3 then
 some (.inr a2)
 else
 (fpX6_its a3 (3 : Int32) M).bind fun v13 =>
 (if v13 ≤ 0 then
 letv (a2 + (0 : Int32)) fun v15 =>
 letv (a3 + (1 : Int32)) fun v16 =>
 some (.inl (v15, v16))
 else
 letv (a2 + (1 : Int32)) fun v17 =>
 letv (a3 + (1 : Int32)) fun v18 =>
 some (.inl (v17, v18))))
def fpX6_rust_l81 (M : Me) (s : Int32 × Int32) : Option ((Int32 × Int32) ⊕ (Int32)) := fpX6_rust_l81s s.1 s.2 M
set_option maxRecDepth 20000 in
theorem ebX6_rust_l81s {z : Zt} {Q : Option Value → Me → Prop} (a2 : Int32) (a3 : Int32) (M : Me) (h : ok (fpX6_rust_l81s a2 a3 M) (GX6_rust_81 z M Q)) : Ev (wY, z) mtX6_rust 2 43 81 [some (.ref 0), none, some (.int a2), some (.int a3)] [] M Q := by
  unfold fpX6_rust_l81s at h
  refine e_iload_n dX6_rust_81 rfl ?_
  refine e_aload_n dX6_rust_82 rfl ?_
  refine e_getR fa_RX6_7 is_Y0 rfl dX6_rust_83 ?_
  refine e_iconst (0 : Int32) dX6_rust_86 (by decide) ?_
  refine e_ialdK ia_Y1 (by unfold vp_in; decide) (q := 0) (by decide) dX6_rust_87 ?_
  refine e_icmp_ge 114 dX6_rust_88 (by decide) (fun c12 => ?_) (fun c12 => ?_)
  · have h := ok_t c12 h
    refine e_forget [none, none, some (.int a2), none] (leL_n (leL_n (leL_s (leL_n leL_0)))) ?_
    have h := ok_some h
    exact h
  · have h := ok_f c12 h
    refine e_iload_n dX6_rust_91 rfl ?_
    refine e_aload_n dX6_rust_92 rfl ?_
    refine e_iload_n dX6_rust_93 rfl ?_
    refine e_iconst (3 : Int32) dX6_rust_94 (by decide) ?_
    refine e_callV (f2 := 1) (l2 := 21) (ν := mtX6_its) (as := [.int a3, .int (3 : Int32)]) cv_RX6_90 is_Y0 kc_7 ⟨Nat.le_of_ble_eq_true rfl, Nat.le_of_ble_eq_true rfl⟩ rfl rfl (Nat.le_of_ble_eq_true rfl) dX6_rust_95 ?_
    refine ctX6_its a3 (3 : Int32) (ok_bnd h (fun v13 h => ?_))
    show Ev (wY, z) mtX6_rust 2 43 98 [some (.ref 0), none, some (.int a2), some (.int a3)] [.int v13, .int a2] M Q
    refine e_if_le 105 dX6_rust_98 (by decide) (fun c14 => ?_) (fun c14 => ?_)
    · have h := ok_t c14 h
      refine e_iconst (0 : Int32) dX6_rust_105 (by decide) ?_
      refine e_iadd dX6_rust_106 ?_
      refine lv1 (P := fun v15 => Ev (wY, z) mtX6_rust 2 43 107 [some (.ref 0), none, some (.int a2), some (.int a3)] [.int v15] M Q) h (fun v15 h => ?_)
      refine e_istore_n dX6_rust_107 (by decide) rfl ?_
      refine lv1e h (fun v16 ev16 h => ?_)
      refine e_iinc v16 dX6_rust_108 rfl ev16 (by decide) rfl ?_
      refine e_goto 81 dX6_rust_111 (by decide) ?_
      refine e_forget [some (.ref 0), none, some (.int v15), some (.int v16)] (leL_s (leL_n (leL_s (leL_s leL_0)))) ?_
      have h := ok_some h
      exact h
    · have h := ok_f c14 h
      refine e_iconst (1 : Int32) dX6_rust_101 (by decide) ?_
      refine e_goto 106 dX6_rust_102 (by decide) ?_
      refine e_iadd dX6_rust_106 ?_
      refine lv1 (P := fun v17 => Ev (wY, z) mtX6_rust 2 43 107 [some (.ref 0), none, some (.int a2), some (.int a3)] [.int v17] M Q) h (fun v17 h => ?_)
      refine e_istore_n dX6_rust_107 (by decide) rfl ?_
      refine lv1e h (fun v18 ev18 h => ?_)
      refine e_iinc v18 dX6_rust_108 rfl ev18 (by decide) rfl ?_
      refine e_goto 81 dX6_rust_111 (by decide) ?_
      refine e_forget [some (.ref 0), none, some (.int v17), some (.int v18)] (leL_s (leL_n (leL_s (leL_s leL_0)))) ?_
      have h := ok_some h
      exact h
theorem elX6_rust_l81 {z : Zt} {Q : Option Value → Me → Prop} (M : Me) (N : Nat) (s : Int32 × Int32) (h : ok (lp (fpX6_rust_l81 M) N s) (XX6_rust_81 z M Q)) : EX6_rust_81 z M Q s :=
  lp_ind (fun s h => ebX6_rust_l81s s.1 s.2 M h) N s h
def fpX6_rust (a1 : Int32) (M : Me) : Option (Int32 × Me) := (if (fpX6_in (a1.toInt64) (1 : Int64) (12 : Int64)) = 0 then
 (fpX6_finds (-1000001 : Int32) M).bind fun q21 =>
 some (q21.1, q21.2)
 else
 (if (M.1 1 0) = 0 then
 (fpX6_finds (-1000005 : Int32) M).bind fun q20 =>
 some (q20.1, q20.2)
 else
 (lp (fpX6_rust_l37 a1) FU ((0 : Int32), M)).bind fun r11 =>
 (lp (fpX6_rust_l81 r11) FU ((0 : Int32), (0 : Int32))).bind fun r19 =>
 some (r19, r11)))
set_option maxRecDepth 20000 in
theorem ctX6_rust {z : Zt} {M : Me} {Q : Option Value → Me → Prop} (a1 : Int32)  (h : ok (fpX6_rust a1 M) (fun a => Q (some (.int a.1)) a.2)) : EvM (wY, z) mtX6_rust 2 43 [.ref 0, .int a1] M Q := by
  refine evm_of [some (.ref 0), some (.int a1), none, none] 2 (by decide +kernel) (Nat.le_of_ble_eq_true rfl) rfl ?_
  unfold fpX6_rust at h
  refine e_iload_n dX6_rust_0 rfl ?_
  refine e_i2l dX6_rust_1 ?_
  refine e_lconst (1 : Int64) dX6_rust_2 (by decide) ?_
  refine e_ldc2 wk_RX6_189 dX6_rust_3 ?_
  refine e_callS (f2 := 0) (l2 := 0) (ν := mtX6_in) (as := [.long (a1.toInt64), .long (1 : Int64), .long (12 : Int64)]) cs_RX6_58 ⟨Nat.le_of_ble_eq_true rfl, Nat.le_of_ble_eq_true rfl⟩ rfl rfl (Nat.le_of_ble_eq_true rfl) dX6_rust_6 ?_
  refine ctX6_in (a1.toInt64) (1 : Int64) (12 : Int64) ?_
  show Ev (wY, z) mtX6_rust 2 43 9 [some (.ref 0), some (.int a1), none, none] [.int (fpX6_in (a1.toInt64) (1 : Int64) (12 : Int64))] M Q
  refine e_if_ne 19 dX6_rust_9 (by decide) (fun c1 => ?_) (fun c1 => ?_)
  · have h := ok_f c1 h
    refine e_aload_n dX6_rust_19 rfl ?_
    refine e_getR fa_RX6_7 is_Y0 rfl dX6_rust_20 ?_
    refine e_iconst (0 : Int32) dX6_rust_23 (by decide) ?_
    refine e_ialdK ia_Y1 (by unfold vp_in; decide) (q := 0) (by decide) dX6_rust_24 ?_
    refine e_if_ne 35 dX6_rust_25 (by decide) (fun c2 => ?_) (fun c2 => ?_)
    · have h := ok_f c2 h
      refine e_iconst (0 : Int32) dX6_rust_35 (by decide) ?_
      refine e_istore_n dX6_rust_36 (by decide) rfl ?_
      refine e_forget [some (.ref 0), some (.int a1), some (.int (0 : Int32)), none] (leL_s (leL_s (leL_s (leL_n leL_0)))) ?_
      refine elX6_rust_l37 a1 FU ((0 : Int32), M) (ok_bnd h (fun r11 h => ?_))
      show Ev (wY, z) mtX6_rust 2 43 77 [some (.ref 0), none, none, none] [] r11 Q
      refine e_iconst (0 : Int32) dX6_rust_77 (by decide) ?_
      refine e_istore_n dX6_rust_78 (by decide) rfl ?_
      refine e_iconst (0 : Int32) dX6_rust_79 (by decide) ?_
      refine e_istore_n dX6_rust_80 (by decide) rfl ?_
      refine e_forget [some (.ref 0), none, some (.int (0 : Int32)), some (.int (0 : Int32))] (leL_s (leL_n (leL_s (leL_s leL_0)))) ?_
      refine elX6_rust_l81 r11 FU ((0 : Int32), (0 : Int32)) (ok_bnd h (fun r19 h => ?_))
      show Ev (wY, z) mtX6_rust 2 43 114 [none, none, some (.int r19), none] [] r11 Q
      refine e_iload_n dX6_rust_114 rfl ?_
      have h := ok_some h
      exact e_iret rfl dX6_rust_115 h
    · have h := ok_t c2 h
      refine e_aload_n dX6_rust_28 rfl ?_
      refine e_ldc wk_RX6_122 dX6_rust_29 ?_
      refine e_callV (f2 := 0) (l2 := 0) (ν := mtX6_finds) (as := [.int (-1000005 : Int32)]) cv_RX6_81 is_Y0 kc_7 ⟨Nat.le_of_ble_eq_true rfl, Nat.le_of_ble_eq_true rfl⟩ rfl rfl (Nat.le_of_ble_eq_true rfl) dX6_rust_31 ?_
      refine ctX6_finds (-1000005 : Int32) (ok_bnd h (fun q20 h => ?_))
      show Ev (wY, z) mtX6_rust 2 43 34 [some (.ref 0), some (.int a1), none, none] [.int q20.1] q20.2 Q
      have h := ok_some h
      exact e_iret rfl dX6_rust_34 h
  · have h := ok_t c1 h
    refine e_aload_n dX6_rust_12 rfl ?_
    refine e_ldc wk_RX6_55 dX6_rust_13 ?_
    refine e_callV (f2 := 0) (l2 := 0) (ν := mtX6_finds) (as := [.int (-1000001 : Int32)]) cv_RX6_81 is_Y0 kc_7 ⟨Nat.le_of_ble_eq_true rfl, Nat.le_of_ble_eq_true rfl⟩ rfl rfl (Nat.le_of_ble_eq_true rfl) dX6_rust_15 ?_
    refine ctX6_finds (-1000001 : Int32) (ok_bnd h (fun q21 h => ?_))
    show Ev (wY, z) mtX6_rust 2 43 18 [some (.ref 0), some (.int a1), none, none] [.int q21.1] q21.2 Q
    have h := ok_some h
    exact e_iret rfl dX6_rust_18 h
def fpX6_seed (a1 : Int32) (M : Me) : Option (Int32 × Me) := letv (M.1 1 1) fun v1 =>
 letv (wrM M 1 1 a1) fun M2 =>
 some (v1, M2)
set_option maxRecDepth 20000 in
theorem ctX6_seed {z : Zt} {M : Me} {Q : Option Value → Me → Prop} (a1 : Int32)  (h : ok (fpX6_seed a1 M) (fun a => Q (some (.int a.1)) a.2)) : EvM (wY, z) mtX6_seed 0 0 [.ref 0, .int a1] M Q := by
  refine evm_of [some (.ref 0), some (.int a1), none] 1 (by decide +kernel) (Nat.le_of_ble_eq_true rfl) rfl ?_
  unfold fpX6_seed at h
  refine e_aload_n dX6_seed_0 rfl ?_
  refine e_getR fa_RX6_7 is_Y0 rfl dX6_seed_1 ?_
  refine e_iconst (1 : Int32) dX6_seed_4 (by decide) ?_
  refine e_ialdK ia_Y1 (by unfold vp_in; decide) (q := 1) (by decide) dX6_seed_5 ?_
  refine lv1 (P := fun v1 => Ev (wY, z) mtX6_seed 0 0 6 [some (.ref 0), some (.int a1), none] [.int v1] M Q) h (fun v1 h => ?_)
  refine e_istore_n dX6_seed_6 (by decide) rfl ?_
  refine e_aload_n dX6_seed_7 rfl ?_
  refine e_getR fa_RX6_7 is_Y0 rfl dX6_seed_8 ?_
  refine e_iconst (1 : Int32) dX6_seed_11 (by decide) ?_
  refine e_iload_n dX6_seed_12 rfl ?_
  refine e_iastK ia_Y1 (by unfold vp_in; decide) (q := 1) (by decide) dX6_seed_13 ?_
  refine lv1 (P := fun M2 => Ev (wY, z) mtX6_seed 0 0 14 [some (.ref 0), some (.int a1), some (.int v1)] [] M2 Q) h (fun M2 h => ?_)
  refine e_iload_n dX6_seed_14 rfl ?_
  have h := ok_some h
  exact e_iret rfl dX6_seed_15 h
def XX6_feed_41 (z : Zt) (a1 : Int32) (Q : Option Value → Me → Prop) : (Me) → Prop := fun t => Ev (wY, z) mtX6_feed 1 25 80 [some (.ref 0), none, none, none] [] t Q
def EX6_feed_41 (z : Zt) (a1 : Int32) (Q : Option Value → Me → Prop) : (Int32 × Me) → Prop := fun s => Ev (wY, z) mtX6_feed 1 25 41 [some (.ref 0), some (.int a1), none, some (.int s.1)] [] s.2 Q
def GX6_feed_41 (z : Zt) (a1 : Int32) (Q : Option Value → Me → Prop) : (Int32 × Me) ⊕ (Me) → Prop := Sum.elim (EX6_feed_41 z a1 Q) (XX6_feed_41 z a1 Q)
def fpX6_feed_l41s (a1 : Int32) (a3 : Int32) (M : Me) : Option ((Int32 × Me) ⊕ (Me)) := (if a3 < 0 then
 some (.inr M)
 else
 (inb (M.1 0 15) 120).bind fun k5 =>
 letv (wrM M 11 k5 ((a1 >>> (((8 : Int32) * a3) &&& 31)) &&& (255 : Int32))) fun M6 =>
 letv (wrM M6 0 15 ((M6.1 0 15) + (1 : Int32))) fun M7 =>
 letv (a3 + (-1 : Int32)) fun v8 =>
 some (.inl (v8, M7)))
def fpX6_feed_l41 (a1 : Int32) (s : Int32 × Me) : Option ((Int32 × Me) ⊕ (Me)) := fpX6_feed_l41s a1 s.1 s.2
set_option maxRecDepth 20000 in
theorem ebX6_feed_l41s {z : Zt} {Q : Option Value → Me → Prop} (a1 : Int32) (a3 : Int32) (M : Me) (h : ok (fpX6_feed_l41s a1 a3 M) (GX6_feed_41 z a1 Q)) : Ev (wY, z) mtX6_feed 1 25 41 [some (.ref 0), some (.int a1), none, some (.int a3)] [] M Q := by
  unfold fpX6_feed_l41s at h
  refine e_iload_n dX6_feed_41 rfl ?_
  refine e_if_lt 80 dX6_feed_42 (by decide) (fun c4 => ?_) (fun c4 => ?_)
  · have h := ok_t c4 h
    refine e_forget [some (.ref 0), none, none, none] (leL_s (leL_n (leL_n (leL_n leL_0)))) ?_
    have h := ok_some h
    exact h
  · have h := ok_f c4 h
    refine e_aload_n dX6_feed_45 rfl ?_
    refine e_getR fa_RX6_40 is_Y0 rfl dX6_feed_46 ?_
    refine e_aload_n dX6_feed_49 rfl ?_
    refine e_getI fa_RX6_196 is_Y0 dX6_feed_50 ?_
    refine e_iload_n dX6_feed_53 rfl ?_
    refine e_bipush (8 : Int32) dX6_feed_54 (by decide) ?_
    refine e_iload_n dX6_feed_56 rfl ?_
    refine e_imul dX6_feed_57 ?_
    refine e_ishr dX6_feed_58 ?_
    refine e_sipush (255 : Int32) dX6_feed_59 (by decide) ?_
    refine e_iand dX6_feed_62 ?_
    refine ok_inb h (fun k5 ek5 ik5 h => ?_)
    refine e_iastK ia_Y11 ik5 ek5 dX6_feed_63 ?_
    refine lv1 (P := fun M6 => Ev (wY, z) mtX6_feed 1 25 64 [some (.ref 0), some (.int a1), none, some (.int a3)] [] M6 Q) h (fun M6 h => ?_)
    refine e_aload_n dX6_feed_64 rfl ?_
    refine e_dup dX6_feed_65 rfl ?_
    refine e_getI fa_RX6_196 is_Y0 dX6_feed_66 ?_
    refine e_iconst (1 : Int32) dX6_feed_69 (by decide) ?_
    refine e_iadd dX6_feed_70 ?_
    refine e_putI fw_RX6_196 is_Y0 dX6_feed_71 ?_
    refine lv1 (P := fun M7 => Ev (wY, z) mtX6_feed 1 25 74 [some (.ref 0), some (.int a1), none, some (.int a3)] [] M7 Q) h (fun M7 h => ?_)
    refine lv1e h (fun v8 ev8 h => ?_)
    refine e_iinc v8 dX6_feed_74 rfl ev8 (by decide) rfl ?_
    refine e_goto 41 dX6_feed_77 (by decide) ?_
    refine e_forget [some (.ref 0), some (.int a1), none, some (.int v8)] (leL_s (leL_s (leL_n (leL_s leL_0)))) ?_
    have h := ok_some h
    exact h
theorem elX6_feed_l41 {z : Zt} {Q : Option Value → Me → Prop} (a1 : Int32) (N : Nat) (s : Int32 × Me) (h : ok (lp (fpX6_feed_l41 a1) N s) (XX6_feed_41 z a1 Q)) : EX6_feed_41 z a1 Q s :=
  lp_ind (fun s h => ebX6_feed_l41s a1 s.1 s.2 h) N s h
def fpX6_feed (a1 : Int32) (a2 : Int32) (M : Me) : Option (Int32 × Me) := (if (fpX6_in (a2.toInt64) (1 : Int64) (4 : Int64)) = 0 then
 (fpX6_finds (-1000001 : Int32) M).bind fun q11 =>
 some (q11.1, q11.2)
 else
 (if ((M.1 0 15) + a2) ≤ (120 : Int32) then
 letv (a2 - (1 : Int32)) fun v3 =>
 (lp (fpX6_feed_l41 a1) FU (v3, M)).bind fun r9 =>
 some ((r9.1 0 15), r9)
 else
 (fpX6_finds (-1000002 : Int32) M).bind fun q10 =>
 some (q10.1, q10.2)))
set_option maxRecDepth 20000 in
theorem ctX6_feed {z : Zt} {M : Me} {Q : Option Value → Me → Prop} (a1 : Int32) (a2 : Int32)  (h : ok (fpX6_feed a1 a2 M) (fun a => Q (some (.int a.1)) a.2)) : EvM (wY, z) mtX6_feed 1 25 [.ref 0, .int a1, .int a2] M Q := by
  refine evm_of [some (.ref 0), some (.int a1), some (.int a2), none] 1 (by decide +kernel) (Nat.le_of_ble_eq_true rfl) rfl ?_
  unfold fpX6_feed at h
  refine e_iload_n dX6_feed_0 rfl ?_
  refine e_i2l dX6_feed_1 ?_
  refine e_lconst (1 : Int64) dX6_feed_2 (by decide) ?_
  refine e_ldc2 wk_RX6_194 dX6_feed_3 ?_
  refine e_callS (f2 := 0) (l2 := 0) (ν := mtX6_in) (as := [.long (a2.toInt64), .long (1 : Int64), .long (4 : Int64)]) cs_RX6_58 ⟨Nat.le_of_ble_eq_true rfl, Nat.le_of_ble_eq_true rfl⟩ rfl rfl (Nat.le_of_ble_eq_true rfl) dX6_feed_6 ?_
  refine ctX6_in (a2.toInt64) (1 : Int64) (4 : Int64) ?_
  show Ev (wY, z) mtX6_feed 1 25 9 [some (.ref 0), some (.int a1), some (.int a2), none] [.int (fpX6_in (a2.toInt64) (1 : Int64) (4 : Int64))] M Q
  refine e_if_ne 19 dX6_feed_9 (by decide) (fun c1 => ?_) (fun c1 => ?_)
  · have h := ok_f c1 h
    refine e_aload_n dX6_feed_19 rfl ?_
    refine e_getI fa_RX6_196 is_Y0 dX6_feed_20 ?_
    refine e_iload_n dX6_feed_23 rfl ?_
    refine e_iadd dX6_feed_24 ?_
    refine e_bipush (120 : Int32) dX6_feed_25 (by decide) ?_
    refine e_icmp_le 37 dX6_feed_27 (by decide) (fun c2 => ?_) (fun c2 => ?_)
    · have h := ok_t c2 h
      refine e_iload_n dX6_feed_37 rfl ?_
      refine e_iconst (1 : Int32) dX6_feed_38 (by decide) ?_
      refine e_isub dX6_feed_39 ?_
      refine lv1 (P := fun v3 => Ev (wY, z) mtX6_feed 1 25 40 [some (.ref 0), some (.int a1), some (.int a2), none] [.int v3] M Q) h (fun v3 h => ?_)
      refine e_istore_n dX6_feed_40 (by decide) rfl ?_
      refine e_forget [some (.ref 0), some (.int a1), none, some (.int v3)] (leL_s (leL_s (leL_n (leL_s leL_0)))) ?_
      refine elX6_feed_l41 a1 FU (v3, M) (ok_bnd h (fun r9 h => ?_))
      show Ev (wY, z) mtX6_feed 1 25 80 [some (.ref 0), none, none, none] [] r9 Q
      refine e_aload_n dX6_feed_80 rfl ?_
      refine e_getI fa_RX6_196 is_Y0 dX6_feed_81 ?_
      have h := ok_some h
      exact e_iret rfl dX6_feed_84 h
    · have h := ok_f c2 h
      refine e_aload_n dX6_feed_30 rfl ?_
      refine e_ldc wk_RX6_85 dX6_feed_31 ?_
      refine e_callV (f2 := 0) (l2 := 0) (ν := mtX6_finds) (as := [.int (-1000002 : Int32)]) cv_RX6_81 is_Y0 kc_7 ⟨Nat.le_of_ble_eq_true rfl, Nat.le_of_ble_eq_true rfl⟩ rfl rfl (Nat.le_of_ble_eq_true rfl) dX6_feed_33 ?_
      refine ctX6_finds (-1000002 : Int32) (ok_bnd h (fun q10 h => ?_))
      show Ev (wY, z) mtX6_feed 1 25 36 [some (.ref 0), some (.int a1), some (.int a2), none] [.int q10.1] q10.2 Q
      have h := ok_some h
      exact e_iret rfl dX6_feed_36 h
  · have h := ok_t c1 h
    refine e_aload_n dX6_feed_12 rfl ?_
    refine e_ldc wk_RX6_55 dX6_feed_13 ?_
    refine e_callV (f2 := 0) (l2 := 0) (ν := mtX6_finds) (as := [.int (-1000001 : Int32)]) cv_RX6_81 is_Y0 kc_7 ⟨Nat.le_of_ble_eq_true rfl, Nat.le_of_ble_eq_true rfl⟩ rfl rfl (Nat.le_of_ble_eq_true rfl) dX6_feed_15 ?_
    refine ctX6_finds (-1000001 : Int32) (ok_bnd h (fun q11 h => ?_))
    show Ev (wY, z) mtX6_feed 1 25 18 [some (.ref 0), some (.int a1), some (.int a2), none] [.int q11.1] q11.2 Q
    have h := ok_some h
    exact e_iret rfl dX6_feed_18 h
def fpX6_wipe  (M : Me) : Option (Int32 × Me) := letv (M.1 0 15) fun v1 =>
 letv (wrM M 0 15 (0 : Int32)) fun M2 =>
 some (v1, M2)
set_option maxRecDepth 20000 in
theorem ctX6_wipe {z : Zt} {M : Me} {Q : Option Value → Me → Prop}   (h : ok (fpX6_wipe M) (fun a => Q (some (.int a.1)) a.2)) : EvM (wY, z) mtX6_wipe 0 0 [.ref 0] M Q := by
  refine evm_of [some (.ref 0), none] 1 (by decide +kernel) (Nat.le_of_ble_eq_true rfl) rfl ?_
  unfold fpX6_wipe at h
  refine e_aload_n dX6_wipe_0 rfl ?_
  refine e_getI fa_RX6_196 is_Y0 dX6_wipe_1 ?_
  refine lv1 (P := fun v1 => Ev (wY, z) mtX6_wipe 0 0 4 [some (.ref 0), none] [.int v1] M Q) h (fun v1 h => ?_)
  refine e_istore_n dX6_wipe_4 (by decide) rfl ?_
  refine e_aload_n dX6_wipe_5 rfl ?_
  refine e_iconst (0 : Int32) dX6_wipe_6 (by decide) ?_
  refine e_putI fw_RX6_196 is_Y0 dX6_wipe_7 ?_
  refine lv1 (P := fun M2 => Ev (wY, z) mtX6_wipe 0 0 10 [some (.ref 0), some (.int v1)] [] M2 Q) h (fun M2 h => ?_)
  refine e_iload_n dX6_wipe_10 rfl ?_
  have h := ok_some h
  exact e_iret rfl dX6_wipe_11 h
def fpX6_byteAt (a1 : Int32) (M : Me) : Option (Int32) := (if (M.1 0 15) ≤ a1 then
 some (-1 : Int32)
 else
 (inb a1 120).bind fun k3 =>
 some (M.1 11 k3))
set_option maxRecDepth 20000 in
theorem ctX6_byteAt {z : Zt} {M : Me} {Q : Option Value → Me → Prop} (a1 : Int32)  (h : ok (fpX6_byteAt a1 M) (fun a => Q (some (.int a)) M)) : EvM (wY, z) mtX6_byteAt 0 0 [.ref 0, .int a1] M Q := by
  refine evm_of [some (.ref 0), some (.int a1)] 0 (by decide +kernel) (Nat.le_of_ble_eq_true rfl) rfl ?_
  unfold fpX6_byteAt at h
  refine e_iload_n dX6_byteAt_0 rfl ?_
  refine e_aload_n dX6_byteAt_1 rfl ?_
  refine e_getI fa_RX6_196 is_Y0 dX6_byteAt_2 ?_
  refine e_icmp_ge 17 dX6_byteAt_5 (by decide) (fun c2 => ?_) (fun c2 => ?_)
  · have h := ok_t c2 h
    refine e_iconst (-1 : Int32) dX6_byteAt_17 (by decide) ?_
    have h := ok_some h
    exact e_iret rfl dX6_byteAt_18 h
  · have h := ok_f c2 h
    refine e_aload_n dX6_byteAt_8 rfl ?_
    refine e_getR fa_RX6_40 is_Y0 rfl dX6_byteAt_9 ?_
    refine e_iload_n dX6_byteAt_12 rfl ?_
    refine ok_inb h (fun k3 ek3 ik3 h => ?_)
    refine e_ialdK ia_Y11 ik3 ek3 dX6_byteAt_13 ?_
    refine e_goto 18 dX6_byteAt_14 (by decide) ?_
    have h := ok_some h
    exact e_iret rfl dX6_byteAt_18 h
def fpX6_isLetter (a0 : Int32) : Int32 := (fpX6_in (a0.toInt64) (97 : Int64) (122 : Int64))
theorem fpzX6_isLetter (a0 : Int32) : fpX6_isLetter a0 = 0 ∨ fpX6_isLetter a0 = 1 := by
  unfold fpX6_isLetter
  (repeat' split) <;> first | exact Or.inl rfl | exact Or.inr rfl | apply fpzX6_in
set_option maxRecDepth 20000 in
theorem ctX6_isLetter {z : Zt} {M : Me} {Q : Option Value → Me → Prop} (a0 : Int32)  (h : Q (some (.int (fpX6_isLetter a0))) M) : EvM (wY, z) mtX6_isLetter 1 25 [.int a0] M Q := by
  refine evm_of [some (.int a0)] 0 (by decide +kernel) (Nat.le_of_ble_eq_true rfl) rfl ?_
  refine e_iload_n dX6_isLetter_0 rfl ?_
  refine e_i2l dX6_isLetter_1 ?_
  refine e_ldc2 wk_RX6_199 dX6_isLetter_2 ?_
  refine e_ldc2 wk_RX6_201 dX6_isLetter_5 ?_
  refine e_callS (f2 := 0) (l2 := 0) (ν := mtX6_in) (as := [.long (a0.toInt64), .long (97 : Int64), .long (122 : Int64)]) cs_RX6_58 ⟨Nat.le_of_ble_eq_true rfl, Nat.le_of_ble_eq_true rfl⟩ rfl rfl (Nat.le_of_ble_eq_true rfl) dX6_isLetter_8 ?_
  refine ctX6_in (a0.toInt64) (97 : Int64) (122 : Int64) ?_
  show Ev (wY, z) mtX6_isLetter 1 25 11 [some (.int a0)] [.int (fpX6_in (a0.toInt64) (97 : Int64) (122 : Int64))] M Q
  have e0 : fpX6_isLetter a0 = (fpX6_in (a0.toInt64) (97 : Int64) (122 : Int64)) := rfl
  rw [e0] at h
  exact e_zret rfl (fpzX6_in (a0.toInt64) (97 : Int64) (122 : Int64)) dX6_isLetter_11 h
def fpX6_isDigit (a0 : Int32) : Int32 := (fpX6_in (a0.toInt64) (48 : Int64) (57 : Int64))
theorem fpzX6_isDigit (a0 : Int32) : fpX6_isDigit a0 = 0 ∨ fpX6_isDigit a0 = 1 := by
  unfold fpX6_isDigit
  (repeat' split) <;> first | exact Or.inl rfl | exact Or.inr rfl | apply fpzX6_in
set_option maxRecDepth 20000 in
theorem ctX6_isDigit {z : Zt} {M : Me} {Q : Option Value → Me → Prop} (a0 : Int32)  (h : Q (some (.int (fpX6_isDigit a0))) M) : EvM (wY, z) mtX6_isDigit 1 25 [.int a0] M Q := by
  refine evm_of [some (.int a0)] 0 (by decide +kernel) (Nat.le_of_ble_eq_true rfl) rfl ?_
  refine e_iload_n dX6_isDigit_0 rfl ?_
  refine e_i2l dX6_isDigit_1 ?_
  refine e_ldc2 wk_RX6_203 dX6_isDigit_2 ?_
  refine e_ldc2 wk_RX6_205 dX6_isDigit_5 ?_
  refine e_callS (f2 := 0) (l2 := 0) (ν := mtX6_in) (as := [.long (a0.toInt64), .long (48 : Int64), .long (57 : Int64)]) cs_RX6_58 ⟨Nat.le_of_ble_eq_true rfl, Nat.le_of_ble_eq_true rfl⟩ rfl rfl (Nat.le_of_ble_eq_true rfl) dX6_isDigit_8 ?_
  refine ctX6_in (a0.toInt64) (48 : Int64) (57 : Int64) ?_
  show Ev (wY, z) mtX6_isDigit 1 25 11 [some (.int a0)] [.int (fpX6_in (a0.toInt64) (48 : Int64) (57 : Int64))] M Q
  have e0 : fpX6_isDigit a0 = (fpX6_in (a0.toInt64) (48 : Int64) (57 : Int64)) := rfl
  rw [e0] at h
  exact e_zret rfl (fpzX6_in (a0.toInt64) (48 : Int64) (57 : Int64)) dX6_isDigit_11 h
def XX6_token_8 (z : Zt) (Q : Option Value → Me → Prop) : (Me) → Prop := fun t => Ev (wY, z) mtX6_token 2 45 34 [some (.ref 0), none, none] [] t Q
def EX6_token_8 (z : Zt) (Q : Option Value → Me → Prop) : (Me) → Prop := fun s => Ev (wY, z) mtX6_token 2 45 8 [some (.ref 0), none, none] [] s Q
def GX6_token_8 (z : Zt) (Q : Option Value → Me → Prop) : (Me) ⊕ (Me) → Prop := Sum.elim (EX6_token_8 z Q) (XX6_token_8 z Q)
def fpX6_token_l8s (M : Me) : Option ((Me) ⊕ (Me)) := (fpX6_byteAt (M.1 0 16) M).bind fun v2 =>
 (if v2 = (32 : Int32) then
 letv (wrM M 0 16 ((M.1 0 16) + (1 : Int32))) fun M4 =>
 some (.inl M4)
 else
 some (.inr M))
def fpX6_token_l8 (s : Me) : Option ((Me) ⊕ (Me)) := fpX6_token_l8s s
set_option maxRecDepth 20000 in
theorem ebX6_token_l8s {z : Zt} {Q : Option Value → Me → Prop} (M : Me) (h : ok (fpX6_token_l8s M) (GX6_token_8 z Q)) : Ev (wY, z) mtX6_token 2 45 8 [some (.ref 0), none, none] [] M Q := by
  unfold fpX6_token_l8s at h
  refine e_aload_n dX6_token_8 rfl ?_
  refine e_aload_n dX6_token_9 rfl ?_
  refine e_getI fa_RX6_210 is_Y0 dX6_token_10 ?_
  refine e_callV (f2 := 0) (l2 := 0) (ν := mtX6_byteAt) (as := [.int (M.1 0 16)]) cv_RX6_213 is_Y0 kc_7 ⟨Nat.le_of_ble_eq_true rfl, Nat.le_of_ble_eq_true rfl⟩ rfl rfl (Nat.le_of_ble_eq_true rfl) dX6_token_13 ?_
  refine ctX6_byteAt (M.1 0 16) (ok_bnd h (fun v2 h => ?_))
  show Ev (wY, z) mtX6_token 2 45 16 [some (.ref 0), none, none] [.int v2] M Q
  refine e_bipush (32 : Int32) dX6_token_16 (by decide) ?_
  refine e_icmp_ne 34 dX6_token_18 (by decide) (fun c3 => ?_) (fun c3 => ?_)
  · have h := ok_f c3 h
    refine e_forget [some (.ref 0), none, none] (leL_s (leL_n (leL_n leL_0))) ?_
    have h := ok_some h
    exact h
  · have h := ok_t c3 h
    refine e_aload_n dX6_token_21 rfl ?_
    refine e_dup dX6_token_22 rfl ?_
    refine e_getI fa_RX6_210 is_Y0 dX6_token_23 ?_
    refine e_iconst (1 : Int32) dX6_token_26 (by decide) ?_
    refine e_iadd dX6_token_27 ?_
    refine e_putI fw_RX6_210 is_Y0 dX6_token_28 ?_
    refine lv1 (P := fun M4 => Ev (wY, z) mtX6_token 2 45 31 [some (.ref 0), none, none] [] M4 Q) h (fun M4 h => ?_)
    refine e_goto 8 dX6_token_31 (by decide) ?_
    refine e_forget [some (.ref 0), none, none] (leL_s (leL_n (leL_n leL_0))) ?_
    have h := ok_some h
    exact h
theorem elX6_token_l8 {z : Zt} {Q : Option Value → Me → Prop} (N : Nat) (s : Me) (h : ok (lp (fpX6_token_l8) N s) (XX6_token_8 z Q)) : EX6_token_8 z Q s :=
  lp_ind (fun s h => ebX6_token_l8s s h) N s h
def XX6_token_86 (z : Zt) (a1 : Int32) (a2 : Int32) (Q : Option Value → Me → Prop) : (Me) → Prop := fun t => Ev (wY, z) mtX6_token 2 45 135 [none, none, none] [] t Q
def EX6_token_86 (z : Zt) (a1 : Int32) (a2 : Int32) (Q : Option Value → Me → Prop) : (Me) → Prop := fun s => Ev (wY, z) mtX6_token 2 45 86 [some (.ref 0), some (.int a1), some (.int a2)] [] s Q
def GX6_token_86 (z : Zt) (a1 : Int32) (a2 : Int32) (Q : Option Value → Me → Prop) : (Me) ⊕ (Me) → Prop := Sum.elim (EX6_token_86 z a1 a2 Q) (XX6_token_86 z a1 a2 Q)
def fpX6_token_b104_86 (a1 : Int32) (a2 : Int32) (M : Me) : Option ((Me) ⊕ (Me)) := (if a2 = 0 then
 some (.inr M)
 else
 (fpX6_byteAt (M.1 0 17) M).bind fun v14 =>
 (if (fpX6_isDigit v14) = 0 then
 some (.inr M)
 else
 letv (wrM M 0 17 ((M.1 0 17) + (1 : Int32))) fun M16 =>
 some (.inl M16)))
set_option maxRecDepth 20000 in
theorem ebX6_token_b104_86 {z : Zt} {Q : Option Value → Me → Prop} (a1 : Int32) (a2 : Int32) (M : Me) (h : ok (fpX6_token_b104_86 a1 a2 M) (GX6_token_86 z a1 a2 Q)) : Ev (wY, z) mtX6_token 2 45 104 [some (.ref 0), some (.int a1), some (.int a2)] [] M Q := by
  unfold fpX6_token_b104_86 at h
  refine e_iload_n dX6_token_104 rfl ?_
  refine e_if_eq 135 dX6_token_105 (by decide) (fun c13 => ?_) (fun c13 => ?_)
  · have h := ok_t c13 h
    refine e_forget [none, none, none] (leL_n (leL_n (leL_n leL_0))) ?_
    have h := ok_some h
    exact h
  · have h := ok_f c13 h
    refine e_aload_n dX6_token_108 rfl ?_
    refine e_aload_n dX6_token_109 rfl ?_
    refine e_getI fa_RX6_207 is_Y0 dX6_token_110 ?_
    refine e_callV (f2 := 0) (l2 := 0) (ν := mtX6_byteAt) (as := [.int (M.1 0 17)]) cv_RX6_213 is_Y0 kc_7 ⟨Nat.le_of_ble_eq_true rfl, Nat.le_of_ble_eq_true rfl⟩ rfl rfl (Nat.le_of_ble_eq_true rfl) dX6_token_113 ?_
    refine ctX6_byteAt (M.1 0 17) (ok_bnd h (fun v14 h => ?_))
    show Ev (wY, z) mtX6_token 2 45 116 [some (.ref 0), some (.int a1), some (.int a2)] [.int v14] M Q
    refine e_callS (f2 := 1) (l2 := 25) (ν := mtX6_isDigit) (as := [.int v14]) cs_RX6_219 ⟨Nat.le_of_ble_eq_true rfl, Nat.le_of_ble_eq_true rfl⟩ rfl rfl (Nat.le_of_ble_eq_true rfl) dX6_token_116 ?_
    refine ctX6_isDigit v14 ?_
    show Ev (wY, z) mtX6_token 2 45 119 [some (.ref 0), some (.int a1), some (.int a2)] [.int (fpX6_isDigit v14)] M Q
    refine e_if_eq 135 dX6_token_119 (by decide) (fun c15 => ?_) (fun c15 => ?_)
    · have h := ok_t c15 h
      refine e_forget [none, none, none] (leL_n (leL_n (leL_n leL_0))) ?_
      have h := ok_some h
      exact h
    · have h := ok_f c15 h
      refine e_aload_n dX6_token_122 rfl ?_
      refine e_dup dX6_token_123 rfl ?_
      refine e_getI fa_RX6_207 is_Y0 dX6_token_124 ?_
      refine e_iconst (1 : Int32) dX6_token_127 (by decide) ?_
      refine e_iadd dX6_token_128 ?_
      refine e_putI fw_RX6_207 is_Y0 dX6_token_129 ?_
      refine lv1 (P := fun M16 => Ev (wY, z) mtX6_token 2 45 132 [some (.ref 0), some (.int a1), some (.int a2)] [] M16 Q) h (fun M16 h => ?_)
      refine e_goto 86 dX6_token_132 (by decide) ?_
      refine e_forget [some (.ref 0), some (.int a1), some (.int a2)] (leL_s (leL_s (leL_s leL_0))) ?_
      have h := ok_some h
      exact h
def fpX6_token_l86s (a1 : Int32) (a2 : Int32) (M : Me) : Option ((Me) ⊕ (Me)) := (if a1 = 0 then
 fpX6_token_b104_86 a1 a2 M
 else
 (fpX6_byteAt (M.1 0 17) M).bind fun v17 =>
 (if (fpX6_isLetter v17) = 0 then
 fpX6_token_b104_86 a1 a2 M
 else
 letv (wrM M 0 17 ((M.1 0 17) + (1 : Int32))) fun M19 =>
 some (.inl M19)))
def fpX6_token_l86 (a1 : Int32) (a2 : Int32) (s : Me) : Option ((Me) ⊕ (Me)) := fpX6_token_l86s a1 a2 s
set_option maxRecDepth 20000 in
theorem ebX6_token_l86s {z : Zt} {Q : Option Value → Me → Prop} (a1 : Int32) (a2 : Int32) (M : Me) (h : ok (fpX6_token_l86s a1 a2 M) (GX6_token_86 z a1 a2 Q)) : Ev (wY, z) mtX6_token 2 45 86 [some (.ref 0), some (.int a1), some (.int a2)] [] M Q := by
  unfold fpX6_token_l86s at h
  refine e_iload_n dX6_token_86 rfl ?_
  refine e_if_eq 104 dX6_token_87 (by decide) (fun c12 => ?_) (fun c12 => ?_)
  · have h := ok_t c12 h
    refine e_forget [some (.ref 0), some (.int a1), some (.int a2)] (leL_s (leL_s (leL_s leL_0))) ?_
    exact ebX6_token_b104_86 a1 a2 M h
  · have h := ok_f c12 h
    refine e_aload_n dX6_token_90 rfl ?_
    refine e_aload_n dX6_token_91 rfl ?_
    refine e_getI fa_RX6_207 is_Y0 dX6_token_92 ?_
    refine e_callV (f2 := 0) (l2 := 0) (ν := mtX6_byteAt) (as := [.int (M.1 0 17)]) cv_RX6_213 is_Y0 kc_7 ⟨Nat.le_of_ble_eq_true rfl, Nat.le_of_ble_eq_true rfl⟩ rfl rfl (Nat.le_of_ble_eq_true rfl) dX6_token_95 ?_
    refine ctX6_byteAt (M.1 0 17) (ok_bnd h (fun v17 h => ?_))
    show Ev (wY, z) mtX6_token 2 45 98 [some (.ref 0), some (.int a1), some (.int a2)] [.int v17] M Q
    refine e_callS (f2 := 1) (l2 := 25) (ν := mtX6_isLetter) (as := [.int v17]) cs_RX6_216 ⟨Nat.le_of_ble_eq_true rfl, Nat.le_of_ble_eq_true rfl⟩ rfl rfl (Nat.le_of_ble_eq_true rfl) dX6_token_98 ?_
    refine ctX6_isLetter v17 ?_
    show Ev (wY, z) mtX6_token 2 45 101 [some (.ref 0), some (.int a1), some (.int a2)] [.int (fpX6_isLetter v17)] M Q
    refine e_if_ne 122 dX6_token_101 (by decide) (fun c18 => ?_) (fun c18 => ?_)
    · have h := ok_f c18 h
      refine e_aload_n dX6_token_122 rfl ?_
      refine e_dup dX6_token_123 rfl ?_
      refine e_getI fa_RX6_207 is_Y0 dX6_token_124 ?_
      refine e_iconst (1 : Int32) dX6_token_127 (by decide) ?_
      refine e_iadd dX6_token_128 ?_
      refine e_putI fw_RX6_207 is_Y0 dX6_token_129 ?_
      refine lv1 (P := fun M19 => Ev (wY, z) mtX6_token 2 45 132 [some (.ref 0), some (.int a1), some (.int a2)] [] M19 Q) h (fun M19 h => ?_)
      refine e_goto 86 dX6_token_132 (by decide) ?_
      refine e_forget [some (.ref 0), some (.int a1), some (.int a2)] (leL_s (leL_s (leL_s leL_0))) ?_
      have h := ok_some h
      exact h
    · have h := ok_t c18 h
      refine e_forget [some (.ref 0), some (.int a1), some (.int a2)] (leL_s (leL_s (leL_s leL_0))) ?_
      exact ebX6_token_b104_86 a1 a2 M h
theorem elX6_token_l86 {z : Zt} {Q : Option Value → Me → Prop} (a1 : Int32) (a2 : Int32) (N : Nat) (s : Me) (h : ok (lp (fpX6_token_l86 a1 a2) N s) (XX6_token_86 z a1 a2 Q)) : EX6_token_86 z a1 a2 Q s :=
  lp_ind (fun s h => ebX6_token_l86s a1 a2 s h) N s h
def fpX6_token_b83 (a1 : Int32) (a2 : Int32) (t1 : Int32) (M : Me) : Option (Me) := letv (wrM M 0 17 t1) fun M11 =>
 (lp (fpX6_token_l86 a1 a2) FU M11).bind fun r20 =>
 some r20
set_option maxRecDepth 20000 in
theorem ebX6_token_b83 {z : Zt} {Q : Option Value → Me → Prop} (a1 : Int32) (a2 : Int32) (t1 : Int32) (M : Me) (h : ok (fpX6_token_b83 a1 a2 t1 M) (fun a => Q none a)) : Ev (wY, z) mtX6_token 2 45 83 [some (.ref 0), some (.int a1), some (.int a2)] [.int t1, .ref 0] M Q := by
  unfold fpX6_token_b83 at h
  refine e_putI fw_RX6_207 is_Y0 dX6_token_83 ?_
  refine lv1 (P := fun M11 => Ev (wY, z) mtX6_token 2 45 86 [some (.ref 0), some (.int a1), some (.int a2)] [] M11 Q) h (fun M11 h => ?_)
  refine e_forget [some (.ref 0), some (.int a1), some (.int a2)] (leL_s (leL_s (leL_s leL_0))) ?_
  refine elX6_token_l86 a1 a2 FU M11 (ok_bnd h (fun r20 h => ?_))
  show Ev (wY, z) mtX6_token 2 45 135 [none, none, none] [] r20 Q
  have h := ok_some h
  exact e_vret rfl dX6_token_135 h
def fpX6_token  (M : Me) : Option (Me) := letv (wrM M 0 16 (M.1 0 17)) fun M1 =>
 (lp (fpX6_token_l8) FU M1).bind fun r5 =>
 (fpX6_byteAt (r5.1 0 16) r5).bind fun v6 =>
 letv (fpX6_isLetter v6) fun v7 =>
 (fpX6_byteAt (r5.1 0 16) r5).bind fun v8 =>
 letv (fpX6_isDigit v8) fun v9 =>
 (if (r5.1 0 15) ≤ (r5.1 0 16) then
 fpX6_token_b83 v7 v9 (r5.1 0 16) r5
 else
 fpX6_token_b83 v7 v9 ((r5.1 0 16) + (1 : Int32)) r5)
set_option maxRecDepth 20000 in
theorem ctX6_token {z : Zt} {M : Me} {Q : Option Value → Me → Prop}   (h : ok (fpX6_token M) (fun a => Q none a)) : EvM (wY, z) mtX6_token 2 45 [.ref 0] M Q := by
  refine evm_of [some (.ref 0), none, none] 2 (by decide +kernel) (Nat.le_of_ble_eq_true rfl) rfl ?_
  unfold fpX6_token at h
  refine e_aload_n dX6_token_0 rfl ?_
  refine e_aload_n dX6_token_1 rfl ?_
  refine e_getI fa_RX6_207 is_Y0 dX6_token_2 ?_
  refine e_putI fw_RX6_210 is_Y0 dX6_token_5 ?_
  refine lv1 (P := fun M1 => Ev (wY, z) mtX6_token 2 45 8 [some (.ref 0), none, none] [] M1 Q) h (fun M1 h => ?_)
  refine e_forget [some (.ref 0), none, none] (leL_s (leL_n (leL_n leL_0))) ?_
  refine elX6_token_l8 FU M1 (ok_bnd h (fun r5 h => ?_))
  show Ev (wY, z) mtX6_token 2 45 34 [some (.ref 0), none, none] [] r5 Q
  refine e_aload_n dX6_token_34 rfl ?_
  refine e_aload_n dX6_token_35 rfl ?_
  refine e_getI fa_RX6_210 is_Y0 dX6_token_36 ?_
  refine e_callV (f2 := 0) (l2 := 0) (ν := mtX6_byteAt) (as := [.int (r5.1 0 16)]) cv_RX6_213 is_Y0 kc_7 ⟨Nat.le_of_ble_eq_true rfl, Nat.le_of_ble_eq_true rfl⟩ rfl rfl (Nat.le_of_ble_eq_true rfl) dX6_token_39 ?_
  refine ctX6_byteAt (r5.1 0 16) (ok_bnd h (fun v6 h => ?_))
  show Ev (wY, z) mtX6_token 2 45 42 [some (.ref 0), none, none] [.int v6] r5 Q
  refine e_callS (f2 := 1) (l2 := 25) (ν := mtX6_isLetter) (as := [.int v6]) cs_RX6_216 ⟨Nat.le_of_ble_eq_true rfl, Nat.le_of_ble_eq_true rfl⟩ rfl rfl (Nat.le_of_ble_eq_true rfl) dX6_token_42 ?_
  refine ctX6_isLetter v6 ?_
  show Ev (wY, z) mtX6_token 2 45 45 [some (.ref 0), none, none] [.int (fpX6_isLetter v6)] r5 Q
  refine lv1 (P := fun v7 => Ev (wY, z) mtX6_token 2 45 45 [some (.ref 0), none, none] [.int v7] r5 Q) h (fun v7 h => ?_)
  refine e_istore_n dX6_token_45 (by decide) rfl ?_
  refine e_aload_n dX6_token_46 rfl ?_
  refine e_aload_n dX6_token_47 rfl ?_
  refine e_getI fa_RX6_210 is_Y0 dX6_token_48 ?_
  refine e_callV (f2 := 0) (l2 := 0) (ν := mtX6_byteAt) (as := [.int (r5.1 0 16)]) cv_RX6_213 is_Y0 kc_7 ⟨Nat.le_of_ble_eq_true rfl, Nat.le_of_ble_eq_true rfl⟩ rfl rfl (Nat.le_of_ble_eq_true rfl) dX6_token_51 ?_
  refine ctX6_byteAt (r5.1 0 16) (ok_bnd h (fun v8 h => ?_))
  show Ev (wY, z) mtX6_token 2 45 54 [some (.ref 0), some (.int v7), none] [.int v8] r5 Q
  refine e_callS (f2 := 1) (l2 := 25) (ν := mtX6_isDigit) (as := [.int v8]) cs_RX6_219 ⟨Nat.le_of_ble_eq_true rfl, Nat.le_of_ble_eq_true rfl⟩ rfl rfl (Nat.le_of_ble_eq_true rfl) dX6_token_54 ?_
  refine ctX6_isDigit v8 ?_
  show Ev (wY, z) mtX6_token 2 45 57 [some (.ref 0), some (.int v7), none] [.int (fpX6_isDigit v8)] r5 Q
  refine lv1 (P := fun v9 => Ev (wY, z) mtX6_token 2 45 57 [some (.ref 0), some (.int v7), none] [.int v9] r5 Q) h (fun v9 h => ?_)
  refine e_istore_n dX6_token_57 (by decide) rfl ?_
  refine e_aload_n dX6_token_58 rfl ?_
  refine e_aload_n dX6_token_59 rfl ?_
  refine e_getI fa_RX6_210 is_Y0 dX6_token_60 ?_
  refine e_aload_n dX6_token_63 rfl ?_
  refine e_getI fa_RX6_196 is_Y0 dX6_token_64 ?_
  refine e_icmp_ge 79 dX6_token_67 (by decide) (fun c10 => ?_) (fun c10 => ?_)
  · have h := ok_t c10 h
    refine e_aload_n dX6_token_79 rfl ?_
    refine e_getI fa_RX6_210 is_Y0 dX6_token_80 ?_
    refine e_forget [some (.ref 0), some (.int v7), some (.int v9)] (leL_s (leL_s (leL_s leL_0))) ?_
    exact ebX6_token_b83 v7 v9 (r5.1 0 16) r5 h
  · have h := ok_f c10 h
    refine e_aload_n dX6_token_70 rfl ?_
    refine e_getI fa_RX6_210 is_Y0 dX6_token_71 ?_
    refine e_iconst (1 : Int32) dX6_token_74 (by decide) ?_
    refine e_iadd dX6_token_75 ?_
    refine e_goto 83 dX6_token_76 (by decide) ?_
    refine e_forget [some (.ref 0), some (.int v7), some (.int v9)] (leL_s (leL_s (leL_s leL_0))) ?_
    exact ebX6_token_b83 v7 v9 ((r5.1 0 16) + (1 : Int32)) r5 h
def fpX6_wants_b17 (t1 : Int32) (M : Me) : Option (Me) := bz t1 <|
 letv (wrM M 0 19 t1) fun M3 =>
 (if (M3.1 0 19) = 0 then
 (fpX6_token M3).bind fun q5 =>
 some q5
 else
 some M3)
set_option maxRecDepth 20000 in
theorem ebX6_wants_b17 {z : Zt} {Q : Option Value → Me → Prop} (t1 : Int32) (M : Me) (h : ok (fpX6_wants_b17 t1 M) (fun a => Q none a)) : Ev (wY, z) mtX6_wants 3 67 17 [some (.ref 0), none] [.int t1, .ref 0] M Q := by
  unfold fpX6_wants_b17 at h
  obtain ⟨z2, h⟩ := ok_bz h
  refine e_putZ fw_RX6_222 is_Y0 z2 dX6_wants_17 ?_
  refine lv1 (P := fun M3 => Ev (wY, z) mtX6_wants 3 67 20 [some (.ref 0), none] [] M3 Q) h (fun M3 h => ?_)
  refine e_aload_n dX6_wants_20 rfl ?_
  refine e_getI fa_RX6_222 is_Y0 dX6_wants_21 ?_
  refine e_if_ne 31 dX6_wants_24 (by decide) (fun c4 => ?_) (fun c4 => ?_)
  · have h := ok_f c4 h
    have h := ok_some h
    exact e_vret rfl dX6_wants_31 h
  · have h := ok_t c4 h
    refine e_aload_n dX6_wants_27 rfl ?_
    refine e_callV (f2 := 2) (l2 := 45) (ν := mtX6_token) (as := []) cv_RX6_226 is_Y0 kc_7 ⟨Nat.le_of_ble_eq_true rfl, Nat.le_of_ble_eq_true rfl⟩ rfl rfl (Nat.le_of_ble_eq_true rfl) dX6_wants_28 ?_
    refine ctX6_token (ok_bnd h (fun q5 h => ?_))
    show Ev (wY, z) mtX6_wants 3 67 31 [some (.ref 0), none] [] q5 Q
    have h := ok_some h
    exact e_vret rfl dX6_wants_31 h
def fpX6_wants_b12 (M : Me) : Option (Me) := fpX6_wants_b17 (1 : Int32) M
set_option maxRecDepth 20000 in
theorem ebX6_wants_b12 {z : Zt} {Q : Option Value → Me → Prop} (M : Me) (h : ok (fpX6_wants_b12 M) (fun a => Q none a)) : Ev (wY, z) mtX6_wants 3 67 12 [some (.ref 0), none] [.ref 0] M Q := by
  unfold fpX6_wants_b12 at h
  refine e_iconst (1 : Int32) dX6_wants_12 (by decide) ?_
  refine e_goto 17 dX6_wants_13 (by decide) ?_
  refine e_forget [some (.ref 0), none] (leL_s (leL_n leL_0)) ?_
  exact ebX6_wants_b17 (1 : Int32) M h
def fpX6_wants (a1 : Int32) (M : Me) : Option (Me) := (if (M.1 0 19) = 0 then
 (if a1 = 0 then
 fpX6_wants_b12 M
 else
 fpX6_wants_b17 (0 : Int32) M)
 else
 fpX6_wants_b12 M)
set_option maxRecDepth 20000 in
theorem ctX6_wants {z : Zt} {M : Me} {Q : Option Value → Me → Prop} (a1 : Int32)  (h : ok (fpX6_wants a1 M) (fun a => Q none a)) : EvM (wY, z) mtX6_wants 3 67 [.ref 0, .int a1] M Q := by
  refine evm_of [some (.ref 0), some (.int a1)] 0 (by decide +kernel) (Nat.le_of_ble_eq_true rfl) rfl ?_
  unfold fpX6_wants at h
  refine e_aload_n dX6_wants_0 rfl ?_
  refine e_aload_n dX6_wants_1 rfl ?_
  refine e_getI fa_RX6_222 is_Y0 dX6_wants_2 ?_
  refine e_if_ne 12 dX6_wants_5 (by decide) (fun c1 => ?_) (fun c1 => ?_)
  · have h := ok_f c1 h
    refine e_forget [some (.ref 0), none] (leL_s (leL_n leL_0)) ?_
    exact ebX6_wants_b12 M h
  · have h := ok_t c1 h
    refine e_iload_n dX6_wants_8 rfl ?_
    refine e_if_ne 16 dX6_wants_9 (by decide) (fun c6 => ?_) (fun c6 => ?_)
    · have h := ok_f c6 h
      refine e_iconst (0 : Int32) dX6_wants_16 (by decide) ?_
      refine e_forget [some (.ref 0), none] (leL_s (leL_n leL_0)) ?_
      exact ebX6_wants_b17 (0 : Int32) M h
    · have h := ok_t c6 h
      refine e_forget [some (.ref 0), none] (leL_s (leL_n leL_0)) ?_
      exact ebX6_wants_b12 M h
def XX6_word_7 (z : Zt) (M : Me) (Q : Option Value → Me → Prop) : (Int64) → Prop := fun t => Ev (wY, z) mtX6_word 2 45 50 [some (.ref 0), some (.long t), none, none] [] M Q
def EX6_word_7 (z : Zt) (M : Me) (Q : Option Value → Me → Prop) : (Int64 × Int32) → Prop := fun s => Ev (wY, z) mtX6_word 2 45 7 [some (.ref 0), some (.long s.1), none, some (.int s.2)] [] M Q
def GX6_word_7 (z : Zt) (M : Me) (Q : Option Value → Me → Prop) : (Int64 × Int32) ⊕ (Int64) → Prop := Sum.elim (EX6_word_7 z M Q) (XX6_word_7 z M Q)
def fpX6_word_l7s (a1 : Int64) (a3 : Int32) (M : Me) : Option ((Int64 × Int32) ⊕ (Int64)) := (if (M.1 0 17) ≤ a3 then
 some (.inr a1)
 else
 (if (lg_cmp a1 (36028797018963967 : Int64)) ≤ 0 then
 (inb a3 120).bind fun k4 =>
 letv (((32 : Int64) * a1) + (((M.1 11 k4) - (96 : Int32)).toInt64)) fun v5 =>
 letv (a3 + (1 : Int32)) fun v6 =>
 some (.inl (v5, v6))
 else
 letv (a3 + (1 : Int32)) fun v7 =>
 some (.inl (a1, v7))))
def fpX6_word_l7 (M : Me) (s : Int64 × Int32) : Option ((Int64 × Int32) ⊕ (Int64)) := fpX6_word_l7s s.1 s.2 M
set_option maxRecDepth 20000 in
theorem ebX6_word_l7s {z : Zt} {Q : Option Value → Me → Prop} (a1 : Int64) (a3 : Int32) (M : Me) (h : ok (fpX6_word_l7s a1 a3 M) (GX6_word_7 z M Q)) : Ev (wY, z) mtX6_word 2 45 7 [some (.ref 0), some (.long a1), none, some (.int a3)] [] M Q := by
  unfold fpX6_word_l7s at h
  refine e_iload_n dX6_word_7 rfl ?_
  refine e_aload_n dX6_word_8 rfl ?_
  refine e_getI fa_RX6_207 is_Y0 dX6_word_9 ?_
  refine e_icmp_ge 50 dX6_word_12 (by decide) (fun c2 => ?_) (fun c2 => ?_)
  · have h := ok_t c2 h
    refine e_forget [some (.ref 0), some (.long a1), none, none] (leL_s (leL_s (leL_n (leL_n leL_0)))) ?_
    have h := ok_some h
    exact h
  · have h := ok_f c2 h
    refine e_lload_n dX6_word_15 rfl ?_
    refine e_ldc2 wk_RX6_229 dX6_word_16 ?_
    refine e_lcmp dX6_word_19 ?_
    refine e_if_le 27 dX6_word_20 (by decide) (fun c3 => ?_) (fun c3 => ?_)
    · have h := ok_t c3 h
      refine e_ldc2 wk_RX6_231 dX6_word_27 ?_
      refine e_lload_n dX6_word_30 rfl ?_
      refine e_lmul dX6_word_31 ?_
      refine e_aload_n dX6_word_32 rfl ?_
      refine e_getR fa_RX6_40 is_Y0 rfl dX6_word_33 ?_
      refine e_iload_n dX6_word_36 rfl ?_
      refine ok_inb h (fun k4 ek4 ik4 h => ?_)
      refine e_ialdK ia_Y11 ik4 ek4 dX6_word_37 ?_
      refine e_bipush (96 : Int32) dX6_word_38 (by decide) ?_
      refine e_isub dX6_word_40 ?_
      refine e_i2l dX6_word_41 ?_
      refine e_ladd dX6_word_42 ?_
      refine lv1 (P := fun v5 => Ev (wY, z) mtX6_word 2 45 43 [some (.ref 0), some (.long a1), none, some (.int a3)] [.long v5] M Q) h (fun v5 h => ?_)
      refine e_lstore_n dX6_word_43 (by decide) rfl ?_
      refine lv1e h (fun v6 ev6 h => ?_)
      refine e_iinc v6 dX6_word_44 rfl ev6 (by decide) rfl ?_
      refine e_goto 7 dX6_word_47 (by decide) ?_
      refine e_forget [some (.ref 0), some (.long v5), none, some (.int v6)] (leL_s (leL_s (leL_n (leL_s leL_0)))) ?_
      have h := ok_some h
      exact h
    · have h := ok_f c3 h
      refine e_lload_n dX6_word_23 rfl ?_
      refine e_goto 43 dX6_word_24 (by decide) ?_
      refine e_lstore_n dX6_word_43 (by decide) rfl ?_
      refine lv1e h (fun v7 ev7 h => ?_)
      refine e_iinc v7 dX6_word_44 rfl ev7 (by decide) rfl ?_
      refine e_goto 7 dX6_word_47 (by decide) ?_
      refine e_forget [some (.ref 0), some (.long a1), none, some (.int v7)] (leL_s (leL_s (leL_n (leL_s leL_0)))) ?_
      have h := ok_some h
      exact h
theorem elX6_word_l7 {z : Zt} {Q : Option Value → Me → Prop} (M : Me) (N : Nat) (s : Int64 × Int32) (h : ok (lp (fpX6_word_l7 M) N s) (XX6_word_7 z M Q)) : EX6_word_7 z M Q s :=
  lp_ind (fun s h => ebX6_word_l7s s.1 s.2 M h) N s h
def fpX6_word  (M : Me) : Option (Int64) := letv (M.1 0 16) fun v1 =>
 (lp (fpX6_word_l7 M) FU ((0 : Int64), v1)).bind fun r8 =>
 (if (M.1 0 19) = 0 then
 (fpX6_byteAt (M.1 0 16) M).bind fun v10 =>
 (if (fpX6_isLetter v10) = 0 then
 some (0 : Int64)
 else
 some r8)
 else
 some (0 : Int64))
set_option maxRecDepth 20000 in
theorem ctX6_word {z : Zt} {M : Me} {Q : Option Value → Me → Prop}   (h : ok (fpX6_word M) (fun a => Q (some (.long a)) M)) : EvM (wY, z) mtX6_word 2 45 [.ref 0] M Q := by
  refine evm_of [some (.ref 0), none, none, none] 3 (by decide +kernel) (Nat.le_of_ble_eq_true rfl) rfl ?_
  unfold fpX6_word at h
  refine e_lconst (0 : Int64) dX6_word_0 (by decide) ?_
  refine e_lstore_n dX6_word_1 (by decide) rfl ?_
  refine e_aload_n dX6_word_2 rfl ?_
  refine e_getI fa_RX6_210 is_Y0 dX6_word_3 ?_
  refine lv1 (P := fun v1 => Ev (wY, z) mtX6_word 2 45 6 [some (.ref 0), some (.long (0 : Int64)), none, none] [.int v1] M Q) h (fun v1 h => ?_)
  refine e_istore_n dX6_word_6 (by decide) rfl ?_
  refine e_forget [some (.ref 0), some (.long (0 : Int64)), none, some (.int v1)] (leL_s (leL_s (leL_n (leL_s leL_0)))) ?_
  refine elX6_word_l7 M FU ((0 : Int64), v1) (ok_bnd h (fun r8 h => ?_))
  show Ev (wY, z) mtX6_word 2 45 50 [some (.ref 0), some (.long r8), none, none] [] M Q
  refine e_aload_n dX6_word_50 rfl ?_
  refine e_getI fa_RX6_222 is_Y0 dX6_word_51 ?_
  refine e_if_ne 71 dX6_word_54 (by decide) (fun c9 => ?_) (fun c9 => ?_)
  · have h := ok_f c9 h
    refine e_lconst (0 : Int64) dX6_word_71 (by decide) ?_
    refine e_goto 76 dX6_word_72 (by decide) ?_
    have h := ok_some h
    exact e_lret rfl dX6_word_76 h
  · have h := ok_t c9 h
    refine e_aload_n dX6_word_57 rfl ?_
    refine e_aload_n dX6_word_58 rfl ?_
    refine e_getI fa_RX6_210 is_Y0 dX6_word_59 ?_
    refine e_callV (f2 := 0) (l2 := 0) (ν := mtX6_byteAt) (as := [.int (M.1 0 16)]) cv_RX6_213 is_Y0 kc_7 ⟨Nat.le_of_ble_eq_true rfl, Nat.le_of_ble_eq_true rfl⟩ rfl rfl (Nat.le_of_ble_eq_true rfl) dX6_word_62 ?_
    refine ctX6_byteAt (M.1 0 16) (ok_bnd h (fun v10 h => ?_))
    show Ev (wY, z) mtX6_word 2 45 65 [some (.ref 0), some (.long r8), none, none] [.int v10] M Q
    refine e_callS (f2 := 1) (l2 := 25) (ν := mtX6_isLetter) (as := [.int v10]) cs_RX6_216 ⟨Nat.le_of_ble_eq_true rfl, Nat.le_of_ble_eq_true rfl⟩ rfl rfl (Nat.le_of_ble_eq_true rfl) dX6_word_65 ?_
    refine ctX6_isLetter v10 ?_
    show Ev (wY, z) mtX6_word 2 45 68 [some (.ref 0), some (.long r8), none, none] [.int (fpX6_isLetter v10)] M Q
    refine e_if_ne 75 dX6_word_68 (by decide) (fun c11 => ?_) (fun c11 => ?_)
    · have h := ok_f c11 h
      refine e_lload_n dX6_word_75 rfl ?_
      have h := ok_some h
      exact e_lret rfl dX6_word_76 h
    · have h := ok_t c11 h
      refine e_lconst (0 : Int64) dX6_word_71 (by decide) ?_
      refine e_goto 76 dX6_word_72 (by decide) ?_
      have h := ok_some h
      exact e_lret rfl dX6_word_76 h
def XX6_number_29 (z : Zt) (a1 : Int32) (a2 : Int32) (a3 : Int32) (M : Me) (Q : Option Value → Me → Prop) : (Int32) → Prop := fun t => Ev (wY, z) mtX6_number 4 88 79 [some (.ref 0), some (.int a1), some (.int a2), some (.int a3), some (.int t), none] [] M Q
def EX6_number_29 (z : Zt) (a1 : Int32) (a2 : Int32) (a3 : Int32) (M : Me) (Q : Option Value → Me → Prop) : (Int32 × Int32) → Prop := fun s => Ev (wY, z) mtX6_number 4 88 29 [some (.ref 0), some (.int a1), some (.int a2), some (.int a3), some (.int s.1), some (.int s.2)] [] M Q
def GX6_number_29 (z : Zt) (a1 : Int32) (a2 : Int32) (a3 : Int32) (M : Me) (Q : Option Value → Me → Prop) : (Int32 × Int32) ⊕ (Int32) → Prop := Sum.elim (EX6_number_29 z a1 a2 a3 M Q) (XX6_number_29 z a1 a2 a3 M Q)
def fpX6_number_l29s (a1 : Int32) (a2 : Int32) (a3 : Int32) (a4 : Int32) (a5 : Int32) (M : Me) : Option ((Int32 × Int32) ⊕ (Int32)) := (if (M.1 0 17) ≤ a5 then
 some (.inr a4)
 else
 (if a3 = 0 then
 some (.inr a4)
 else
 (if a4 ≤ (999 : Int32) then
 (inb a5 120).bind fun k8 =>
 letv ((((10 : Int32) * a4) + (M.1 11 k8)) - (48 : Int32)) fun v9 =>
 letv (a5 + (1 : Int32)) fun v10 =>
 some (.inl (v9, v10))
 else
 letv (a5 + (1 : Int32)) fun v11 =>
 some (.inl (a4, v11)))))
def fpX6_number_l29 (a1 : Int32) (a2 : Int32) (a3 : Int32) (M : Me) (s : Int32 × Int32) : Option ((Int32 × Int32) ⊕ (Int32)) := fpX6_number_l29s a1 a2 a3 s.1 s.2 M
set_option maxRecDepth 20000 in
theorem ebX6_number_l29s {z : Zt} {Q : Option Value → Me → Prop} (a1 : Int32) (a2 : Int32) (a3 : Int32) (a4 : Int32) (a5 : Int32) (M : Me) (h : ok (fpX6_number_l29s a1 a2 a3 a4 a5 M) (GX6_number_29 z a1 a2 a3 M Q)) : Ev (wY, z) mtX6_number 4 88 29 [some (.ref 0), some (.int a1), some (.int a2), some (.int a3), some (.int a4), some (.int a5)] [] M Q := by
  unfold fpX6_number_l29s at h
  refine e_iload dX6_number_29 rfl ?_
  refine e_aload_n dX6_number_31 rfl ?_
  refine e_getI fa_RX6_207 is_Y0 dX6_number_32 ?_
  refine e_icmp_ge 79 dX6_number_35 (by decide) (fun c5 => ?_) (fun c5 => ?_)
  · have h := ok_t c5 h
    refine e_forget [some (.ref 0), some (.int a1), some (.int a2), some (.int a3), some (.int a4), none] (leL_s (leL_s (leL_s (leL_s (leL_s (leL_n leL_0)))))) ?_
    have h := ok_some h
    exact h
  · have h := ok_f c5 h
    refine e_iload_n dX6_number_38 rfl ?_
    refine e_if_eq 79 dX6_number_39 (by decide) (fun c6 => ?_) (fun c6 => ?_)
    · have h := ok_t c6 h
      refine e_forget [some (.ref 0), some (.int a1), some (.int a2), some (.int a3), some (.int a4), none] (leL_s (leL_s (leL_s (leL_s (leL_s (leL_n leL_0)))))) ?_
      have h := ok_some h
      exact h
    · have h := ok_f c6 h
      refine e_iload dX6_number_42 rfl ?_
      refine e_sipush (999 : Int32) dX6_number_44 (by decide) ?_
      refine e_icmp_le 55 dX6_number_47 (by decide) (fun c7 => ?_) (fun c7 => ?_)
      · have h := ok_t c7 h
        refine e_bipush (10 : Int32) dX6_number_55 (by decide) ?_
        refine e_iload dX6_number_57 rfl ?_
        refine e_imul dX6_number_59 ?_
        refine e_aload_n dX6_number_60 rfl ?_
        refine e_getR fa_RX6_40 is_Y0 rfl dX6_number_61 ?_
        refine e_iload dX6_number_64 rfl ?_
        refine ok_inb h (fun k8 ek8 ik8 h => ?_)
        refine e_ialdK ia_Y11 ik8 ek8 dX6_number_66 ?_
        refine e_iadd dX6_number_67 ?_
        refine e_bipush (48 : Int32) dX6_number_68 (by decide) ?_
        refine e_isub dX6_number_70 ?_
        refine lv1 (P := fun v9 => Ev (wY, z) mtX6_number 4 88 71 [some (.ref 0), some (.int a1), some (.int a2), some (.int a3), some (.int a4), some (.int a5)] [.int v9] M Q) h (fun v9 h => ?_)
        refine e_istore dX6_number_71 (by decide) rfl ?_
        refine lv1e h (fun v10 ev10 h => ?_)
        refine e_iinc v10 dX6_number_73 rfl ev10 (by decide) rfl ?_
        refine e_goto 29 dX6_number_76 (by decide) ?_
        refine e_forget [some (.ref 0), some (.int a1), some (.int a2), some (.int a3), some (.int v9), some (.int v10)] (leL_s (leL_s (leL_s (leL_s (leL_s (leL_s leL_0)))))) ?_
        have h := ok_some h
        exact h
      · have h := ok_f c7 h
        refine e_iload dX6_number_50 rfl ?_
        refine e_goto 71 dX6_number_52 (by decide) ?_
        refine e_istore dX6_number_71 (by decide) rfl ?_
        refine lv1e h (fun v11 ev11 h => ?_)
        refine e_iinc v11 dX6_number_73 rfl ev11 (by decide) rfl ?_
        refine e_goto 29 dX6_number_76 (by decide) ?_
        refine e_forget [some (.ref 0), some (.int a1), some (.int a2), some (.int a3), some (.int a4), some (.int v11)] (leL_s (leL_s (leL_s (leL_s (leL_s (leL_s leL_0)))))) ?_
        have h := ok_some h
        exact h
theorem elX6_number_l29 {z : Zt} {Q : Option Value → Me → Prop} (a1 : Int32) (a2 : Int32) (a3 : Int32) (M : Me) (N : Nat) (s : Int32 × Int32) (h : ok (lp (fpX6_number_l29 a1 a2 a3 M) N s) (XX6_number_29 z a1 a2 a3 M Q)) : EX6_number_29 z a1 a2 a3 M Q s :=
  lp_ind (fun s h => ebX6_number_l29s a1 a2 a3 s.1 s.2 M h) N s h
def fpX6_number_b79 (a1 : Int32) (a2 : Int32) (a3 : Int32) (a4 : Int32) (M : Me) : Option (Me) := letv (wrM M 0 18 a4) fun M13 =>
 (if a3 = 0 then
 (fpX6_wants (0 : Int32) M13).bind fun q15 =>
 some q15
 else
 (if (fpX6_in (a4.toInt64) (a1.toInt64) (a2.toInt64)) = 0 then
 (fpX6_wants (0 : Int32) M13).bind fun q17 =>
 some q17
 else
 (fpX6_wants (1 : Int32) M13).bind fun q18 =>
 some q18))
set_option maxRecDepth 20000 in
theorem ebX6_number_b79 {z : Zt} {Q : Option Value → Me → Prop} (a1 : Int32) (a2 : Int32) (a3 : Int32) (a4 : Int32) (M : Me) (h : ok (fpX6_number_b79 a1 a2 a3 a4 M) (fun a => Q none a)) : Ev (wY, z) mtX6_number 4 88 79 [some (.ref 0), some (.int a1), some (.int a2), some (.int a3), some (.int a4), none] [] M Q := by
  unfold fpX6_number_b79 at h
  refine e_aload_n dX6_number_79 rfl ?_
  refine e_iload dX6_number_80 rfl ?_
  refine e_putI fw_RX6_233 is_Y0 dX6_number_82 ?_
  refine lv1 (P := fun M13 => Ev (wY, z) mtX6_number 4 88 85 [some (.ref 0), some (.int a1), some (.int a2), some (.int a3), some (.int a4), none] [] M13 Q) h (fun M13 h => ?_)
  refine e_aload_n dX6_number_85 rfl ?_
  refine e_iload_n dX6_number_86 rfl ?_
  refine e_if_eq 107 dX6_number_87 (by decide) (fun c14 => ?_) (fun c14 => ?_)
  · have h := ok_t c14 h
    refine e_iconst (0 : Int32) dX6_number_107 (by decide) ?_
    refine e_callV (f2 := 3) (l2 := 67) (ν := mtX6_wants) (as := [.int (0 : Int32)]) cv_RX6_236 is_Y0 kc_7 ⟨Nat.le_of_ble_eq_true rfl, Nat.le_of_ble_eq_true rfl⟩ rfl rfl (Nat.le_of_ble_eq_true rfl) dX6_number_108 ?_
    refine ctX6_wants (0 : Int32) (ok_bnd h (fun q15 h => ?_))
    show Ev (wY, z) mtX6_number 4 88 111 [some (.ref 0), some (.int a1), some (.int a2), some (.int a3), some (.int a4), none] [] q15 Q
    have h := ok_some h
    exact e_vret rfl dX6_number_111 h
  · have h := ok_f c14 h
    refine e_iload dX6_number_90 rfl ?_
    refine e_i2l dX6_number_92 ?_
    refine e_iload_n dX6_number_93 rfl ?_
    refine e_i2l dX6_number_94 ?_
    refine e_iload_n dX6_number_95 rfl ?_
    refine e_i2l dX6_number_96 ?_
    refine e_callS (f2 := 0) (l2 := 0) (ν := mtX6_in) (as := [.long (a4.toInt64), .long (a1.toInt64), .long (a2.toInt64)]) cs_RX6_58 ⟨Nat.le_of_ble_eq_true rfl, Nat.le_of_ble_eq_true rfl⟩ rfl rfl (Nat.le_of_ble_eq_true rfl) dX6_number_97 ?_
    refine ctX6_in (a4.toInt64) (a1.toInt64) (a2.toInt64) ?_
    show Ev (wY, z) mtX6_number 4 88 100 [some (.ref 0), some (.int a1), some (.int a2), some (.int a3), some (.int a4), none] [.int (fpX6_in (a4.toInt64) (a1.toInt64) (a2.toInt64)), .ref 0] M13 Q
    refine e_if_eq 107 dX6_number_100 (by decide) (fun c16 => ?_) (fun c16 => ?_)
    · have h := ok_t c16 h
      refine e_iconst (0 : Int32) dX6_number_107 (by decide) ?_
      refine e_callV (f2 := 3) (l2 := 67) (ν := mtX6_wants) (as := [.int (0 : Int32)]) cv_RX6_236 is_Y0 kc_7 ⟨Nat.le_of_ble_eq_true rfl, Nat.le_of_ble_eq_true rfl⟩ rfl rfl (Nat.le_of_ble_eq_true rfl) dX6_number_108 ?_
      refine ctX6_wants (0 : Int32) (ok_bnd h (fun q17 h => ?_))
      show Ev (wY, z) mtX6_number 4 88 111 [some (.ref 0), some (.int a1), some (.int a2), some (.int a3), some (.int a4), none] [] q17 Q
      have h := ok_some h
      exact e_vret rfl dX6_number_111 h
    · have h := ok_f c16 h
      refine e_iconst (1 : Int32) dX6_number_103 (by decide) ?_
      refine e_goto 108 dX6_number_104 (by decide) ?_
      refine e_callV (f2 := 3) (l2 := 67) (ν := mtX6_wants) (as := [.int (1 : Int32)]) cv_RX6_236 is_Y0 kc_7 ⟨Nat.le_of_ble_eq_true rfl, Nat.le_of_ble_eq_true rfl⟩ rfl rfl (Nat.le_of_ble_eq_true rfl) dX6_number_108 ?_
      refine ctX6_wants (1 : Int32) (ok_bnd h (fun q18 h => ?_))
      show Ev (wY, z) mtX6_number 4 88 111 [some (.ref 0), some (.int a1), some (.int a2), some (.int a3), some (.int a4), none] [] q18 Q
      have h := ok_some h
      exact e_vret rfl dX6_number_111 h
def fpX6_number (a1 : Int32) (a2 : Int32) (M : Me) : Option (Me) := (if (M.1 0 19) = 0 then
 (fpX6_byteAt (M.1 0 16) M).bind fun v2 =>
 letv (fpX6_isDigit v2) fun v3 =>
 letv (M.1 0 16) fun v4 =>
 (lp (fpX6_number_l29 a1 a2 v3 M) FU ((0 : Int32), v4)).bind fun r12 =>
 fpX6_number_b79 a1 a2 v3 r12 M
 else
 some M)
set_option maxRecDepth 20000 in
theorem ctX6_number {z : Zt} {M : Me} {Q : Option Value → Me → Prop} (a1 : Int32) (a2 : Int32)  (h : ok (fpX6_number a1 a2 M) (fun a => Q none a)) : EvM (wY, z) mtX6_number 4 88 [.ref 0, .int a1, .int a2] M Q := by
  refine evm_of [some (.ref 0), some (.int a1), some (.int a2), none, none, none] 3 (by decide +kernel) (Nat.le_of_ble_eq_true rfl) rfl ?_
  unfold fpX6_number at h
  refine e_aload_n dX6_number_0 rfl ?_
  refine e_getI fa_RX6_222 is_Y0 dX6_number_1 ?_
  refine e_if_eq 8 dX6_number_4 (by decide) (fun c1 => ?_) (fun c1 => ?_)
  · have h := ok_t c1 h
    refine e_aload_n dX6_number_8 rfl ?_
    refine e_aload_n dX6_number_9 rfl ?_
    refine e_getI fa_RX6_210 is_Y0 dX6_number_10 ?_
    refine e_callV (f2 := 0) (l2 := 0) (ν := mtX6_byteAt) (as := [.int (M.1 0 16)]) cv_RX6_213 is_Y0 kc_7 ⟨Nat.le_of_ble_eq_true rfl, Nat.le_of_ble_eq_true rfl⟩ rfl rfl (Nat.le_of_ble_eq_true rfl) dX6_number_13 ?_
    refine ctX6_byteAt (M.1 0 16) (ok_bnd h (fun v2 h => ?_))
    show Ev (wY, z) mtX6_number 4 88 16 [some (.ref 0), some (.int a1), some (.int a2), none, none, none] [.int v2] M Q
    refine e_callS (f2 := 1) (l2 := 25) (ν := mtX6_isDigit) (as := [.int v2]) cs_RX6_219 ⟨Nat.le_of_ble_eq_true rfl, Nat.le_of_ble_eq_true rfl⟩ rfl rfl (Nat.le_of_ble_eq_true rfl) dX6_number_16 ?_
    refine ctX6_isDigit v2 ?_
    show Ev (wY, z) mtX6_number 4 88 19 [some (.ref 0), some (.int a1), some (.int a2), none, none, none] [.int (fpX6_isDigit v2)] M Q
    refine lv1 (P := fun v3 => Ev (wY, z) mtX6_number 4 88 19 [some (.ref 0), some (.int a1), some (.int a2), none, none, none] [.int v3] M Q) h (fun v3 h => ?_)
    refine e_istore_n dX6_number_19 (by decide) rfl ?_
    refine e_iconst (0 : Int32) dX6_number_20 (by decide) ?_
    refine e_istore dX6_number_21 (by decide) rfl ?_
    refine e_aload_n dX6_number_23 rfl ?_
    refine e_getI fa_RX6_210 is_Y0 dX6_number_24 ?_
    refine lv1 (P := fun v4 => Ev (wY, z) mtX6_number 4 88 27 [some (.ref 0), some (.int a1), some (.int a2), some (.int v3), some (.int (0 : Int32)), none] [.int v4] M Q) h (fun v4 h => ?_)
    refine e_istore dX6_number_27 (by decide) rfl ?_
    refine e_forget [some (.ref 0), some (.int a1), some (.int a2), some (.int v3), some (.int (0 : Int32)), some (.int v4)] (leL_s (leL_s (leL_s (leL_s (leL_s (leL_s leL_0)))))) ?_
    refine elX6_number_l29 a1 a2 v3 M FU ((0 : Int32), v4) (ok_bnd h (fun r12 h => ?_))
    show Ev (wY, z) mtX6_number 4 88 79 [some (.ref 0), some (.int a1), some (.int a2), some (.int v3), some (.int r12), none] [] M Q
    refine e_forget [some (.ref 0), some (.int a1), some (.int a2), some (.int v3), some (.int r12), none] (leL_s (leL_s (leL_s (leL_s (leL_s (leL_n leL_0)))))) ?_
    exact ebX6_number_b79 a1 a2 v3 r12 M h
  · have h := ok_f c1 h
    have h := ok_some h
    exact e_vret rfl dX6_number_7 h
def fpX6_kindHere  (M : Me) : Option (Int32) := (fpX6_word M).bind fun v1 =>
 (if (lg_cmp v1 (546224 : Int64)) = 0 then
 some (0 : Int32)
 else
 (if (lg_cmp v1 (136368 : Int64)) = 0 then
 some (1 : Int32)
 else
 (if (lg_cmp v1 (654910919 : Int64)) = 0 then
 some (2 : Int32)
 else
 (if (lg_cmp v1 (21285028 : Int64)) = 0 then
 some (3 : Int32)
 else
 (if (lg_cmp v1 (645974180 : Int64)) = 0 then
 some (4 : Int32)
 else
 (if (lg_cmp v1 (14481302983 : Int64)) = 0 then
 some (5 : Int32)
 else
 (if (lg_cmp v1 (6333908 : Int64)) = 0 then
 some (6 : Int32)
 else
 some (-1 : Int32))))))))
set_option maxRecDepth 20000 in
theorem ctX6_kindHere {z : Zt} {M : Me} {Q : Option Value → Me → Prop}   (h : ok (fpX6_kindHere M) (fun a => Q (some (.int a)) M)) : EvM (wY, z) mtX6_kindHere 3 68 [.ref 0] M Q := by
  refine evm_of [some (.ref 0), none, none] 2 (by decide +kernel) (Nat.le_of_ble_eq_true rfl) rfl ?_
  unfold fpX6_kindHere at h
  refine e_aload_n dX6_kindHere_0 rfl ?_
  refine e_callV (f2 := 2) (l2 := 45) (ν := mtX6_word) (as := []) cv_RX6_240 is_Y0 kc_7 ⟨Nat.le_of_ble_eq_true rfl, Nat.le_of_ble_eq_true rfl⟩ rfl rfl (Nat.le_of_ble_eq_true rfl) dX6_kindHere_1 ?_
  refine ctX6_word (ok_bnd h (fun v1 h => ?_))
  show Ev (wY, z) mtX6_kindHere 3 68 4 [some (.ref 0), none, none] [.long v1] M Q
  refine e_lstore_n dX6_kindHere_4 (by decide) rfl ?_
  refine e_lload_n dX6_kindHere_5 rfl ?_
  refine e_ldc2 wk_RX6_244 dX6_kindHere_6 ?_
  refine e_lcmp dX6_kindHere_9 ?_
  refine e_if_ne 17 dX6_kindHere_10 (by decide) (fun c2 => ?_) (fun c2 => ?_)
  · have h := ok_f c2 h
    refine e_lload_n dX6_kindHere_17 rfl ?_
    refine e_ldc2 wk_RX6_246 dX6_kindHere_18 ?_
    refine e_lcmp dX6_kindHere_21 ?_
    refine e_if_ne 29 dX6_kindHere_22 (by decide) (fun c3 => ?_) (fun c3 => ?_)
    · have h := ok_f c3 h
      refine e_lload_n dX6_kindHere_29 rfl ?_
      refine e_ldc2 wk_RX6_248 dX6_kindHere_30 ?_
      refine e_lcmp dX6_kindHere_33 ?_
      refine e_if_ne 41 dX6_kindHere_34 (by decide) (fun c4 => ?_) (fun c4 => ?_)
      · have h := ok_f c4 h
        refine e_lload_n dX6_kindHere_41 rfl ?_
        refine e_ldc2 wk_RX6_250 dX6_kindHere_42 ?_
        refine e_lcmp dX6_kindHere_45 ?_
        refine e_if_ne 53 dX6_kindHere_46 (by decide) (fun c5 => ?_) (fun c5 => ?_)
        · have h := ok_f c5 h
          refine e_lload_n dX6_kindHere_53 rfl ?_
          refine e_ldc2 wk_RX6_252 dX6_kindHere_54 ?_
          refine e_lcmp dX6_kindHere_57 ?_
          refine e_if_ne 65 dX6_kindHere_58 (by decide) (fun c6 => ?_) (fun c6 => ?_)
          · have h := ok_f c6 h
            refine e_lload_n dX6_kindHere_65 rfl ?_
            refine e_ldc2 wk_RX6_254 dX6_kindHere_66 ?_
            refine e_lcmp dX6_kindHere_69 ?_
            refine e_if_ne 77 dX6_kindHere_70 (by decide) (fun c7 => ?_) (fun c7 => ?_)
            · have h := ok_f c7 h
              refine e_lload_n dX6_kindHere_77 rfl ?_
              refine e_ldc2 wk_RX6_256 dX6_kindHere_78 ?_
              refine e_lcmp dX6_kindHere_81 ?_
              refine e_if_ne 90 dX6_kindHere_82 (by decide) (fun c8 => ?_) (fun c8 => ?_)
              · have h := ok_f c8 h
                refine e_iconst (-1 : Int32) dX6_kindHere_90 (by decide) ?_
                have h := ok_some h
                exact e_iret rfl dX6_kindHere_91 h
              · have h := ok_t c8 h
                refine e_bipush (6 : Int32) dX6_kindHere_85 (by decide) ?_
                refine e_goto 91 dX6_kindHere_87 (by decide) ?_
                have h := ok_some h
                exact e_iret rfl dX6_kindHere_91 h
            · have h := ok_t c7 h
              refine e_iconst (5 : Int32) dX6_kindHere_73 (by decide) ?_
              refine e_goto 91 dX6_kindHere_74 (by decide) ?_
              have h := ok_some h
              exact e_iret rfl dX6_kindHere_91 h
          · have h := ok_t c6 h
            refine e_iconst (4 : Int32) dX6_kindHere_61 (by decide) ?_
            refine e_goto 91 dX6_kindHere_62 (by decide) ?_
            have h := ok_some h
            exact e_iret rfl dX6_kindHere_91 h
        · have h := ok_t c5 h
          refine e_iconst (3 : Int32) dX6_kindHere_49 (by decide) ?_
          refine e_goto 91 dX6_kindHere_50 (by decide) ?_
          have h := ok_some h
          exact e_iret rfl dX6_kindHere_91 h
      · have h := ok_t c4 h
        refine e_iconst (2 : Int32) dX6_kindHere_37 (by decide) ?_
        refine e_goto 91 dX6_kindHere_38 (by decide) ?_
        have h := ok_some h
        exact e_iret rfl dX6_kindHere_91 h
    · have h := ok_t c3 h
      refine e_iconst (1 : Int32) dX6_kindHere_25 (by decide) ?_
      refine e_goto 91 dX6_kindHere_26 (by decide) ?_
      have h := ok_some h
      exact e_iret rfl dX6_kindHere_91 h
  · have h := ok_t c2 h
    refine e_iconst (0 : Int32) dX6_kindHere_13 (by decide) ?_
    refine e_goto 91 dX6_kindHere_14 (by decide) ?_
    have h := ok_some h
    exact e_iret rfl dX6_kindHere_91 h
def fpX6_perhaps (a1 : Int32) (a2 : Int32) (a3 : Int32) (a4 : Int32) (M : Me) : Option (Int32 × Me) := (if a1 = 0 then
 some (a4, M)
 else
 (fpX6_wants (1 : Int32) M).bind fun q2 =>
 (fpX6_number a2 a3 q2).bind fun q3 =>
 some ((q3.1 0 18), q3))
set_option maxRecDepth 20000 in
theorem ctX6_perhaps {z : Zt} {M : Me} {Q : Option Value → Me → Prop} (a1 : Int32) (a2 : Int32) (a3 : Int32) (a4 : Int32)  (h : ok (fpX6_perhaps a1 a2 a3 a4 M) (fun a => Q (some (.int a.1)) a.2)) : EvM (wY, z) mtX6_perhaps 5 113 [.ref 0, .int a1, .int a2, .int a3, .int a4] M Q := by
  refine evm_of [some (.ref 0), some (.int a1), some (.int a2), some (.int a3), some (.int a4)] 0 (by decide +kernel) (Nat.le_of_ble_eq_true rfl) rfl ?_
  unfold fpX6_perhaps at h
  refine e_iload_n dX6_perhaps_0 rfl ?_
  refine e_if_ne 7 dX6_perhaps_1 (by decide) (fun c1 => ?_) (fun c1 => ?_)
  · have h := ok_f c1 h
    refine e_aload_n dX6_perhaps_7 rfl ?_
    refine e_iconst (1 : Int32) dX6_perhaps_8 (by decide) ?_
    refine e_callV (f2 := 3) (l2 := 67) (ν := mtX6_wants) (as := [.int (1 : Int32)]) cv_RX6_236 is_Y0 kc_7 ⟨Nat.le_of_ble_eq_true rfl, Nat.le_of_ble_eq_true rfl⟩ rfl rfl (Nat.le_of_ble_eq_true rfl) dX6_perhaps_9 ?_
    refine ctX6_wants (1 : Int32) (ok_bnd h (fun q2 h => ?_))
    show Ev (wY, z) mtX6_perhaps 5 113 12 [some (.ref 0), some (.int a1), some (.int a2), some (.int a3), some (.int a4)] [] q2 Q
    refine e_aload_n dX6_perhaps_12 rfl ?_
    refine e_iload_n dX6_perhaps_13 rfl ?_
    refine e_iload_n dX6_perhaps_14 rfl ?_
    refine e_callV (f2 := 4) (l2 := 88) (ν := mtX6_number) (as := [.int a2, .int a3]) cv_RX6_258 is_Y0 kc_7 ⟨Nat.le_of_ble_eq_true rfl, Nat.le_of_ble_eq_true rfl⟩ rfl rfl (Nat.le_of_ble_eq_true rfl) dX6_perhaps_15 ?_
    refine ctX6_number a2 a3 (ok_bnd h (fun q3 h => ?_))
    show Ev (wY, z) mtX6_perhaps 5 113 18 [some (.ref 0), some (.int a1), some (.int a2), some (.int a3), some (.int a4)] [] q3 Q
    refine e_aload_n dX6_perhaps_18 rfl ?_
    refine e_getI fa_RX6_233 is_Y0 dX6_perhaps_19 ?_
    have h := ok_some h
    exact e_iret rfl dX6_perhaps_22 h
  · have h := ok_t c1 h
    refine e_iload dX6_perhaps_4 rfl ?_
    have h := ok_some h
    exact e_iret rfl dX6_perhaps_6 h
def fpX6_pumpItem_b95 (a1 : Int32) (a2 : Int32) (a3 : Int32) (t1 : Int32) (M : Me) : Option (Me) := (fpX6_perhaps t1 (0 : Int32) (11 : Int32) (0 : Int32) M).bind fun q13 =>
 (if (q13.2.1 0 19) = 0 then
 (fpX6_newPump a1 a2 a3 q13.1 q13.2).bind fun q15 =>
 some q15.2
 else
 some q13.2)
set_option maxRecDepth 20000 in
theorem ebX6_pumpItem_b95 {z : Zt} {Q : Option Value → Me → Prop} (a1 : Int32) (a2 : Int32) (a3 : Int32) (t1 : Int32) (M : Me) (h : ok (fpX6_pumpItem_b95 a1 a2 a3 t1 M) (fun a => Q none a)) : Ev (wY, z) mtX6_pumpItem 6 137 95 [some (.ref 0), some (.int a1), some (.int a2), some (.int a3), none, none] [.int t1, .ref 0] M Q := by
  unfold fpX6_pumpItem_b95 at h
  refine e_iconst (0 : Int32) dX6_pumpItem_95 (by decide) ?_
  refine e_bipush (11 : Int32) dX6_pumpItem_96 (by decide) ?_
  refine e_iconst (0 : Int32) dX6_pumpItem_98 (by decide) ?_
  refine e_callV (f2 := 5) (l2 := 113) (ν := mtX6_perhaps) (as := [.int t1, .int (0 : Int32), .int (11 : Int32), .int (0 : Int32)]) cv_RX6_265 is_Y0 kc_7 ⟨Nat.le_of_ble_eq_true rfl, Nat.le_of_ble_eq_true rfl⟩ rfl rfl (Nat.le_of_ble_eq_true rfl) dX6_pumpItem_99 ?_
  refine ctX6_perhaps t1 (0 : Int32) (11 : Int32) (0 : Int32) (ok_bnd h (fun q13 h => ?_))
  show Ev (wY, z) mtX6_pumpItem 6 137 102 [some (.ref 0), some (.int a1), some (.int a2), some (.int a3), none, none] [.int q13.1] q13.2 Q
  refine e_istore dX6_pumpItem_102 (by decide) rfl ?_
  refine e_aload_n dX6_pumpItem_104 rfl ?_
  refine e_getI fa_RX6_222 is_Y0 dX6_pumpItem_105 ?_
  refine e_if_ne 122 dX6_pumpItem_108 (by decide) (fun c14 => ?_) (fun c14 => ?_)
  · have h := ok_f c14 h
    have h := ok_some h
    exact e_vret rfl dX6_pumpItem_122 h
  · have h := ok_t c14 h
    refine e_aload_n dX6_pumpItem_111 rfl ?_
    refine e_iload_n dX6_pumpItem_112 rfl ?_
    refine e_iload_n dX6_pumpItem_113 rfl ?_
    refine e_iload_n dX6_pumpItem_114 rfl ?_
    refine e_iload dX6_pumpItem_115 rfl ?_
    refine e_callV (f2 := 1) (l2 := 21) (ν := mtX6_newPump) (as := [.int a1, .int a2, .int a3, .int q13.1]) cv_RX6_86 is_Y0 kc_7 ⟨Nat.le_of_ble_eq_true rfl, Nat.le_of_ble_eq_true rfl⟩ rfl rfl (Nat.le_of_ble_eq_true rfl) dX6_pumpItem_117 ?_
    refine ctX6_newPump a1 a2 a3 q13.1 (ok_bnd h (fun q15 h => ?_))
    show Ev (wY, z) mtX6_pumpItem 6 137 120 [some (.ref 0), some (.int a1), some (.int a2), some (.int a3), some (.int q13.1), none] [.int q15.1] q15.2 Q
    refine e_istore dX6_pumpItem_120 (by decide) rfl ?_
    have h := ok_some h
    exact e_vret rfl dX6_pumpItem_122 h
def fpX6_pumpItem_b69 (a1 : Int32) (a2 : Int32) (t1 : Int32) (M : Me) : Option (Me) := (fpX6_perhaps t1 (1 : Int32) (60 : Int32) (9 : Int32) M).bind fun q10 =>
 (fpX6_word q10.2).bind fun v11 =>
 (if (lg_cmp v11 (6333843 : Int64)) = 0 then
 fpX6_pumpItem_b95 a1 a2 q10.1 (1 : Int32) q10.2
 else
 fpX6_pumpItem_b95 a1 a2 q10.1 (0 : Int32) q10.2)
set_option maxRecDepth 20000 in
theorem ebX6_pumpItem_b69 {z : Zt} {Q : Option Value → Me → Prop} (a1 : Int32) (a2 : Int32) (t1 : Int32) (M : Me) (h : ok (fpX6_pumpItem_b69 a1 a2 t1 M) (fun a => Q none a)) : Ev (wY, z) mtX6_pumpItem 6 137 69 [some (.ref 0), some (.int a1), some (.int a2), none, none, none] [.int t1, .ref 0] M Q := by
  unfold fpX6_pumpItem_b69 at h
  refine e_iconst (1 : Int32) dX6_pumpItem_69 (by decide) ?_
  refine e_bipush (60 : Int32) dX6_pumpItem_70 (by decide) ?_
  refine e_bipush (9 : Int32) dX6_pumpItem_72 (by decide) ?_
  refine e_callV (f2 := 5) (l2 := 113) (ν := mtX6_perhaps) (as := [.int t1, .int (1 : Int32), .int (60 : Int32), .int (9 : Int32)]) cv_RX6_265 is_Y0 kc_7 ⟨Nat.le_of_ble_eq_true rfl, Nat.le_of_ble_eq_true rfl⟩ rfl rfl (Nat.le_of_ble_eq_true rfl) dX6_pumpItem_74 ?_
  refine ctX6_perhaps t1 (1 : Int32) (60 : Int32) (9 : Int32) (ok_bnd h (fun q10 h => ?_))
  show Ev (wY, z) mtX6_pumpItem 6 137 77 [some (.ref 0), some (.int a1), some (.int a2), none, none, none] [.int q10.1] q10.2 Q
  refine e_istore_n dX6_pumpItem_77 (by decide) rfl ?_
  refine e_aload_n dX6_pumpItem_78 rfl ?_
  refine e_aload_n dX6_pumpItem_79 rfl ?_
  refine e_callV (f2 := 2) (l2 := 45) (ν := mtX6_word) (as := []) cv_RX6_240 is_Y0 kc_7 ⟨Nat.le_of_ble_eq_true rfl, Nat.le_of_ble_eq_true rfl⟩ rfl rfl (Nat.le_of_ble_eq_true rfl) dX6_pumpItem_80 ?_
  refine ctX6_word (ok_bnd h (fun v11 h => ?_))
  show Ev (wY, z) mtX6_pumpItem 6 137 83 [some (.ref 0), some (.int a1), some (.int a2), some (.int q10.1), none, none] [.long v11, .ref 0] q10.2 Q
  refine e_ldc2 wk_RX6_269 dX6_pumpItem_83 ?_
  refine e_lcmp dX6_pumpItem_86 ?_
  refine e_if_ne 94 dX6_pumpItem_87 (by decide) (fun c12 => ?_) (fun c12 => ?_)
  · have h := ok_f c12 h
    refine e_iconst (0 : Int32) dX6_pumpItem_94 (by decide) ?_
    refine e_forget [some (.ref 0), some (.int a1), some (.int a2), some (.int q10.1), none, none] (leL_s (leL_s (leL_s (leL_s (leL_n (leL_n leL_0)))))) ?_
    exact ebX6_pumpItem_b95 a1 a2 q10.1 (0 : Int32) q10.2 h
  · have h := ok_t c12 h
    refine e_iconst (1 : Int32) dX6_pumpItem_90 (by decide) ?_
    refine e_goto 95 dX6_pumpItem_91 (by decide) ?_
    refine e_forget [some (.ref 0), some (.int a1), some (.int a2), some (.int q10.1), none, none] (leL_s (leL_s (leL_s (leL_s (leL_n (leL_n leL_0)))))) ?_
    exact ebX6_pumpItem_b95 a1 a2 q10.1 (1 : Int32) q10.2 h
def fpX6_pumpItem_b37 (a1 : Int32) (t1 : Int32) (M : Me) : Option (Me) := (fpX6_wants t1 M).bind fun q5 =>
 (fpX6_number (0 : Int32) (99 : Int32) q5).bind fun q6 =>
 letv (q6.1 0 18) fun v7 =>
 (fpX6_word q6).bind fun v8 =>
 (if (lg_cmp v8 (7657651 : Int64)) = 0 then
 fpX6_pumpItem_b69 a1 v7 (1 : Int32) q6
 else
 fpX6_pumpItem_b69 a1 v7 (0 : Int32) q6)
set_option maxRecDepth 20000 in
theorem ebX6_pumpItem_b37 {z : Zt} {Q : Option Value → Me → Prop} (a1 : Int32) (t1 : Int32) (M : Me) (h : ok (fpX6_pumpItem_b37 a1 t1 M) (fun a => Q none a)) : Ev (wY, z) mtX6_pumpItem 6 137 37 [some (.ref 0), some (.int a1), none, none, none, none] [.int t1, .ref 0] M Q := by
  unfold fpX6_pumpItem_b37 at h
  refine e_callV (f2 := 3) (l2 := 67) (ν := mtX6_wants) (as := [.int t1]) cv_RX6_236 is_Y0 kc_7 ⟨Nat.le_of_ble_eq_true rfl, Nat.le_of_ble_eq_true rfl⟩ rfl rfl (Nat.le_of_ble_eq_true rfl) dX6_pumpItem_37 ?_
  refine ctX6_wants t1 (ok_bnd h (fun q5 h => ?_))
  show Ev (wY, z) mtX6_pumpItem 6 137 40 [some (.ref 0), some (.int a1), none, none, none, none] [] q5 Q
  refine e_aload_n dX6_pumpItem_40 rfl ?_
  refine e_iconst (0 : Int32) dX6_pumpItem_41 (by decide) ?_
  refine e_bipush (99 : Int32) dX6_pumpItem_42 (by decide) ?_
  refine e_callV (f2 := 4) (l2 := 88) (ν := mtX6_number) (as := [.int (0 : Int32), .int (99 : Int32)]) cv_RX6_258 is_Y0 kc_7 ⟨Nat.le_of_ble_eq_true rfl, Nat.le_of_ble_eq_true rfl⟩ rfl rfl (Nat.le_of_ble_eq_true rfl) dX6_pumpItem_44 ?_
  refine ctX6_number (0 : Int32) (99 : Int32) (ok_bnd h (fun q6 h => ?_))
  show Ev (wY, z) mtX6_pumpItem 6 137 47 [some (.ref 0), some (.int a1), none, none, none, none] [] q6 Q
  refine e_aload_n dX6_pumpItem_47 rfl ?_
  refine e_getI fa_RX6_233 is_Y0 dX6_pumpItem_48 ?_
  refine lv1 (P := fun v7 => Ev (wY, z) mtX6_pumpItem 6 137 51 [some (.ref 0), some (.int a1), none, none, none, none] [.int v7] q6 Q) h (fun v7 h => ?_)
  refine e_istore_n dX6_pumpItem_51 (by decide) rfl ?_
  refine e_aload_n dX6_pumpItem_52 rfl ?_
  refine e_aload_n dX6_pumpItem_53 rfl ?_
  refine e_callV (f2 := 2) (l2 := 45) (ν := mtX6_word) (as := []) cv_RX6_240 is_Y0 kc_7 ⟨Nat.le_of_ble_eq_true rfl, Nat.le_of_ble_eq_true rfl⟩ rfl rfl (Nat.le_of_ble_eq_true rfl) dX6_pumpItem_54 ?_
  refine ctX6_word (ok_bnd h (fun v8 h => ?_))
  show Ev (wY, z) mtX6_pumpItem 6 137 57 [some (.ref 0), some (.int a1), some (.int v7), none, none, none] [.long v8, .ref 0] q6 Q
  refine e_ldc2 wk_RX6_263 dX6_pumpItem_57 ?_
  refine e_lcmp dX6_pumpItem_60 ?_
  refine e_if_ne 68 dX6_pumpItem_61 (by decide) (fun c9 => ?_) (fun c9 => ?_)
  · have h := ok_f c9 h
    refine e_iconst (0 : Int32) dX6_pumpItem_68 (by decide) ?_
    refine e_forget [some (.ref 0), some (.int a1), some (.int v7), none, none, none] (leL_s (leL_s (leL_s (leL_n (leL_n (leL_n leL_0)))))) ?_
    exact ebX6_pumpItem_b69 a1 v7 (0 : Int32) q6 h
  · have h := ok_t c9 h
    refine e_iconst (1 : Int32) dX6_pumpItem_64 (by decide) ?_
    refine e_goto 69 dX6_pumpItem_65 (by decide) ?_
    refine e_forget [some (.ref 0), some (.int a1), some (.int v7), none, none, none] (leL_s (leL_s (leL_s (leL_n (leL_n (leL_n leL_0)))))) ?_
    exact ebX6_pumpItem_b69 a1 v7 (1 : Int32) q6 h
def fpX6_pumpItem_b17 (a1 : Int32) (t1 : Int32) (M : Me) : Option (Me) := (fpX6_wants t1 M).bind fun q2 =>
 (fpX6_word q2).bind fun v3 =>
 (if (lg_cmp v3 (52 : Int64)) = 0 then
 fpX6_pumpItem_b37 a1 (1 : Int32) q2
 else
 fpX6_pumpItem_b37 a1 (0 : Int32) q2)
set_option maxRecDepth 20000 in
theorem ebX6_pumpItem_b17 {z : Zt} {Q : Option Value → Me → Prop} (a1 : Int32) (t1 : Int32) (M : Me) (h : ok (fpX6_pumpItem_b17 a1 t1 M) (fun a => Q none a)) : Ev (wY, z) mtX6_pumpItem 6 137 17 [some (.ref 0), some (.int a1), none, none, none, none] [.int t1, .ref 0] M Q := by
  unfold fpX6_pumpItem_b17 at h
  refine e_callV (f2 := 3) (l2 := 67) (ν := mtX6_wants) (as := [.int t1]) cv_RX6_236 is_Y0 kc_7 ⟨Nat.le_of_ble_eq_true rfl, Nat.le_of_ble_eq_true rfl⟩ rfl rfl (Nat.le_of_ble_eq_true rfl) dX6_pumpItem_17 ?_
  refine ctX6_wants t1 (ok_bnd h (fun q2 h => ?_))
  show Ev (wY, z) mtX6_pumpItem 6 137 20 [some (.ref 0), some (.int a1), none, none, none, none] [] q2 Q
  refine e_aload_n dX6_pumpItem_20 rfl ?_
  refine e_aload_n dX6_pumpItem_21 rfl ?_
  refine e_callV (f2 := 2) (l2 := 45) (ν := mtX6_word) (as := []) cv_RX6_240 is_Y0 kc_7 ⟨Nat.le_of_ble_eq_true rfl, Nat.le_of_ble_eq_true rfl⟩ rfl rfl (Nat.le_of_ble_eq_true rfl) dX6_pumpItem_22 ?_
  refine ctX6_word (ok_bnd h (fun v3 h => ?_))
  show Ev (wY, z) mtX6_pumpItem 6 137 25 [some (.ref 0), some (.int a1), none, none, none, none] [.long v3, .ref 0] q2 Q
  refine e_ldc2 wk_RX6_261 dX6_pumpItem_25 ?_
  refine e_lcmp dX6_pumpItem_28 ?_
  refine e_if_ne 36 dX6_pumpItem_29 (by decide) (fun c4 => ?_) (fun c4 => ?_)
  · have h := ok_f c4 h
    refine e_iconst (0 : Int32) dX6_pumpItem_36 (by decide) ?_
    refine e_forget [some (.ref 0), some (.int a1), none, none, none, none] (leL_s (leL_s (leL_n (leL_n (leL_n (leL_n leL_0)))))) ?_
    exact ebX6_pumpItem_b37 a1 (0 : Int32) q2 h
  · have h := ok_t c4 h
    refine e_iconst (1 : Int32) dX6_pumpItem_32 (by decide) ?_
    refine e_goto 37 dX6_pumpItem_33 (by decide) ?_
    refine e_forget [some (.ref 0), some (.int a1), none, none, none, none] (leL_s (leL_s (leL_n (leL_n (leL_n (leL_n leL_0)))))) ?_
    exact ebX6_pumpItem_b37 a1 (1 : Int32) q2 h
def fpX6_pumpItem (a1 : Int32) (M : Me) : Option (Me) := (if (8 : Int32) ≤ (M.1 1 0) then
 fpX6_pumpItem_b17 a1 (0 : Int32) M
 else
 fpX6_pumpItem_b17 a1 (1 : Int32) M)
set_option maxRecDepth 20000 in
theorem ctX6_pumpItem {z : Zt} {M : Me} {Q : Option Value → Me → Prop} (a1 : Int32)  (h : ok (fpX6_pumpItem a1 M) (fun a => Q none a)) : EvM (wY, z) mtX6_pumpItem 6 137 [.ref 0, .int a1] M Q := by
  refine evm_of [some (.ref 0), some (.int a1), none, none, none, none] 4 (by decide +kernel) (Nat.le_of_ble_eq_true rfl) rfl ?_
  unfold fpX6_pumpItem at h
  refine e_aload_n dX6_pumpItem_0 rfl ?_
  refine e_aload_n dX6_pumpItem_1 rfl ?_
  refine e_getR fa_RX6_7 is_Y0 rfl dX6_pumpItem_2 ?_
  refine e_iconst (0 : Int32) dX6_pumpItem_5 (by decide) ?_
  refine e_ialdK ia_Y1 (by unfold vp_in; decide) (q := 0) (by decide) dX6_pumpItem_6 ?_
  refine e_bipush (8 : Int32) dX6_pumpItem_7 (by decide) ?_
  refine e_icmp_ge 16 dX6_pumpItem_9 (by decide) (fun c1 => ?_) (fun c1 => ?_)
  · have h := ok_t c1 h
    refine e_iconst (0 : Int32) dX6_pumpItem_16 (by decide) ?_
    refine e_forget [some (.ref 0), some (.int a1), none, none, none, none] (leL_s (leL_s (leL_n (leL_n (leL_n (leL_n leL_0)))))) ?_
    exact ebX6_pumpItem_b17 a1 (0 : Int32) M h
  · have h := ok_f c1 h
    refine e_iconst (1 : Int32) dX6_pumpItem_12 (by decide) ?_
    refine e_goto 17 dX6_pumpItem_13 (by decide) ?_
    refine e_forget [some (.ref 0), some (.int a1), none, none, none, none] (leL_s (leL_s (leL_n (leL_n (leL_n (leL_n leL_0)))))) ?_
    exact ebX6_pumpItem_b17 a1 (1 : Int32) M h
def fpX6_valueItem (a1 : Int32) (a2 : Int32) (a3 : Int32) (M : Me) : Option (Me) := (fpX6_perhaps (1 : Int32) a2 a3 (0 : Int32) M).bind fun q1 =>
 (if (q1.2.1 0 19) = 0 then
 (inb a1 70).bind fun k3 =>
 letv (wrM q1.2 1 k3 q1.1) fun M4 =>
 some M4
 else
 some q1.2)
set_option maxRecDepth 20000 in
theorem ctX6_valueItem {z : Zt} {M : Me} {Q : Option Value → Me → Prop} (a1 : Int32) (a2 : Int32) (a3 : Int32)  (h : ok (fpX6_valueItem a1 a2 a3 M) (fun a => Q none a)) : EvM (wY, z) mtX6_valueItem 6 137 [.ref 0, .int a1, .int a2, .int a3] M Q := by
  refine evm_of [some (.ref 0), some (.int a1), some (.int a2), some (.int a3), none] 1 (by decide +kernel) (Nat.le_of_ble_eq_true rfl) rfl ?_
  unfold fpX6_valueItem at h
  refine e_aload_n dX6_valueItem_0 rfl ?_
  refine e_iconst (1 : Int32) dX6_valueItem_1 (by decide) ?_
  refine e_iload_n dX6_valueItem_2 rfl ?_
  refine e_iload_n dX6_valueItem_3 rfl ?_
  refine e_iconst (0 : Int32) dX6_valueItem_4 (by decide) ?_
  refine e_callV (f2 := 5) (l2 := 113) (ν := mtX6_perhaps) (as := [.int (1 : Int32), .int a2, .int a3, .int (0 : Int32)]) cv_RX6_265 is_Y0 kc_7 ⟨Nat.le_of_ble_eq_true rfl, Nat.le_of_ble_eq_true rfl⟩ rfl rfl (Nat.le_of_ble_eq_true rfl) dX6_valueItem_5 ?_
  refine ctX6_perhaps (1 : Int32) a2 a3 (0 : Int32) (ok_bnd h (fun q1 h => ?_))
  show Ev (wY, z) mtX6_valueItem 6 137 8 [some (.ref 0), some (.int a1), some (.int a2), some (.int a3), none] [.int q1.1] q1.2 Q
  refine e_istore dX6_valueItem_8 (by decide) rfl ?_
  refine e_aload_n dX6_valueItem_10 rfl ?_
  refine e_getI fa_RX6_222 is_Y0 dX6_valueItem_11 ?_
  refine e_if_ne 25 dX6_valueItem_14 (by decide) (fun c2 => ?_) (fun c2 => ?_)
  · have h := ok_f c2 h
    have h := ok_some h
    exact e_vret rfl dX6_valueItem_25 h
  · have h := ok_t c2 h
    refine e_aload_n dX6_valueItem_17 rfl ?_
    refine e_getR fa_RX6_7 is_Y0 rfl dX6_valueItem_18 ?_
    refine e_iload_n dX6_valueItem_21 rfl ?_
    refine e_iload dX6_valueItem_22 rfl ?_
    refine ok_inb h (fun k3 ek3 ik3 h => ?_)
    refine e_iastK ia_Y1 ik3 ek3 dX6_valueItem_24 ?_
    refine lv1 (P := fun M4 => Ev (wY, z) mtX6_valueItem 6 137 25 [some (.ref 0), some (.int a1), some (.int a2), some (.int a3), some (.int q1.1)] [] M4 Q) h (fun M4 h => ?_)
    have h := ok_some h
    exact e_vret rfl dX6_valueItem_25 h
