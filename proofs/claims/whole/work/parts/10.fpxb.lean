def XX0_enoughForAll_9 (z : Zt) (M : Me) (Q : Option Value → Me → Prop) : (Int32 × Int32 × Int32) → Prop := fun t => Ev (wX, z) mtX0_enoughForAll 1 21 108 [some (.ref 46), some (.int t.1), some (.int t.2.1), some (.int t.2.2), none, none] [] M Q
def EX0_enoughForAll_9 (z : Zt) (M : Me) (Q : Option Value → Me → Prop) : (Int32 × Int32 × Int32 × Int32) → Prop := fun s => Ev (wX, z) mtX0_enoughForAll 1 21 9 [some (.ref 46), some (.int s.1), some (.int s.2.1), some (.int s.2.2.1), some (.int s.2.2.2), none] [] M Q
def GX0_enoughForAll_9 (z : Zt) (M : Me) (Q : Option Value → Me → Prop) : (Int32 × Int32 × Int32 × Int32) ⊕ (Int32 × Int32 × Int32) → Prop := Sum.elim (EX0_enoughForAll_9 z M Q) (XX0_enoughForAll_9 z M Q)
def XX0_enoughForAll_21 (z : Zt) (a2 : Int32) (a3 : Int32) (a4 : Int32) (M : Me) (Q : Option Value → Me → Prop) : (Int32) → Prop := fun t => Ev (wX, z) mtX0_enoughForAll 1 21 68 [some (.ref 46), some (.int t), some (.int a2), some (.int a3), some (.int a4), none] [] M Q
def EX0_enoughForAll_21 (z : Zt) (a2 : Int32) (a3 : Int32) (a4 : Int32) (M : Me) (Q : Option Value → Me → Prop) : (Int32 × Int32) → Prop := fun s => Ev (wX, z) mtX0_enoughForAll 1 21 21 [some (.ref 46), some (.int s.1), some (.int a2), some (.int a3), some (.int a4), some (.int s.2)] [] M Q
def GX0_enoughForAll_21 (z : Zt) (a2 : Int32) (a3 : Int32) (a4 : Int32) (M : Me) (Q : Option Value → Me → Prop) : (Int32 × Int32) ⊕ (Int32) → Prop := Sum.elim (EX0_enoughForAll_21 z a2 a3 a4 M Q) (XX0_enoughForAll_21 z a2 a3 a4 M Q)
def fpX0_enoughForAll_b44_21 (a1 : Int32) (a2 : Int32) (a3 : Int32) (a4 : Int32) (a5 : Int32) (M : Me) : Option ((Int32 × Int32) ⊕ (Int32)) := (inb ((a5 * (10 : Int32)) + a4) 100).bind fun k4 =>
 letv (fpJ9_max_7cf53 a1 (M.1 49 k4)) fun v5 =>
 letv (a5 + (1 : Int32)) fun v6 =>
 some (.inl (v5, v6))
set_option maxRecDepth 20000 in
theorem ebX0_enoughForAll_b44_21 {z : Zt} {Q : Option Value → Me → Prop} (a1 : Int32) (a2 : Int32) (a3 : Int32) (a4 : Int32) (a5 : Int32) (M : Me) (h : ok (fpX0_enoughForAll_b44_21 a1 a2 a3 a4 a5 M) (GX0_enoughForAll_21 z a2 a3 a4 M Q)) : Ev (wX, z) mtX0_enoughForAll 1 21 44 [some (.ref 46), some (.int a1), some (.int a2), some (.int a3), some (.int a4), some (.int a5)] [] M Q := by
  unfold fpX0_enoughForAll_b44_21 at h
  refine e_iload_n dX0_enoughForAll_44 rfl ?_
  refine e_aload_n dX0_enoughForAll_45 rfl ?_
  refine e_getR fa_RX0_34 is_X46 rfl dX0_enoughForAll_46 ?_
  refine e_iload dX0_enoughForAll_49 rfl ?_
  refine e_bipush (10 : Int32) dX0_enoughForAll_51 (by decide) ?_
  refine e_imul dX0_enoughForAll_53 ?_
  refine e_iload dX0_enoughForAll_54 rfl ?_
  refine e_iadd dX0_enoughForAll_56 ?_
  refine ok_inb h (fun k4 ek4 ik4 h => ?_)
  refine e_ialdK ia_X49 ik4 ek4 dX0_enoughForAll_57 ?_
  refine e_callS (f2 := 0) (l2 := 0) (ν := mtJ9_max_7cf53) (as := [.int a1, .int (M.1 49 k4)]) cs_RX0_93 ⟨Nat.le_of_ble_eq_true rfl, Nat.le_of_ble_eq_true rfl⟩ rfl rfl (Nat.le_of_ble_eq_true rfl) dX0_enoughForAll_58 ?_
  refine ctJ9_max_7cf53 a1 (M.1 49 k4) ?_
  show Ev (wX, z) mtX0_enoughForAll 1 21 61 [some (.ref 46), some (.int a1), some (.int a2), some (.int a3), some (.int a4), some (.int a5)] [.int (fpJ9_max_7cf53 a1 (M.1 49 k4))] M Q
  refine lv1 (P := fun v5 => Ev (wX, z) mtX0_enoughForAll 1 21 61 [some (.ref 46), some (.int a1), some (.int a2), some (.int a3), some (.int a4), some (.int a5)] [.int v5] M Q) h (fun v5 h => ?_)
  refine e_istore_n dX0_enoughForAll_61 (by decide) rfl ?_
  refine lv1e h (fun v6 ev6 h => ?_)
  refine e_iinc v6 dX0_enoughForAll_62 rfl ev6 (by decide) rfl ?_
  refine e_goto 21 dX0_enoughForAll_65 (by decide) ?_
  refine e_forget [some (.ref 46), some (.int v5), some (.int a2), some (.int a3), some (.int a4), some (.int v6)] (leL_s (leL_s (leL_s (leL_s (leL_s (leL_s leL_0)))))) ?_
  have h := ok_some h
  exact h
def fpX0_enoughForAll_l21s (a2 : Int32) (a3 : Int32) (a4 : Int32) (a1 : Int32) (a5 : Int32) (M : Me) : Option ((Int32 × Int32) ⊕ (Int32)) := (if (8 : Int32) < a5 then
 some (.inr a1)
 else
 (if a5 < (M.1 46 2) then
 fpX0_enoughForAll_b44_21 a1 a2 a3 a4 a5 M
 else
 (if a5 = (8 : Int32) then
 fpX0_enoughForAll_b44_21 a1 a2 a3 a4 a5 M
 else
 letv (a5 + (1 : Int32)) fun v8 =>
 some (.inl (a1, v8)))))
def fpX0_enoughForAll_l21 (a2 : Int32) (a3 : Int32) (a4 : Int32) (M : Me) (s : Int32 × Int32) : Option ((Int32 × Int32) ⊕ (Int32)) := fpX0_enoughForAll_l21s a2 a3 a4 s.1 s.2 M
set_option maxRecDepth 20000 in
theorem ebX0_enoughForAll_l21s {z : Zt} {Q : Option Value → Me → Prop} (a2 : Int32) (a3 : Int32) (a4 : Int32) (a1 : Int32) (a5 : Int32) (M : Me) (h : ok (fpX0_enoughForAll_l21s a2 a3 a4 a1 a5 M) (GX0_enoughForAll_21 z a2 a3 a4 M Q)) : Ev (wX, z) mtX0_enoughForAll 1 21 21 [some (.ref 46), some (.int a1), some (.int a2), some (.int a3), some (.int a4), some (.int a5)] [] M Q := by
  unfold fpX0_enoughForAll_l21s at h
  refine e_iload dX0_enoughForAll_21 rfl ?_
  refine e_bipush (8 : Int32) dX0_enoughForAll_23 (by decide) ?_
  refine e_icmp_gt 68 dX0_enoughForAll_25 (by decide) (fun c2 => ?_) (fun c2 => ?_)
  · have h := ok_t c2 h
    refine e_forget [some (.ref 46), some (.int a1), some (.int a2), some (.int a3), some (.int a4), none] (leL_s (leL_s (leL_s (leL_s (leL_s (leL_n leL_0)))))) ?_
    have h := ok_some h
    exact h
  · have h := ok_f c2 h
    refine e_iload dX0_enoughForAll_28 rfl ?_
    refine e_aload_n dX0_enoughForAll_30 rfl ?_
    refine e_getI fa_RX0_19 is_X46 dX0_enoughForAll_31 ?_
    refine e_icmp_lt 44 dX0_enoughForAll_34 (by decide) (fun c3 => ?_) (fun c3 => ?_)
    · have h := ok_t c3 h
      refine e_forget [some (.ref 46), some (.int a1), some (.int a2), some (.int a3), some (.int a4), some (.int a5)] (leL_s (leL_s (leL_s (leL_s (leL_s (leL_s leL_0)))))) ?_
      exact ebX0_enoughForAll_b44_21 a1 a2 a3 a4 a5 M h
    · have h := ok_f c3 h
      refine e_iload dX0_enoughForAll_37 rfl ?_
      refine e_bipush (8 : Int32) dX0_enoughForAll_39 (by decide) ?_
      refine e_icmp_ne 62 dX0_enoughForAll_41 (by decide) (fun c7 => ?_) (fun c7 => ?_)
      · have h := ok_f c7 h
        refine lv1e h (fun v8 ev8 h => ?_)
        refine e_iinc v8 dX0_enoughForAll_62 rfl ev8 (by decide) rfl ?_
        refine e_goto 21 dX0_enoughForAll_65 (by decide) ?_
        refine e_forget [some (.ref 46), some (.int a1), some (.int a2), some (.int a3), some (.int a4), some (.int v8)] (leL_s (leL_s (leL_s (leL_s (leL_s (leL_s leL_0)))))) ?_
        have h := ok_some h
        exact h
      · have h := ok_t c7 h
        refine e_forget [some (.ref 46), some (.int a1), some (.int a2), some (.int a3), some (.int a4), some (.int a5)] (leL_s (leL_s (leL_s (leL_s (leL_s (leL_s leL_0)))))) ?_
        exact ebX0_enoughForAll_b44_21 a1 a2 a3 a4 a5 M h
theorem elX0_enoughForAll_l21 {z : Zt} {Q : Option Value → Me → Prop} (a2 : Int32) (a3 : Int32) (a4 : Int32) (M : Me) (N : Nat) (s : Int32 × Int32) (h : ok (lp (fpX0_enoughForAll_l21 a2 a3 a4 M) N s) (XX0_enoughForAll_21 z a2 a3 a4 M Q)) : EX0_enoughForAll_21 z a2 a3 a4 M Q s :=
  lp_ind (fun s h => ebX0_enoughForAll_l21s a2 a3 a4 s.1 s.2 M h) N s h
def fpX0_enoughForAll_l9s (a1 : Int32) (a2 : Int32) (a3 : Int32) (a4 : Int32) (M : Me) : Option ((Int32 × Int32 × Int32 × Int32) ⊕ (Int32 × Int32 × Int32)) := (if (M.1 46 2) ≤ a4 then
 some (.inr (a1, a2, a3))
 else
 (lp (fpX0_enoughForAll_l21 a2 a3 a4 M) FU (a1, (0 : Int32))).bind fun r9 =>
 (inb a4 8).bind fun k10 =>
 letv (fpJ9_max_7cf53 a2 (M.1 50 k10)) fun v11 =>
 letv (a3 + (fpJ9_max_7cf53 (0 : Int32) ((M.1 50 k10) - (M.1 51 k10)))) fun v12 =>
 letv (a4 + (1 : Int32)) fun v13 =>
 some (.inl (r9, v11, v12, v13)))
def fpX0_enoughForAll_l9 (M : Me) (s : Int32 × Int32 × Int32 × Int32) : Option ((Int32 × Int32 × Int32 × Int32) ⊕ (Int32 × Int32 × Int32)) := fpX0_enoughForAll_l9s s.1 s.2.1 s.2.2.1 s.2.2.2 M
set_option maxRecDepth 20000 in
theorem ebX0_enoughForAll_l9s {z : Zt} {Q : Option Value → Me → Prop} (a1 : Int32) (a2 : Int32) (a3 : Int32) (a4 : Int32) (M : Me) (h : ok (fpX0_enoughForAll_l9s a1 a2 a3 a4 M) (GX0_enoughForAll_9 z M Q)) : Ev (wX, z) mtX0_enoughForAll 1 21 9 [some (.ref 46), some (.int a1), some (.int a2), some (.int a3), some (.int a4), none] [] M Q := by
  unfold fpX0_enoughForAll_l9s at h
  refine e_iload dX0_enoughForAll_9 rfl ?_
  refine e_aload_n dX0_enoughForAll_11 rfl ?_
  refine e_getI fa_RX0_19 is_X46 dX0_enoughForAll_12 ?_
  refine e_icmp_ge 108 dX0_enoughForAll_15 (by decide) (fun c1 => ?_) (fun c1 => ?_)
  · have h := ok_t c1 h
    refine e_forget [some (.ref 46), some (.int a1), some (.int a2), some (.int a3), none, none] (leL_s (leL_s (leL_s (leL_s (leL_n (leL_n leL_0)))))) ?_
    have h := ok_some h
    exact h
  · have h := ok_f c1 h
    refine e_iconst (0 : Int32) dX0_enoughForAll_18 (by decide) ?_
    refine e_istore dX0_enoughForAll_19 (by decide) rfl ?_
    refine e_forget [some (.ref 46), some (.int a1), some (.int a2), some (.int a3), some (.int a4), some (.int (0 : Int32))] (leL_s (leL_s (leL_s (leL_s (leL_s (leL_s leL_0)))))) ?_
    refine elX0_enoughForAll_l21 a2 a3 a4 M FU (a1, (0 : Int32)) (ok_bnd h (fun r9 h => ?_))
    show Ev (wX, z) mtX0_enoughForAll 1 21 68 [some (.ref 46), some (.int r9), some (.int a2), some (.int a3), some (.int a4), none] [] M Q
    refine e_iload_n dX0_enoughForAll_68 rfl ?_
    refine e_aload_n dX0_enoughForAll_69 rfl ?_
    refine e_getR fa_RX0_37 is_X46 rfl dX0_enoughForAll_70 ?_
    refine e_iload dX0_enoughForAll_73 rfl ?_
    refine ok_inb h (fun k10 ek10 ik10 h => ?_)
    refine e_ialdK ia_X50 ik10 ek10 dX0_enoughForAll_75 ?_
    refine e_callS (f2 := 0) (l2 := 0) (ν := mtJ9_max_7cf53) (as := [.int a2, .int (M.1 50 k10)]) cs_RX0_93 ⟨Nat.le_of_ble_eq_true rfl, Nat.le_of_ble_eq_true rfl⟩ rfl rfl (Nat.le_of_ble_eq_true rfl) dX0_enoughForAll_76 ?_
    refine ctJ9_max_7cf53 a2 (M.1 50 k10) ?_
    show Ev (wX, z) mtX0_enoughForAll 1 21 79 [some (.ref 46), some (.int r9), some (.int a2), some (.int a3), some (.int a4), none] [.int (fpJ9_max_7cf53 a2 (M.1 50 k10))] M Q
    refine lv1 (P := fun v11 => Ev (wX, z) mtX0_enoughForAll 1 21 79 [some (.ref 46), some (.int r9), some (.int a2), some (.int a3), some (.int a4), none] [.int v11] M Q) h (fun v11 h => ?_)
    refine e_istore_n dX0_enoughForAll_79 (by decide) rfl ?_
    refine e_iload_n dX0_enoughForAll_80 rfl ?_
    refine e_iconst (0 : Int32) dX0_enoughForAll_81 (by decide) ?_
    refine e_aload_n dX0_enoughForAll_82 rfl ?_
    refine e_getR fa_RX0_37 is_X46 rfl dX0_enoughForAll_83 ?_
    refine e_iload dX0_enoughForAll_86 rfl ?_
    refine e_ialdK ia_X50 ik10 ek10 dX0_enoughForAll_88 ?_
    refine e_aload_n dX0_enoughForAll_89 rfl ?_
    refine e_getR fa_RX0_40 is_X46 rfl dX0_enoughForAll_90 ?_
    refine e_iload dX0_enoughForAll_93 rfl ?_
    refine e_ialdK ia_X51 ik10 ek10 dX0_enoughForAll_95 ?_
    refine e_isub dX0_enoughForAll_96 ?_
    refine e_callS (f2 := 0) (l2 := 0) (ν := mtJ9_max_7cf53) (as := [.int (0 : Int32), .int ((M.1 50 k10) - (M.1 51 k10))]) cs_RX0_93 ⟨Nat.le_of_ble_eq_true rfl, Nat.le_of_ble_eq_true rfl⟩ rfl rfl (Nat.le_of_ble_eq_true rfl) dX0_enoughForAll_97 ?_
    refine ctJ9_max_7cf53 (0 : Int32) ((M.1 50 k10) - (M.1 51 k10)) ?_
    show Ev (wX, z) mtX0_enoughForAll 1 21 100 [some (.ref 46), some (.int r9), some (.int v11), some (.int a3), some (.int a4), none] [.int (fpJ9_max_7cf53 (0 : Int32) ((M.1 50 k10) - (M.1 51 k10))), .int a3] M Q
    refine e_iadd dX0_enoughForAll_100 ?_
    refine lv1 (P := fun v12 => Ev (wX, z) mtX0_enoughForAll 1 21 101 [some (.ref 46), some (.int r9), some (.int v11), some (.int a3), some (.int a4), none] [.int v12] M Q) h (fun v12 h => ?_)
    refine e_istore_n dX0_enoughForAll_101 (by decide) rfl ?_
    refine lv1e h (fun v13 ev13 h => ?_)
    refine e_iinc v13 dX0_enoughForAll_102 rfl ev13 (by decide) rfl ?_
    refine e_goto 9 dX0_enoughForAll_105 (by decide) ?_
    refine e_forget [some (.ref 46), some (.int r9), some (.int v11), some (.int v12), some (.int v13), none] (leL_s (leL_s (leL_s (leL_s (leL_s (leL_n leL_0)))))) ?_
    have h := ok_some h
    exact h
theorem elX0_enoughForAll_l9 {z : Zt} {Q : Option Value → Me → Prop} (M : Me) (N : Nat) (s : Int32 × Int32 × Int32 × Int32) (h : ok (lp (fpX0_enoughForAll_l9 M) N s) (XX0_enoughForAll_9 z M Q)) : EX0_enoughForAll_9 z M Q s :=
  lp_ind (fun s h => ebX0_enoughForAll_l9s s.1 s.2.1 s.2.2.1 s.2.2.2 M h) N s h
def fpX0_enoughForAll  (M : Me) : Option (Int32) := (lp (fpX0_enoughForAll_l9 M) FU ((0 : Int32), (0 : Int32), (0 : Int32), (0 : Int32))).bind fun r14 =>
 some ((((M.1 46 2) * r14.1) + r14.2.1) + r14.2.2)
set_option maxRecDepth 20000 in
theorem ctX0_enoughForAll {z : Zt} {M : Me} {Q : Option Value → Me → Prop}   (h : ok (fpX0_enoughForAll M) (fun a => Q (some (.int a)) M)) : EvM (wX, z) mtX0_enoughForAll 1 21 [.ref 46] M Q := by
  refine evm_of [some (.ref 46), none, none, none, none, none] 5 (by decide +kernel) (Nat.le_of_ble_eq_true rfl) rfl ?_
  unfold fpX0_enoughForAll at h
  refine e_iconst (0 : Int32) dX0_enoughForAll_0 (by decide) ?_
  refine e_istore_n dX0_enoughForAll_1 (by decide) rfl ?_
  refine e_iconst (0 : Int32) dX0_enoughForAll_2 (by decide) ?_
  refine e_istore_n dX0_enoughForAll_3 (by decide) rfl ?_
  refine e_iconst (0 : Int32) dX0_enoughForAll_4 (by decide) ?_
  refine e_istore_n dX0_enoughForAll_5 (by decide) rfl ?_
  refine e_iconst (0 : Int32) dX0_enoughForAll_6 (by decide) ?_
  refine e_istore dX0_enoughForAll_7 (by decide) rfl ?_
  refine e_forget [some (.ref 46), some (.int (0 : Int32)), some (.int (0 : Int32)), some (.int (0 : Int32)), some (.int (0 : Int32)), none] (leL_s (leL_s (leL_s (leL_s (leL_s (leL_n leL_0)))))) ?_
  refine elX0_enoughForAll_l9 M FU ((0 : Int32), (0 : Int32), (0 : Int32), (0 : Int32)) (ok_bnd h (fun r14 h => ?_))
  show Ev (wX, z) mtX0_enoughForAll 1 21 108 [some (.ref 46), some (.int r14.1), some (.int r14.2.1), some (.int r14.2.2), none, none] [] M Q
  refine e_aload_n dX0_enoughForAll_108 rfl ?_
  refine e_getI fa_RX0_19 is_X46 dX0_enoughForAll_109 ?_
  refine e_iload_n dX0_enoughForAll_112 rfl ?_
  refine e_imul dX0_enoughForAll_113 ?_
  refine e_iload_n dX0_enoughForAll_114 rfl ?_
  refine e_iadd dX0_enoughForAll_115 ?_
  refine e_iload_n dX0_enoughForAll_116 rfl ?_
  refine e_iadd dX0_enoughForAll_117 ?_
  have h := ok_some h
  exact e_iret rfl dX0_enoughForAll_118 h
def XX0_leastGaining_16 (z : Zt) (a1 : Int32) (Q : Option Value → Me → Prop) : ((Me) ⊕ (Int32 × Me)) → Prop := Sum.elim (fun t => Ev (wX, z) mtX0_leastGaining 4 95 55 [none, none, none, none, none] [] t Q) (fun v => Q (some (.int v.1)) v.2)
def EX0_leastGaining_16 (z : Zt) (a1 : Int32) (Q : Option Value → Me → Prop) : (Int32 × Int32 × Me) → Prop := fun s => Ev (wX, z) mtX0_leastGaining 4 95 16 [some (.ref 46), some (.int a1), some (.int s.1), some (.int s.2.1), none] [] s.2.2 Q
def GX0_leastGaining_16 (z : Zt) (a1 : Int32) (Q : Option Value → Me → Prop) : (Int32 × Int32 × Me) ⊕ ((Me) ⊕ (Int32 × Me)) → Prop := Sum.elim (EX0_leastGaining_16 z a1 Q) (XX0_leastGaining_16 z a1 Q)
def fpX0_leastGaining_l16s (a1 : Int32) (a2 : Int32) (a3 : Int32) (M : Me) : Option ((Int32 × Int32 × Me) ⊕ ((Me) ⊕ (Int32 × Me))) := (if (999 : Int32) < a3 then
 some (.inr (.inl M))
 else
 (if a1 < a2 then
 some (.inr (.inl M))
 else
 (fpX0_leastStart (a2 + (1 : Int32)) (-1 : Int32) M).bind fun q5 =>
 (if a2 < q5.1 then
 letv (a3 + (1 : Int32)) fun v7 =>
 some (.inl (q5.1, v7, q5.2))
 else
 some (.inr (.inr (a2, q5.2))))))
def fpX0_leastGaining_l16 (a1 : Int32) (s : Int32 × Int32 × Me) : Option ((Int32 × Int32 × Me) ⊕ ((Me) ⊕ (Int32 × Me))) := fpX0_leastGaining_l16s a1 s.1 s.2.1 s.2.2
set_option maxRecDepth 20000 in
theorem ebX0_leastGaining_l16s {z : Zt} {Q : Option Value → Me → Prop} (a1 : Int32) (a2 : Int32) (a3 : Int32) (M : Me) (h : ok (fpX0_leastGaining_l16s a1 a2 a3 M) (GX0_leastGaining_16 z a1 Q)) : Ev (wX, z) mtX0_leastGaining 4 95 16 [some (.ref 46), some (.int a1), some (.int a2), some (.int a3), none] [] M Q := by
  unfold fpX0_leastGaining_l16s at h
  refine e_iload_n dX0_leastGaining_16 rfl ?_
  refine e_sipush (999 : Int32) dX0_leastGaining_17 (by decide) ?_
  refine e_icmp_gt 55 dX0_leastGaining_20 (by decide) (fun c3 => ?_) (fun c3 => ?_)
  · have h := ok_t c3 h
    refine e_forget [none, none, none, none, none] (leL_n (leL_n (leL_n (leL_n (leL_n leL_0))))) ?_
    have h := ok_some h
    exact h
  · have h := ok_f c3 h
    refine e_iload_n dX0_leastGaining_23 rfl ?_
    refine e_iload_n dX0_leastGaining_24 rfl ?_
    refine e_icmp_gt 55 dX0_leastGaining_25 (by decide) (fun c4 => ?_) (fun c4 => ?_)
    · have h := ok_t c4 h
      refine e_forget [none, none, none, none, none] (leL_n (leL_n (leL_n (leL_n (leL_n leL_0))))) ?_
      have h := ok_some h
      exact h
    · have h := ok_f c4 h
      refine e_aload_n dX0_leastGaining_28 rfl ?_
      refine e_iload_n dX0_leastGaining_29 rfl ?_
      refine e_iconst (1 : Int32) dX0_leastGaining_30 (by decide) ?_
      refine e_iadd dX0_leastGaining_31 ?_
      refine e_iconst (-1 : Int32) dX0_leastGaining_32 (by decide) ?_
      refine e_callV (f2 := 3) (l2 := 71) (ν := mtX0_leastStart) (as := [.int (a2 + (1 : Int32)), .int (-1 : Int32)]) cv_RX0_138 is_X46 kc_6 ⟨Nat.le_of_ble_eq_true rfl, Nat.le_of_ble_eq_true rfl⟩ rfl rfl (Nat.le_of_ble_eq_true rfl) dX0_leastGaining_33 ?_
      refine ctX0_leastStart (a2 + (1 : Int32)) (-1 : Int32) (ok_bnd h (fun q5 h => ?_))
      show Ev (wX, z) mtX0_leastGaining 4 95 36 [some (.ref 46), some (.int a1), some (.int a2), some (.int a3), none] [.int q5.1] q5.2 Q
      refine e_istore dX0_leastGaining_36 (by decide) rfl ?_
      refine e_iload dX0_leastGaining_38 rfl ?_
      refine e_iload_n dX0_leastGaining_40 rfl ?_
      refine e_icmp_gt 46 dX0_leastGaining_41 (by decide) (fun c6 => ?_) (fun c6 => ?_)
      · have h := ok_t c6 h
        refine e_iload dX0_leastGaining_46 rfl ?_
        refine e_istore_n dX0_leastGaining_48 (by decide) rfl ?_
        refine lv1e h (fun v7 ev7 h => ?_)
        refine e_iinc v7 dX0_leastGaining_49 rfl ev7 (by decide) rfl ?_
        refine e_goto 16 dX0_leastGaining_52 (by decide) ?_
        refine e_forget [some (.ref 46), some (.int a1), some (.int q5.1), some (.int v7), none] (leL_s (leL_s (leL_s (leL_s (leL_n leL_0))))) ?_
        have h := ok_some h
        exact h
      · have h := ok_f c6 h
        refine e_iload_n dX0_leastGaining_44 rfl ?_
        have h := ok_some h
        exact e_iret rfl dX0_leastGaining_45 h
theorem elX0_leastGaining_l16 {z : Zt} {Q : Option Value → Me → Prop} (a1 : Int32) (N : Nat) (s : Int32 × Int32 × Me) (h : ok (lp (fpX0_leastGaining_l16 a1) N s) (XX0_leastGaining_16 z a1 Q)) : EX0_leastGaining_16 z a1 Q s :=
  lp_ind (fun s h => ebX0_leastGaining_l16s a1 s.1 s.2.1 s.2.2 h) N s h
def fpX0_leastGaining  (M : Me) : Option (Int32 × Me) := (fpX0_enoughForAll M).bind fun v1 =>
 letv (fpJ9_min_7cf53 (M.1 46 4) v1) fun v2 =>
 (lp (fpX0_leastGaining_l16 v2) FU ((0 : Int32), (0 : Int32), M)).bind fun r8 => Sum.elim (fun t9 =>
 some ((1000000 : Int32), t9)) (fun u10 => some u10) r8
set_option maxRecDepth 20000 in
theorem ctX0_leastGaining {z : Zt} {M : Me} {Q : Option Value → Me → Prop}   (h : ok (fpX0_leastGaining M) (fun a => Q (some (.int a.1)) a.2)) : EvM (wX, z) mtX0_leastGaining 4 95 [.ref 46] M Q := by
  refine evm_of [some (.ref 46), none, none, none, none] 4 (by decide +kernel) (Nat.le_of_ble_eq_true rfl) rfl ?_
  unfold fpX0_leastGaining at h
  refine e_aload_n dX0_leastGaining_0 rfl ?_
  refine e_getI fa_RX0_25 is_X46 dX0_leastGaining_1 ?_
  refine e_aload_n dX0_leastGaining_4 rfl ?_
  refine e_callV (f2 := 1) (l2 := 21) (ν := mtX0_enoughForAll) (as := []) cv_RX0_160 is_X46 kc_6 ⟨Nat.le_of_ble_eq_true rfl, Nat.le_of_ble_eq_true rfl⟩ rfl rfl (Nat.le_of_ble_eq_true rfl) dX0_leastGaining_5 ?_
  refine ctX0_enoughForAll (ok_bnd h (fun v1 h => ?_))
  show Ev (wX, z) mtX0_leastGaining 4 95 8 [some (.ref 46), none, none, none, none] [.int v1, .int (M.1 46 4)] M Q
  refine e_callS (f2 := 0) (l2 := 0) (ν := mtJ9_min_7cf53) (as := [.int (M.1 46 4), .int v1]) cs_RX0_102 ⟨Nat.le_of_ble_eq_true rfl, Nat.le_of_ble_eq_true rfl⟩ rfl rfl (Nat.le_of_ble_eq_true rfl) dX0_leastGaining_8 ?_
  refine ctJ9_min_7cf53 (M.1 46 4) v1 ?_
  show Ev (wX, z) mtX0_leastGaining 4 95 11 [some (.ref 46), none, none, none, none] [.int (fpJ9_min_7cf53 (M.1 46 4) v1)] M Q
  refine lv1 (P := fun v2 => Ev (wX, z) mtX0_leastGaining 4 95 11 [some (.ref 46), none, none, none, none] [.int v2] M Q) h (fun v2 h => ?_)
  refine e_istore_n dX0_leastGaining_11 (by decide) rfl ?_
  refine e_iconst (0 : Int32) dX0_leastGaining_12 (by decide) ?_
  refine e_istore_n dX0_leastGaining_13 (by decide) rfl ?_
  refine e_iconst (0 : Int32) dX0_leastGaining_14 (by decide) ?_
  refine e_istore_n dX0_leastGaining_15 (by decide) rfl ?_
  refine e_forget [some (.ref 46), some (.int v2), some (.int (0 : Int32)), some (.int (0 : Int32)), none] (leL_s (leL_s (leL_s (leL_s (leL_n leL_0))))) ?_
  refine elX0_leastGaining_l16 v2 FU ((0 : Int32), (0 : Int32), M) (ok_bnd h (fun r8 h => ?_))
  rcases r8 with t9 | u10
  · show Ev (wX, z) mtX0_leastGaining 4 95 55 [none, none, none, none, none] [] t9 Q
    refine e_ldc wk_RX0_153 dX0_leastGaining_55 ?_
    have h := ok_some h
    exact e_iret rfl dX0_leastGaining_57 h
  · have h := ok_some h
    exact h
def XX0_firsts_4 (z : Zt) (a1 : Int32) (M : Me) (Q : Option Value → Me → Prop) : (Int32) → Prop := fun t => Ev (wX, z) mtX0_firsts 2 44 41 [none, none, some (.int t), none] [] M Q
def EX0_firsts_4 (z : Zt) (a1 : Int32) (M : Me) (Q : Option Value → Me → Prop) : (Int32 × Int32) → Prop := fun s => Ev (wX, z) mtX0_firsts 2 44 4 [some (.ref 46), some (.int a1), some (.int s.1), some (.int s.2)] [] M Q
def GX0_firsts_4 (z : Zt) (a1 : Int32) (M : Me) (Q : Option Value → Me → Prop) : (Int32 × Int32) ⊕ (Int32) → Prop := Sum.elim (EX0_firsts_4 z a1 M Q) (XX0_firsts_4 z a1 M Q)
def fpX0_firsts_l4s (a1 : Int32) (a2 : Int32) (a3 : Int32) (M : Me) : Option ((Int32 × Int32) ⊕ (Int32)) := (if (M.1 46 2) ≤ a3 then
 some (.inr a2)
 else
 (fpX0_carried a1 (8 : Int32) a3 M).bind fun v2 =>
 (fpX0_ran a3 v2 M).bind fun v3 =>
 (if v3 = (-1 : Int32) then
 letv (a3 + (1 : Int32)) fun v5 =>
 some (.inl (a2, v5))
 else
 letv (a2 ||| ((1 : Int32) <<< (a3 &&& 31))) fun v6 =>
 letv (a3 + (1 : Int32)) fun v7 =>
 some (.inl (v6, v7))))
def fpX0_firsts_l4 (a1 : Int32) (M : Me) (s : Int32 × Int32) : Option ((Int32 × Int32) ⊕ (Int32)) := fpX0_firsts_l4s a1 s.1 s.2 M
set_option maxRecDepth 20000 in
theorem ebX0_firsts_l4s {z : Zt} {Q : Option Value → Me → Prop} (a1 : Int32) (a2 : Int32) (a3 : Int32) (M : Me) (h : ok (fpX0_firsts_l4s a1 a2 a3 M) (GX0_firsts_4 z a1 M Q)) : Ev (wX, z) mtX0_firsts 2 44 4 [some (.ref 46), some (.int a1), some (.int a2), some (.int a3)] [] M Q := by
  unfold fpX0_firsts_l4s at h
  refine e_iload_n dX0_firsts_4 rfl ?_
  refine e_aload_n dX0_firsts_5 rfl ?_
  refine e_getI fa_RX0_19 is_X46 dX0_firsts_6 ?_
  refine e_icmp_ge 41 dX0_firsts_9 (by decide) (fun c1 => ?_) (fun c1 => ?_)
  · have h := ok_t c1 h
    refine e_forget [none, none, some (.int a2), none] (leL_n (leL_n (leL_s (leL_n leL_0)))) ?_
    have h := ok_some h
    exact h
  · have h := ok_f c1 h
    refine e_aload_n dX0_firsts_12 rfl ?_
    refine e_iload_n dX0_firsts_13 rfl ?_
    refine e_aload_n dX0_firsts_14 rfl ?_
    refine e_iload_n dX0_firsts_15 rfl ?_
    refine e_bipush (8 : Int32) dX0_firsts_16 (by decide) ?_
    refine e_iload_n dX0_firsts_18 rfl ?_
    refine e_callV (f2 := 1) (l2 := 21) (ν := mtX0_carried) (as := [.int a1, .int (8 : Int32), .int a3]) cv_RX0_113 is_X46 kc_6 ⟨Nat.le_of_ble_eq_true rfl, Nat.le_of_ble_eq_true rfl⟩ rfl rfl (Nat.le_of_ble_eq_true rfl) dX0_firsts_19 ?_
    refine ctX0_carried a1 (8 : Int32) a3 (ok_bnd h (fun v2 h => ?_))
    show Ev (wX, z) mtX0_firsts 2 44 22 [some (.ref 46), some (.int a1), some (.int a2), some (.int a3)] [.int v2, .int a3, .ref 46] M Q
    refine e_callV (f2 := 1) (l2 := 21) (ν := mtX0_ran) (as := [.int a3, .int v2]) cv_RX0_116 is_X46 kc_6 ⟨Nat.le_of_ble_eq_true rfl, Nat.le_of_ble_eq_true rfl⟩ rfl rfl (Nat.le_of_ble_eq_true rfl) dX0_firsts_22 ?_
    refine ctX0_ran a3 v2 (ok_bnd h (fun v3 h => ?_))
    show Ev (wX, z) mtX0_firsts 2 44 25 [some (.ref 46), some (.int a1), some (.int a2), some (.int a3)] [.int v3] M Q
    refine e_iconst (-1 : Int32) dX0_firsts_25 (by decide) ?_
    refine e_icmp_eq 35 dX0_firsts_26 (by decide) (fun c4 => ?_) (fun c4 => ?_)
    · have h := ok_t c4 h
      refine lv1e h (fun v5 ev5 h => ?_)
      refine e_iinc v5 dX0_firsts_35 rfl ev5 (by decide) rfl ?_
      refine e_goto 4 dX0_firsts_38 (by decide) ?_
      refine e_forget [some (.ref 46), some (.int a1), some (.int a2), some (.int v5)] (leL_s (leL_s (leL_s (leL_s leL_0)))) ?_
      have h := ok_some h
      exact h
    · have h := ok_f c4 h
      refine e_iload_n dX0_firsts_29 rfl ?_
      refine e_iconst (1 : Int32) dX0_firsts_30 (by decide) ?_
      refine e_iload_n dX0_firsts_31 rfl ?_
      refine e_ishl dX0_firsts_32 ?_
      refine e_ior dX0_firsts_33 ?_
      refine lv1 (P := fun v6 => Ev (wX, z) mtX0_firsts 2 44 34 [some (.ref 46), some (.int a1), some (.int a2), some (.int a3)] [.int v6] M Q) h (fun v6 h => ?_)
      refine e_istore_n dX0_firsts_34 (by decide) rfl ?_
      refine lv1e h (fun v7 ev7 h => ?_)
      refine e_iinc v7 dX0_firsts_35 rfl ev7 (by decide) rfl ?_
      refine e_goto 4 dX0_firsts_38 (by decide) ?_
      refine e_forget [some (.ref 46), some (.int a1), some (.int v6), some (.int v7)] (leL_s (leL_s (leL_s (leL_s leL_0)))) ?_
      have h := ok_some h
      exact h
theorem elX0_firsts_l4 {z : Zt} {Q : Option Value → Me → Prop} (a1 : Int32) (M : Me) (N : Nat) (s : Int32 × Int32) (h : ok (lp (fpX0_firsts_l4 a1 M) N s) (XX0_firsts_4 z a1 M Q)) : EX0_firsts_4 z a1 M Q s :=
  lp_ind (fun s h => ebX0_firsts_l4s a1 s.1 s.2 M h) N s h
def fpX0_firsts (a1 : Int32) (M : Me) : Option (Int32) := (lp (fpX0_firsts_l4 a1 M) FU ((0 : Int32), (0 : Int32))).bind fun r8 =>
 some r8
set_option maxRecDepth 20000 in
theorem ctX0_firsts {z : Zt} {M : Me} {Q : Option Value → Me → Prop} (a1 : Int32)  (h : ok (fpX0_firsts a1 M) (fun a => Q (some (.int a)) M)) : EvM (wX, z) mtX0_firsts 2 44 [.ref 46, .int a1] M Q := by
  refine evm_of [some (.ref 46), some (.int a1), none, none] 2 (by decide +kernel) (Nat.le_of_ble_eq_true rfl) rfl ?_
  unfold fpX0_firsts at h
  refine e_iconst (0 : Int32) dX0_firsts_0 (by decide) ?_
  refine e_istore_n dX0_firsts_1 (by decide) rfl ?_
  refine e_iconst (0 : Int32) dX0_firsts_2 (by decide) ?_
  refine e_istore_n dX0_firsts_3 (by decide) rfl ?_
  refine e_forget [some (.ref 46), some (.int a1), some (.int (0 : Int32)), some (.int (0 : Int32))] (leL_s (leL_s (leL_s (leL_s leL_0)))) ?_
  refine elX0_firsts_l4 a1 M FU ((0 : Int32), (0 : Int32)) (ok_bnd h (fun r8 h => ?_))
  show Ev (wX, z) mtX0_firsts 2 44 41 [none, none, some (.int r8), none] [] M Q
  refine e_iload_n dX0_firsts_41 rfl ?_
  have h := ok_some h
  exact e_iret rfl dX0_firsts_42 h
def fpX0_isRing (a1 : Int32) (a2 : Int32) (M : Me) : Option (Int32) := (if (a1 &&& ((M.1 46 3) ^^^ (-1 : Int32))) = 0 then
 (if (fpX0_isIn a2 a1) = 0 then
 some (0 : Int32)
 else
 (if (fpJ6_bitCount_0f7a4 a1) < (2 : Int32) then
 some (0 : Int32)
 else
 (fpX0_mostComing a1 a2 M).bind fun v7 =>
 (inb a2 8).bind fun k8 =>
 (if v7 < (M.1 50 k8) then
 some (0 : Int32)
 else
 some (1 : Int32))))
 else
 some (0 : Int32))
set_option maxRecDepth 20000 in
theorem ctX0_isRing {z : Zt} {M : Me} {Q : Option Value → Me → Prop} (a1 : Int32) (a2 : Int32)  (h : ok (fpX0_isRing a1 a2 M) (fun a => Q (some (.int a)) M)) : EvM (wX, z) mtX0_isRing 3 69 [.ref 46, .int a1, .int a2] M Q := by
  refine evm_of [some (.ref 46), some (.int a1), some (.int a2)] 0 (by decide +kernel) (Nat.le_of_ble_eq_true rfl) rfl ?_
  unfold fpX0_isRing at h
  refine e_iload_n dX0_isRing_0 rfl ?_
  refine e_aload_n dX0_isRing_1 rfl ?_
  refine e_getI fa_RX0_22 is_X46 dX0_isRing_2 ?_
  refine e_iconst (-1 : Int32) dX0_isRing_5 (by decide) ?_
  refine e_ixor dX0_isRing_6 ?_
  refine e_iand dX0_isRing_7 ?_
  refine e_if_ne 46 dX0_isRing_8 (by decide) (fun c4 => ?_) (fun c4 => ?_)
  · have h := ok_f c4 h
    refine e_iconst (0 : Int32) dX0_isRing_46 (by decide) ?_
    have h := ok_some h
    exact e_zret rfl (Or.inl rfl) dX0_isRing_47 h
  · have h := ok_t c4 h
    refine e_iload_n dX0_isRing_11 rfl ?_
    refine e_iload_n dX0_isRing_12 rfl ?_
    refine e_callS (f2 := 0) (l2 := 0) (ν := mtX0_isIn) (as := [.int a2, .int a1]) cs_RX0_98 ⟨Nat.le_of_ble_eq_true rfl, Nat.le_of_ble_eq_true rfl⟩ rfl rfl (Nat.le_of_ble_eq_true rfl) dX0_isRing_13 ?_
    refine ctX0_isIn a2 a1 ?_
    show Ev (wX, z) mtX0_isRing 3 69 16 [some (.ref 46), some (.int a1), some (.int a2)] [.int (fpX0_isIn a2 a1)] M Q
    refine e_if_eq 46 dX0_isRing_16 (by decide) (fun c5 => ?_) (fun c5 => ?_)
    · have h := ok_t c5 h
      refine e_iconst (0 : Int32) dX0_isRing_46 (by decide) ?_
      have h := ok_some h
      exact e_zret rfl (Or.inl rfl) dX0_isRing_47 h
    · have h := ok_f c5 h
      refine e_iload_n dX0_isRing_19 rfl ?_
      refine e_callS (f2 := 0) (l2 := 0) (ν := mtJ6_bitCount_0f7a4) (as := [.int a1]) cs_RX0_144 ⟨Nat.le_of_ble_eq_true rfl, Nat.le_of_ble_eq_true rfl⟩ rfl rfl (Nat.le_of_ble_eq_true rfl) dX0_isRing_20 ?_
      refine ctJ6_bitCount_0f7a4 a1 ?_
      show Ev (wX, z) mtX0_isRing 3 69 23 [some (.ref 46), some (.int a1), some (.int a2)] [.int (fpJ6_bitCount_0f7a4 a1)] M Q
      refine e_iconst (2 : Int32) dX0_isRing_23 (by decide) ?_
      refine e_icmp_lt 46 dX0_isRing_24 (by decide) (fun c6 => ?_) (fun c6 => ?_)
      · have h := ok_t c6 h
        refine e_iconst (0 : Int32) dX0_isRing_46 (by decide) ?_
        have h := ok_some h
        exact e_zret rfl (Or.inl rfl) dX0_isRing_47 h
      · have h := ok_f c6 h
        refine e_aload_n dX0_isRing_27 rfl ?_
        refine e_iload_n dX0_isRing_28 rfl ?_
        refine e_iload_n dX0_isRing_29 rfl ?_
        refine e_callV (f2 := 2) (l2 := 44) (ν := mtX0_mostComing) (as := [.int a1, .int a2]) cv_RX0_129 is_X46 kc_6 ⟨Nat.le_of_ble_eq_true rfl, Nat.le_of_ble_eq_true rfl⟩ rfl rfl (Nat.le_of_ble_eq_true rfl) dX0_isRing_30 ?_
        refine ctX0_mostComing a1 a2 (ok_bnd h (fun v7 h => ?_))
        show Ev (wX, z) mtX0_isRing 3 69 33 [some (.ref 46), some (.int a1), some (.int a2)] [.int v7] M Q
        refine e_aload_n dX0_isRing_33 rfl ?_
        refine e_getR fa_RX0_37 is_X46 rfl dX0_isRing_34 ?_
        refine e_iload_n dX0_isRing_37 rfl ?_
        refine ok_inb h (fun k8 ek8 ik8 h => ?_)
        refine e_ialdK ia_X50 ik8 ek8 dX0_isRing_38 ?_
        refine e_icmp_lt 46 dX0_isRing_39 (by decide) (fun c9 => ?_) (fun c9 => ?_)
        · have h := ok_t c9 h
          refine e_iconst (0 : Int32) dX0_isRing_46 (by decide) ?_
          have h := ok_some h
          exact e_zret rfl (Or.inl rfl) dX0_isRing_47 h
        · have h := ok_f c9 h
          refine e_iconst (1 : Int32) dX0_isRing_42 (by decide) ?_
          refine e_goto 47 dX0_isRing_43 (by decide) ?_
          have h := ok_some h
          exact e_zret rfl (Or.inr rfl) dX0_isRing_47 h
def fpX0_comesBefore (a0 : Int32) (a1 : Int32) : Int32 := (if a1 = 0 then (1 : Int32) else (if ((fpJ6_bitCount_0f7a4 a0) - (fpJ6_bitCount_0f7a4 a1)) < 0 then (1 : Int32) else (if ((fpJ6_bitCount_0f7a4 a0) - (fpJ6_bitCount_0f7a4 a1)) = 0 then (if a1 ≤ a0 then (0 : Int32) else (1 : Int32)) else (0 : Int32))))
theorem fpzX0_comesBefore (a0 : Int32) (a1 : Int32) : fpX0_comesBefore a0 a1 = 0 ∨ fpX0_comesBefore a0 a1 = 1 := by
  unfold fpX0_comesBefore
  (repeat' split) <;> first | exact Or.inl rfl | exact Or.inr rfl
set_option maxRecDepth 20000 in
theorem ctX0_comesBefore {z : Zt} {M : Me} {Q : Option Value → Me → Prop} (a0 : Int32) (a1 : Int32)  (h : Q (some (.int (fpX0_comesBefore a0 a1))) M) : EvM (wX, z) mtX0_comesBefore 1 20 [.int a0, .int a1] M Q := by
  refine evm_of [some (.int a0), some (.int a1), none] 1 (by decide +kernel) (Nat.le_of_ble_eq_true rfl) rfl ?_
  refine e_iload_n dX0_comesBefore_0 rfl ?_
  refine e_callS (f2 := 0) (l2 := 0) (ν := mtJ6_bitCount_0f7a4) (as := [.int a0]) cs_RX0_144 ⟨Nat.le_of_ble_eq_true rfl, Nat.le_of_ble_eq_true rfl⟩ rfl rfl (Nat.le_of_ble_eq_true rfl) dX0_comesBefore_1 ?_
  refine ctJ6_bitCount_0f7a4 a0 ?_
  show Ev (wX, z) mtX0_comesBefore 1 20 4 [some (.int a0), some (.int a1), none] [.int (fpJ6_bitCount_0f7a4 a0)] M Q
  refine e_iload_n dX0_comesBefore_4 rfl ?_
  refine e_callS (f2 := 0) (l2 := 0) (ν := mtJ6_bitCount_0f7a4) (as := [.int a1]) cs_RX0_144 ⟨Nat.le_of_ble_eq_true rfl, Nat.le_of_ble_eq_true rfl⟩ rfl rfl (Nat.le_of_ble_eq_true rfl) dX0_comesBefore_5 ?_
  refine ctJ6_bitCount_0f7a4 a1 ?_
  show Ev (wX, z) mtX0_comesBefore 1 20 8 [some (.int a0), some (.int a1), none] [.int (fpJ6_bitCount_0f7a4 a1), .int (fpJ6_bitCount_0f7a4 a0)] M Q
  refine e_isub dX0_comesBefore_8 ?_
  refine e_istore_n dX0_comesBefore_9 (by decide) rfl ?_
  refine e_iload_n dX0_comesBefore_10 rfl ?_
  refine e_if_eq 27 dX0_comesBefore_11 (by decide) (fun c1 => ?_) (fun c1 => ?_)
  · refine e_iconst (1 : Int32) dX0_comesBefore_27 (by decide) ?_
    refine e_goto 32 dX0_comesBefore_28 (by decide) ?_
    have e0 : fpX0_comesBefore a0 a1 = (1 : Int32) := by
      unfold fpX0_comesBefore
      rw [if_pos c1]
    rw [e0] at h
    exact e_zret rfl (Or.inr rfl) dX0_comesBefore_32 h
  · refine e_iload_n dX0_comesBefore_14 rfl ?_
    refine e_if_lt 27 dX0_comesBefore_15 (by decide) (fun c2 => ?_) (fun c2 => ?_)
    · refine e_iconst (1 : Int32) dX0_comesBefore_27 (by decide) ?_
      refine e_goto 32 dX0_comesBefore_28 (by decide) ?_
      have e0 : fpX0_comesBefore a0 a1 = (1 : Int32) := by
        unfold fpX0_comesBefore
        rw [if_neg c1, if_pos c2]
      rw [e0] at h
      exact e_zret rfl (Or.inr rfl) dX0_comesBefore_32 h
    · refine e_iload_n dX0_comesBefore_18 rfl ?_
      refine e_if_ne 31 dX0_comesBefore_19 (by decide) (fun c3 => ?_) (fun c3 => ?_)
      · refine e_iconst (0 : Int32) dX0_comesBefore_31 (by decide) ?_
        have e0 : fpX0_comesBefore a0 a1 = (0 : Int32) := by
          unfold fpX0_comesBefore
          rw [if_neg c1, if_neg c2, if_neg c3]
        rw [e0] at h
        exact e_zret rfl (Or.inl rfl) dX0_comesBefore_32 h
      · refine e_iload_n dX0_comesBefore_22 rfl ?_
        refine e_iload_n dX0_comesBefore_23 rfl ?_
        refine e_icmp_ge 31 dX0_comesBefore_24 (by decide) (fun c4 => ?_) (fun c4 => ?_)
        · refine e_iconst (0 : Int32) dX0_comesBefore_31 (by decide) ?_
          have e0 : fpX0_comesBefore a0 a1 = (0 : Int32) := by
            unfold fpX0_comesBefore
            rw [if_neg c1, if_neg c2, if_pos c3, if_pos c4]
          rw [e0] at h
          exact e_zret rfl (Or.inl rfl) dX0_comesBefore_32 h
        · refine e_iconst (1 : Int32) dX0_comesBefore_27 (by decide) ?_
          refine e_goto 32 dX0_comesBefore_28 (by decide) ?_
          have e0 : fpX0_comesBefore a0 a1 = (1 : Int32) := by
            unfold fpX0_comesBefore
            rw [if_neg c1, if_neg c2, if_pos c3, if_neg c4]
          rw [e0] at h
          exact e_zret rfl (Or.inr rfl) dX0_comesBefore_32 h
def XX0_smallestRing_4 (z : Zt) (Q : Option Value → Me → Prop) : (Int32 × Me) → Prop := fun t => Ev (wX, z) mtX0_smallestRing 4 97 81 [none, some (.int t.1), none, none] [] t.2 Q
def EX0_smallestRing_4 (z : Zt) (Q : Option Value → Me → Prop) : (Int32 × Int32 × Me) → Prop := fun s => Ev (wX, z) mtX0_smallestRing 4 97 4 [some (.ref 46), some (.int s.1), some (.int s.2.1), none] [] s.2.2 Q
def GX0_smallestRing_4 (z : Zt) (Q : Option Value → Me → Prop) : (Int32 × Int32 × Me) ⊕ (Int32 × Me) → Prop := Sum.elim (EX0_smallestRing_4 z Q) (XX0_smallestRing_4 z Q)
def XX0_smallestRing_40 (z : Zt) (a2 : Int32) (M : Me) (Q : Option Value → Me → Prop) : (Int32) → Prop := fun t => Ev (wX, z) mtX0_smallestRing 4 97 75 [some (.ref 46), some (.int t), some (.int a2), none] [] M Q
def EX0_smallestRing_40 (z : Zt) (a2 : Int32) (M : Me) (Q : Option Value → Me → Prop) : (Int32 × Int32) → Prop := fun s => Ev (wX, z) mtX0_smallestRing 4 97 40 [some (.ref 46), some (.int s.1), some (.int a2), some (.int s.2)] [] M Q
def GX0_smallestRing_40 (z : Zt) (a2 : Int32) (M : Me) (Q : Option Value → Me → Prop) : (Int32 × Int32) ⊕ (Int32) → Prop := Sum.elim (EX0_smallestRing_40 z a2 M Q) (XX0_smallestRing_40 z a2 M Q)
def fpX0_smallestRing_l40s (a2 : Int32) (a1 : Int32) (a3 : Int32) (M : Me) : Option ((Int32 × Int32) ⊕ (Int32)) := (if ((1 : Int32) <<< ((M.1 46 2) &&& 31)) ≤ a3 then
 some (.inr a1)
 else
 (fpX0_isRing a3 a2 M).bind fun v7 =>
 (if v7 = 0 then
 letv (a3 + (1 : Int32)) fun v9 =>
 some (.inl (a1, v9))
 else
 (if (fpX0_comesBefore a3 a1) = 0 then
 letv (a3 + (1 : Int32)) fun v11 =>
 some (.inl (a1, v11))
 else
 letv (a3 + (1 : Int32)) fun v12 =>
 some (.inl (a3, v12)))))
def fpX0_smallestRing_l40 (a2 : Int32) (M : Me) (s : Int32 × Int32) : Option ((Int32 × Int32) ⊕ (Int32)) := fpX0_smallestRing_l40s a2 s.1 s.2 M
set_option maxRecDepth 20000 in
theorem ebX0_smallestRing_l40s {z : Zt} {Q : Option Value → Me → Prop} (a2 : Int32) (a1 : Int32) (a3 : Int32) (M : Me) (h : ok (fpX0_smallestRing_l40s a2 a1 a3 M) (GX0_smallestRing_40 z a2 M Q)) : Ev (wX, z) mtX0_smallestRing 4 97 40 [some (.ref 46), some (.int a1), some (.int a2), some (.int a3)] [] M Q := by
  unfold fpX0_smallestRing_l40s at h
  refine e_iload_n dX0_smallestRing_40 rfl ?_
  refine e_iconst (1 : Int32) dX0_smallestRing_41 (by decide) ?_
  refine e_aload_n dX0_smallestRing_42 rfl ?_
  refine e_getI fa_RX0_19 is_X46 dX0_smallestRing_43 ?_
  refine e_ishl dX0_smallestRing_46 ?_
  refine e_icmp_ge 75 dX0_smallestRing_47 (by decide) (fun c6 => ?_) (fun c6 => ?_)
  · have h := ok_t c6 h
    refine e_forget [some (.ref 46), some (.int a1), some (.int a2), none] (leL_s (leL_s (leL_s (leL_n leL_0)))) ?_
    have h := ok_some h
    exact h
  · have h := ok_f c6 h
    refine e_aload_n dX0_smallestRing_50 rfl ?_
    refine e_iload_n dX0_smallestRing_51 rfl ?_
    refine e_iload_n dX0_smallestRing_52 rfl ?_
    refine e_callV (f2 := 3) (l2 := 69) (ν := mtX0_isRing) (as := [.int a3, .int a2]) cv_RX0_164 is_X46 kc_6 ⟨Nat.le_of_ble_eq_true rfl, Nat.le_of_ble_eq_true rfl⟩ rfl rfl (Nat.le_of_ble_eq_true rfl) dX0_smallestRing_53 ?_
    refine ctX0_isRing a3 a2 (ok_bnd h (fun v7 h => ?_))
    show Ev (wX, z) mtX0_smallestRing 4 97 56 [some (.ref 46), some (.int a1), some (.int a2), some (.int a3)] [.int v7] M Q
    refine e_if_eq 69 dX0_smallestRing_56 (by decide) (fun c8 => ?_) (fun c8 => ?_)
    · have h := ok_t c8 h
      refine lv1e h (fun v9 ev9 h => ?_)
      refine e_iinc v9 dX0_smallestRing_69 rfl ev9 (by decide) rfl ?_
      refine e_goto 40 dX0_smallestRing_72 (by decide) ?_
      refine e_forget [some (.ref 46), some (.int a1), some (.int a2), some (.int v9)] (leL_s (leL_s (leL_s (leL_s leL_0)))) ?_
      have h := ok_some h
      exact h
    · have h := ok_f c8 h
      refine e_iload_n dX0_smallestRing_59 rfl ?_
      refine e_iload_n dX0_smallestRing_60 rfl ?_
      refine e_callS (f2 := 1) (l2 := 20) (ν := mtX0_comesBefore) (as := [.int a3, .int a1]) cs_RX0_167 ⟨Nat.le_of_ble_eq_true rfl, Nat.le_of_ble_eq_true rfl⟩ rfl rfl (Nat.le_of_ble_eq_true rfl) dX0_smallestRing_61 ?_
      refine ctX0_comesBefore a3 a1 ?_
      show Ev (wX, z) mtX0_smallestRing 4 97 64 [some (.ref 46), some (.int a1), some (.int a2), some (.int a3)] [.int (fpX0_comesBefore a3 a1)] M Q
      refine e_if_eq 69 dX0_smallestRing_64 (by decide) (fun c10 => ?_) (fun c10 => ?_)
      · have h := ok_t c10 h
        refine lv1e h (fun v11 ev11 h => ?_)
        refine e_iinc v11 dX0_smallestRing_69 rfl ev11 (by decide) rfl ?_
        refine e_goto 40 dX0_smallestRing_72 (by decide) ?_
        refine e_forget [some (.ref 46), some (.int a1), some (.int a2), some (.int v11)] (leL_s (leL_s (leL_s (leL_s leL_0)))) ?_
        have h := ok_some h
        exact h
      · have h := ok_f c10 h
        refine e_iload_n dX0_smallestRing_67 rfl ?_
        refine e_istore_n dX0_smallestRing_68 (by decide) rfl ?_
        refine lv1e h (fun v12 ev12 h => ?_)
        refine e_iinc v12 dX0_smallestRing_69 rfl ev12 (by decide) rfl ?_
        refine e_goto 40 dX0_smallestRing_72 (by decide) ?_
        refine e_forget [some (.ref 46), some (.int a3), some (.int a2), some (.int v12)] (leL_s (leL_s (leL_s (leL_s leL_0)))) ?_
        have h := ok_some h
        exact h
theorem elX0_smallestRing_l40 {z : Zt} {Q : Option Value → Me → Prop} (a2 : Int32) (M : Me) (N : Nat) (s : Int32 × Int32) (h : ok (lp (fpX0_smallestRing_l40 a2 M) N s) (XX0_smallestRing_40 z a2 M Q)) : EX0_smallestRing_40 z a2 M Q s :=
  lp_ind (fun s h => ebX0_smallestRing_l40s a2 s.1 s.2 M h) N s h
def fpX0_smallestRing_l4s (a1 : Int32) (a2 : Int32) (M : Me) : Option ((Int32 × Int32 × Me) ⊕ (Int32 × Me)) := (if (M.1 46 2) ≤ a2 then
 some (.inr (a1, M))
 else
 (if (fpX0_isIn a2 (M.1 46 3)) = 0 then
 letv (a2 + (1 : Int32)) fun v3 =>
 some (.inl (a1, v3, M))
 else
 (inb a2 8).bind fun k4 =>
 (fpX0_spread (1 : Int32) a2 (M.1 50 k4) ((1 : Int32) <<< (a2 &&& 31)) M).bind fun q5 =>
 (lp (fpX0_smallestRing_l40 a2 q5) FU (a1, (1 : Int32))).bind fun r13 =>
 letv (a2 + (1 : Int32)) fun v14 =>
 some (.inl (r13, v14, q5))))
def fpX0_smallestRing_l4 (s : Int32 × Int32 × Me) : Option ((Int32 × Int32 × Me) ⊕ (Int32 × Me)) := fpX0_smallestRing_l4s s.1 s.2.1 s.2.2
set_option maxRecDepth 20000 in
theorem ebX0_smallestRing_l4s {z : Zt} {Q : Option Value → Me → Prop} (a1 : Int32) (a2 : Int32) (M : Me) (h : ok (fpX0_smallestRing_l4s a1 a2 M) (GX0_smallestRing_4 z Q)) : Ev (wX, z) mtX0_smallestRing 4 97 4 [some (.ref 46), some (.int a1), some (.int a2), none] [] M Q := by
  unfold fpX0_smallestRing_l4s at h
  refine e_iload_n dX0_smallestRing_4 rfl ?_
  refine e_aload_n dX0_smallestRing_5 rfl ?_
  refine e_getI fa_RX0_19 is_X46 dX0_smallestRing_6 ?_
  refine e_icmp_ge 81 dX0_smallestRing_9 (by decide) (fun c1 => ?_) (fun c1 => ?_)
  · have h := ok_t c1 h
    refine e_forget [none, some (.int a1), none, none] (leL_n (leL_s (leL_n (leL_n leL_0)))) ?_
    have h := ok_some h
    exact h
  · have h := ok_f c1 h
    refine e_iload_n dX0_smallestRing_12 rfl ?_
    refine e_aload_n dX0_smallestRing_13 rfl ?_
    refine e_getI fa_RX0_22 is_X46 dX0_smallestRing_14 ?_
    refine e_callS (f2 := 0) (l2 := 0) (ν := mtX0_isIn) (as := [.int a2, .int (M.1 46 3)]) cs_RX0_98 ⟨Nat.le_of_ble_eq_true rfl, Nat.le_of_ble_eq_true rfl⟩ rfl rfl (Nat.le_of_ble_eq_true rfl) dX0_smallestRing_17 ?_
    refine ctX0_isIn a2 (M.1 46 3) ?_
    show Ev (wX, z) mtX0_smallestRing 4 97 20 [some (.ref 46), some (.int a1), some (.int a2), none] [.int (fpX0_isIn a2 (M.1 46 3))] M Q
    refine e_if_eq 75 dX0_smallestRing_20 (by decide) (fun c2 => ?_) (fun c2 => ?_)
    · have h := ok_t c2 h
      refine lv1e h (fun v3 ev3 h => ?_)
      refine e_iinc v3 dX0_smallestRing_75 rfl ev3 (by decide) rfl ?_
      refine e_goto 4 dX0_smallestRing_78 (by decide) ?_
      refine e_forget [some (.ref 46), some (.int a1), some (.int v3), none] (leL_s (leL_s (leL_s (leL_n leL_0)))) ?_
      have h := ok_some h
      exact h
    · have h := ok_f c2 h
      refine e_aload_n dX0_smallestRing_23 rfl ?_
      refine e_iconst (1 : Int32) dX0_smallestRing_24 (by decide) ?_
      refine e_iload_n dX0_smallestRing_25 rfl ?_
      refine e_aload_n dX0_smallestRing_26 rfl ?_
      refine e_getR fa_RX0_37 is_X46 rfl dX0_smallestRing_27 ?_
      refine e_iload_n dX0_smallestRing_30 rfl ?_
      refine ok_inb h (fun k4 ek4 ik4 h => ?_)
      refine e_ialdK ia_X50 ik4 ek4 dX0_smallestRing_31 ?_
      refine e_iconst (1 : Int32) dX0_smallestRing_32 (by decide) ?_
      refine e_iload_n dX0_smallestRing_33 rfl ?_
      refine e_ishl dX0_smallestRing_34 ?_
      refine e_callV (f2 := 3) (l2 := 69) (ν := mtX0_spread) (as := [.int (1 : Int32), .int a2, .int (M.1 50 k4), .int ((1 : Int32) <<< (a2 &&& 31))]) cv_RX0_122 is_X46 kc_6 ⟨Nat.le_of_ble_eq_true rfl, Nat.le_of_ble_eq_true rfl⟩ rfl rfl (Nat.le_of_ble_eq_true rfl) dX0_smallestRing_35 ?_
      refine ctX0_spread (1 : Int32) a2 (M.1 50 k4) ((1 : Int32) <<< (a2 &&& 31)) (ok_bnd h (fun q5 h => ?_))
      show Ev (wX, z) mtX0_smallestRing 4 97 38 [some (.ref 46), some (.int a1), some (.int a2), none] [] q5 Q
      refine e_iconst (1 : Int32) dX0_smallestRing_38 (by decide) ?_
      refine e_istore_n dX0_smallestRing_39 (by decide) rfl ?_
      refine e_forget [some (.ref 46), some (.int a1), some (.int a2), some (.int (1 : Int32))] (leL_s (leL_s (leL_s (leL_s leL_0)))) ?_
      refine elX0_smallestRing_l40 a2 q5 FU (a1, (1 : Int32)) (ok_bnd h (fun r13 h => ?_))
      show Ev (wX, z) mtX0_smallestRing 4 97 75 [some (.ref 46), some (.int r13), some (.int a2), none] [] q5 Q
      refine lv1e h (fun v14 ev14 h => ?_)
      refine e_iinc v14 dX0_smallestRing_75 rfl ev14 (by decide) rfl ?_
      refine e_goto 4 dX0_smallestRing_78 (by decide) ?_
      refine e_forget [some (.ref 46), some (.int r13), some (.int v14), none] (leL_s (leL_s (leL_s (leL_n leL_0)))) ?_
      have h := ok_some h
      exact h
theorem elX0_smallestRing_l4 {z : Zt} {Q : Option Value → Me → Prop} (N : Nat) (s : Int32 × Int32 × Me) (h : ok (lp (fpX0_smallestRing_l4) N s) (XX0_smallestRing_4 z Q)) : EX0_smallestRing_4 z Q s :=
  lp_ind (fun s h => ebX0_smallestRing_l4s s.1 s.2.1 s.2.2 h) N s h
def fpX0_smallestRing  (M : Me) : Option (Int32 × Me) := (lp (fpX0_smallestRing_l4) FU ((0 : Int32), (0 : Int32), M)).bind fun r15 =>
 some (r15.1, r15.2)
set_option maxRecDepth 20000 in
theorem ctX0_smallestRing {z : Zt} {M : Me} {Q : Option Value → Me → Prop}   (h : ok (fpX0_smallestRing M) (fun a => Q (some (.int a.1)) a.2)) : EvM (wX, z) mtX0_smallestRing 4 97 [.ref 46] M Q := by
  refine evm_of [some (.ref 46), none, none, none] 3 (by decide +kernel) (Nat.le_of_ble_eq_true rfl) rfl ?_
  unfold fpX0_smallestRing at h
  refine e_iconst (0 : Int32) dX0_smallestRing_0 (by decide) ?_
  refine e_istore_n dX0_smallestRing_1 (by decide) rfl ?_
  refine e_iconst (0 : Int32) dX0_smallestRing_2 (by decide) ?_
  refine e_istore_n dX0_smallestRing_3 (by decide) rfl ?_
  refine e_forget [some (.ref 46), some (.int (0 : Int32)), some (.int (0 : Int32)), none] (leL_s (leL_s (leL_s (leL_n leL_0)))) ?_
  refine elX0_smallestRing_l4 FU ((0 : Int32), (0 : Int32), M) (ok_bnd h (fun r15 h => ?_))
  show Ev (wX, z) mtX0_smallestRing 4 97 81 [none, some (.int r15.1), none, none] [] r15.2 Q
  refine e_iload_n dX0_smallestRing_81 rfl ?_
  have h := ok_some h
  exact e_iret rfl dX0_smallestRing_82 h
def XX0_dearest_14 (z : Zt) (a1 : Int32) (a2 : Int32) (Q : Option Value → Me → Prop) : (Int32 × Me) → Prop := fun t => Ev (wX, z) mtX0_dearest 6 143 62 [some (.ref 46), none, some (.int a2), some (.int t.1), none, none, none] [] t.2 Q
def EX0_dearest_14 (z : Zt) (a1 : Int32) (a2 : Int32) (Q : Option Value → Me → Prop) : (Int32 × Int32 × Int32 × Me) → Prop := fun s => Ev (wX, z) mtX0_dearest 6 143 14 [some (.ref 46), some (.int a1), some (.int a2), some (.int s.1), some (.int s.2.1), some (.int s.2.2.1), none] [] s.2.2.2 Q
def GX0_dearest_14 (z : Zt) (a1 : Int32) (a2 : Int32) (Q : Option Value → Me → Prop) : (Int32 × Int32 × Int32 × Me) ⊕ (Int32 × Me) → Prop := Sum.elim (EX0_dearest_14 z a1 a2 Q) (XX0_dearest_14 z a1 a2 Q)
def fpX0_dearest_l14s (a1 : Int32) (a2 : Int32) (a3 : Int32) (a4 : Int32) (a5 : Int32) (M : Me) : Option ((Int32 × Int32 × Int32 × Me) ⊕ (Int32 × Me)) := (if (M.1 46 2) ≤ a5 then
 some (.inr (a3, M))
 else
 letv (wrM M 46 3 (a2 &&& (((1 : Int32) <<< (a5 &&& 31)) ^^^ (-1 : Int32)))) fun M3 =>
 (fpX0_mostWith a1 M3).bind fun q4 =>
 (if a4 ≤ q4.1 then
 letv (a5 + (1 : Int32)) fun v6 =>
 some (.inl (a3, a4, v6, q4.2))
 else
 letv (a5 + (1 : Int32)) fun v7 =>
 some (.inl (a5, q4.1, v7, q4.2))))
def fpX0_dearest_l14 (a1 : Int32) (a2 : Int32) (s : Int32 × Int32 × Int32 × Me) : Option ((Int32 × Int32 × Int32 × Me) ⊕ (Int32 × Me)) := fpX0_dearest_l14s a1 a2 s.1 s.2.1 s.2.2.1 s.2.2.2
set_option maxRecDepth 20000 in
theorem ebX0_dearest_l14s {z : Zt} {Q : Option Value → Me → Prop} (a1 : Int32) (a2 : Int32) (a3 : Int32) (a4 : Int32) (a5 : Int32) (M : Me) (h : ok (fpX0_dearest_l14s a1 a2 a3 a4 a5 M) (GX0_dearest_14 z a1 a2 Q)) : Ev (wX, z) mtX0_dearest 6 143 14 [some (.ref 46), some (.int a1), some (.int a2), some (.int a3), some (.int a4), some (.int a5), none] [] M Q := by
  unfold fpX0_dearest_l14s at h
  refine e_iload dX0_dearest_14 rfl ?_
  refine e_aload_n dX0_dearest_16 rfl ?_
  refine e_getI fa_RX0_19 is_X46 dX0_dearest_17 ?_
  refine e_icmp_ge 62 dX0_dearest_20 (by decide) (fun c2 => ?_) (fun c2 => ?_)
  · have h := ok_t c2 h
    refine e_forget [some (.ref 46), none, some (.int a2), some (.int a3), none, none, none] (leL_s (leL_n (leL_s (leL_s (leL_n (leL_n (leL_n leL_0))))))) ?_
    have h := ok_some h
    exact h
  · have h := ok_f c2 h
    refine e_aload_n dX0_dearest_23 rfl ?_
    refine e_iload_n dX0_dearest_24 rfl ?_
    refine e_iconst (1 : Int32) dX0_dearest_25 (by decide) ?_
    refine e_iload dX0_dearest_26 rfl ?_
    refine e_ishl dX0_dearest_28 ?_
    refine e_iconst (-1 : Int32) dX0_dearest_29 (by decide) ?_
    refine e_ixor dX0_dearest_30 ?_
    refine e_iand dX0_dearest_31 ?_
    refine e_putI fw_RX0_22 is_X46 dX0_dearest_32 ?_
    refine lv1 (P := fun M3 => Ev (wX, z) mtX0_dearest 6 143 35 [some (.ref 46), some (.int a1), some (.int a2), some (.int a3), some (.int a4), some (.int a5), none] [] M3 Q) h (fun M3 h => ?_)
    refine e_aload_n dX0_dearest_35 rfl ?_
    refine e_iload_n dX0_dearest_36 rfl ?_
    refine e_callV (f2 := 5) (l2 := 122) (ν := mtX0_mostWith) (as := [.int a1]) cv_RX0_132 is_X46 kc_6 ⟨Nat.le_of_ble_eq_true rfl, Nat.le_of_ble_eq_true rfl⟩ rfl rfl (Nat.le_of_ble_eq_true rfl) dX0_dearest_37 ?_
    refine ctX0_mostWith a1 (ok_bnd h (fun q4 h => ?_))
    show Ev (wX, z) mtX0_dearest 6 143 40 [some (.ref 46), some (.int a1), some (.int a2), some (.int a3), some (.int a4), some (.int a5), none] [.int q4.1] q4.2 Q
    refine e_istore dX0_dearest_40 (by decide) rfl ?_
    refine e_iload dX0_dearest_42 rfl ?_
    refine e_iload dX0_dearest_44 rfl ?_
    refine e_icmp_ge 56 dX0_dearest_46 (by decide) (fun c5 => ?_) (fun c5 => ?_)
    · have h := ok_t c5 h
      refine lv1e h (fun v6 ev6 h => ?_)
      refine e_iinc v6 dX0_dearest_56 rfl ev6 (by decide) rfl ?_
      refine e_goto 14 dX0_dearest_59 (by decide) ?_
      refine e_forget [some (.ref 46), some (.int a1), some (.int a2), some (.int a3), some (.int a4), some (.int v6), none] (leL_s (leL_s (leL_s (leL_s (leL_s (leL_s (leL_n leL_0))))))) ?_
      have h := ok_some h
      exact h
    · have h := ok_f c5 h
      refine e_iload dX0_dearest_49 rfl ?_
      refine e_istore dX0_dearest_51 (by decide) rfl ?_
      refine e_iload dX0_dearest_53 rfl ?_
      refine e_istore_n dX0_dearest_55 (by decide) rfl ?_
      refine lv1e h (fun v7 ev7 h => ?_)
      refine e_iinc v7 dX0_dearest_56 rfl ev7 (by decide) rfl ?_
      refine e_goto 14 dX0_dearest_59 (by decide) ?_
      refine e_forget [some (.ref 46), some (.int a1), some (.int a2), some (.int a5), some (.int q4.1), some (.int v7), none] (leL_s (leL_s (leL_s (leL_s (leL_s (leL_s (leL_n leL_0))))))) ?_
      have h := ok_some h
      exact h
theorem elX0_dearest_l14 {z : Zt} {Q : Option Value → Me → Prop} (a1 : Int32) (a2 : Int32) (N : Nat) (s : Int32 × Int32 × Int32 × Me) (h : ok (lp (fpX0_dearest_l14 a1 a2) N s) (XX0_dearest_14 z a1 a2 Q)) : EX0_dearest_14 z a1 a2 Q s :=
  lp_ind (fun s h => ebX0_dearest_l14s a1 a2 s.1 s.2.1 s.2.2.1 s.2.2.2 h) N s h
def fpX0_dearest (a1 : Int32) (M : Me) : Option (Int32 × Me) := letv (M.1 46 3) fun v1 =>
 (lp (fpX0_dearest_l14 a1 v1) FU ((0 : Int32), (1000000 : Int32), (0 : Int32), M)).bind fun r8 =>
 letv (wrM r8.2 46 3 v1) fun M9 =>
 some (r8.1, M9)
set_option maxRecDepth 20000 in
theorem ctX0_dearest {z : Zt} {M : Me} {Q : Option Value → Me → Prop} (a1 : Int32)  (h : ok (fpX0_dearest a1 M) (fun a => Q (some (.int a.1)) a.2)) : EvM (wX, z) mtX0_dearest 6 143 [.ref 46, .int a1] M Q := by
  refine evm_of [some (.ref 46), some (.int a1), none, none, none, none, none] 5 (by decide +kernel) (Nat.le_of_ble_eq_true rfl) rfl ?_
  unfold fpX0_dearest at h
  refine e_aload_n dX0_dearest_0 rfl ?_
  refine e_getI fa_RX0_22 is_X46 dX0_dearest_1 ?_
  refine lv1 (P := fun v1 => Ev (wX, z) mtX0_dearest 6 143 4 [some (.ref 46), some (.int a1), none, none, none, none, none] [.int v1] M Q) h (fun v1 h => ?_)
  refine e_istore_n dX0_dearest_4 (by decide) rfl ?_
  refine e_iconst (0 : Int32) dX0_dearest_5 (by decide) ?_
  refine e_istore_n dX0_dearest_6 (by decide) rfl ?_
  refine e_ldc wk_RX0_153 dX0_dearest_7 ?_
  refine e_istore dX0_dearest_9 (by decide) rfl ?_
  refine e_iconst (0 : Int32) dX0_dearest_11 (by decide) ?_
  refine e_istore dX0_dearest_12 (by decide) rfl ?_
  refine e_forget [some (.ref 46), some (.int a1), some (.int v1), some (.int (0 : Int32)), some (.int (1000000 : Int32)), some (.int (0 : Int32)), none] (leL_s (leL_s (leL_s (leL_s (leL_s (leL_s (leL_n leL_0))))))) ?_
  refine elX0_dearest_l14 a1 v1 FU ((0 : Int32), (1000000 : Int32), (0 : Int32), M) (ok_bnd h (fun r8 h => ?_))
  show Ev (wX, z) mtX0_dearest 6 143 62 [some (.ref 46), none, some (.int v1), some (.int r8.1), none, none, none] [] r8.2 Q
  refine e_aload_n dX0_dearest_62 rfl ?_
  refine e_iload_n dX0_dearest_63 rfl ?_
  refine e_putI fw_RX0_22 is_X46 dX0_dearest_64 ?_
  refine lv1 (P := fun M9 => Ev (wX, z) mtX0_dearest 6 143 67 [some (.ref 46), none, some (.int v1), some (.int r8.1), none, none, none] [] M9 Q) h (fun M9 h => ?_)
  refine e_iload_n dX0_dearest_67 rfl ?_
  have h := ok_some h
  exact e_iret rfl dX0_dearest_68 h
def XX0_bestSpring_56 (z : Zt) (a1 : Int32) (a2 : Int32) (a3 : Int32) (Q : Option Value → Me → Prop) : (Int32 × Me) → Prop := fun t => Ev (wX, z) mtX0_bestSpring 6 143 107 [none, none, none, none, some (.int t.1), none, none, none] [] t.2 Q
def EX0_bestSpring_56 (z : Zt) (a1 : Int32) (a2 : Int32) (a3 : Int32) (Q : Option Value → Me → Prop) : (Int32 × Int32 × Int32 × Me) → Prop := fun s => Ev (wX, z) mtX0_bestSpring 6 143 56 [some (.ref 46), some (.int a1), some (.int a2), some (.int a3), some (.int s.1), some (.int s.2.1), some (.int s.2.2.1), none] [] s.2.2.2 Q
def GX0_bestSpring_56 (z : Zt) (a1 : Int32) (a2 : Int32) (a3 : Int32) (Q : Option Value → Me → Prop) : (Int32 × Int32 × Int32 × Me) ⊕ (Int32 × Me) → Prop := Sum.elim (EX0_bestSpring_56 z a1 a2 a3 Q) (XX0_bestSpring_56 z a1 a2 a3 Q)
def fpX0_bestSpring_l56s (a1 : Int32) (a2 : Int32) (a3 : Int32) (a4 : Int32) (a5 : Int32) (a6 : Int32) (M : Me) : Option ((Int32 × Int32 × Int32 × Me) ⊕ (Int32 × Me)) := (if (99 : Int32) < a6 then
 some (.inr (a4, M))
 else
 (inb a3 10).bind fun k9 =>
 letv (wrM M 48 k9 a6) fun M10 =>
 (fpX0_measure M10).bind fun q11 =>
 (fpX0_mostFrom ((1 : Int32) <<< (a3 &&& 31)) a1 a2 q11).bind fun q12 =>
 (if q12.1 ≤ a5 then
 letv (a6 + (1 : Int32)) fun v14 =>
 some (.inl (a4, a5, v14, q12.2))
 else
 letv (a6 + (1 : Int32)) fun v15 =>
 some (.inl (a6, q12.1, v15, q12.2))))
def fpX0_bestSpring_l56 (a1 : Int32) (a2 : Int32) (a3 : Int32) (s : Int32 × Int32 × Int32 × Me) : Option ((Int32 × Int32 × Int32 × Me) ⊕ (Int32 × Me)) := fpX0_bestSpring_l56s a1 a2 a3 s.1 s.2.1 s.2.2.1 s.2.2.2
set_option maxRecDepth 20000 in
theorem ebX0_bestSpring_l56s {z : Zt} {Q : Option Value → Me → Prop} (a1 : Int32) (a2 : Int32) (a3 : Int32) (a4 : Int32) (a5 : Int32) (a6 : Int32) (M : Me) (h : ok (fpX0_bestSpring_l56s a1 a2 a3 a4 a5 a6 M) (GX0_bestSpring_56 z a1 a2 a3 Q)) : Ev (wX, z) mtX0_bestSpring 6 143 56 [some (.ref 46), some (.int a1), some (.int a2), some (.int a3), some (.int a4), some (.int a5), some (.int a6), none] [] M Q := by
  unfold fpX0_bestSpring_l56s at h
  refine e_iload dX0_bestSpring_56 rfl ?_
  refine e_bipush (99 : Int32) dX0_bestSpring_58 (by decide) ?_
  refine e_icmp_gt 107 dX0_bestSpring_60 (by decide) (fun c8 => ?_) (fun c8 => ?_)
  · have h := ok_t c8 h
    refine e_forget [none, none, none, none, some (.int a4), none, none, none] (leL_n (leL_n (leL_n (leL_n (leL_s (leL_n (leL_n (leL_n leL_0)))))))) ?_
    have h := ok_some h
    exact h
  · have h := ok_f c8 h
    refine e_aload_n dX0_bestSpring_63 rfl ?_
    refine e_getR fa_RX0_31 is_X46 rfl dX0_bestSpring_64 ?_
    refine e_iload_n dX0_bestSpring_67 rfl ?_
    refine e_iload dX0_bestSpring_68 rfl ?_
    refine ok_inb h (fun k9 ek9 ik9 h => ?_)
    refine e_iastK ia_X48 ik9 ek9 dX0_bestSpring_70 ?_
    refine lv1 (P := fun M10 => Ev (wX, z) mtX0_bestSpring 6 143 71 [some (.ref 46), some (.int a1), some (.int a2), some (.int a3), some (.int a4), some (.int a5), some (.int a6), none] [] M10 Q) h (fun M10 h => ?_)
    refine e_aload_n dX0_bestSpring_71 rfl ?_
    refine e_callV (f2 := 2) (l2 := 42) (ν := mtX0_measure) (as := []) cv_RX0_86 is_X46 kc_6 ⟨Nat.le_of_ble_eq_true rfl, Nat.le_of_ble_eq_true rfl⟩ rfl rfl (Nat.le_of_ble_eq_true rfl) dX0_bestSpring_72 ?_
    refine ctX0_measure (ok_bnd h (fun q11 h => ?_))
    show Ev (wX, z) mtX0_bestSpring 6 143 75 [some (.ref 46), some (.int a1), some (.int a2), some (.int a3), some (.int a4), some (.int a5), some (.int a6), none] [] q11 Q
    refine e_aload_n dX0_bestSpring_75 rfl ?_
    refine e_iconst (1 : Int32) dX0_bestSpring_76 (by decide) ?_
    refine e_iload_n dX0_bestSpring_77 rfl ?_
    refine e_ishl dX0_bestSpring_78 ?_
    refine e_iload_n dX0_bestSpring_79 rfl ?_
    refine e_iload_n dX0_bestSpring_80 rfl ?_
    refine e_callV (f2 := 4) (l2 := 97) (ν := mtX0_mostFrom) (as := [.int ((1 : Int32) <<< (a3 &&& 31)), .int a1, .int a2]) cv_RX0_119 is_X46 kc_6 ⟨Nat.le_of_ble_eq_true rfl, Nat.le_of_ble_eq_true rfl⟩ rfl rfl (Nat.le_of_ble_eq_true rfl) dX0_bestSpring_81 ?_
    refine ctX0_mostFrom ((1 : Int32) <<< (a3 &&& 31)) a1 a2 (ok_bnd h (fun q12 h => ?_))
    show Ev (wX, z) mtX0_bestSpring 6 143 84 [some (.ref 46), some (.int a1), some (.int a2), some (.int a3), some (.int a4), some (.int a5), some (.int a6), none] [.int q12.1] q12.2 Q
    refine e_istore dX0_bestSpring_84 (by decide) rfl ?_
    refine e_iload dX0_bestSpring_86 rfl ?_
    refine e_iload dX0_bestSpring_88 rfl ?_
    refine e_icmp_le 101 dX0_bestSpring_90 (by decide) (fun c13 => ?_) (fun c13 => ?_)
    · have h := ok_t c13 h
      refine lv1e h (fun v14 ev14 h => ?_)
      refine e_iinc v14 dX0_bestSpring_101 rfl ev14 (by decide) rfl ?_
      refine e_goto 56 dX0_bestSpring_104 (by decide) ?_
      refine e_forget [some (.ref 46), some (.int a1), some (.int a2), some (.int a3), some (.int a4), some (.int a5), some (.int v14), none] (leL_s (leL_s (leL_s (leL_s (leL_s (leL_s (leL_s (leL_n leL_0)))))))) ?_
      have h := ok_some h
      exact h
    · have h := ok_f c13 h
      refine e_iload dX0_bestSpring_93 rfl ?_
      refine e_istore dX0_bestSpring_95 (by decide) rfl ?_
      refine e_iload dX0_bestSpring_97 rfl ?_
      refine e_istore dX0_bestSpring_99 (by decide) rfl ?_
      refine lv1e h (fun v15 ev15 h => ?_)
      refine e_iinc v15 dX0_bestSpring_101 rfl ev15 (by decide) rfl ?_
      refine e_goto 56 dX0_bestSpring_104 (by decide) ?_
      refine e_forget [some (.ref 46), some (.int a1), some (.int a2), some (.int a3), some (.int a6), some (.int q12.1), some (.int v15), none] (leL_s (leL_s (leL_s (leL_s (leL_s (leL_s (leL_s (leL_n leL_0)))))))) ?_
      have h := ok_some h
      exact h
theorem elX0_bestSpring_l56 {z : Zt} {Q : Option Value → Me → Prop} (a1 : Int32) (a2 : Int32) (a3 : Int32) (N : Nat) (s : Int32 × Int32 × Int32 × Me) (h : ok (lp (fpX0_bestSpring_l56 a1 a2 a3) N s) (XX0_bestSpring_56 z a1 a2 a3 Q)) : EX0_bestSpring_56 z a1 a2 a3 Q s :=
  lp_ind (fun s h => ebX0_bestSpring_l56s a1 a2 a3 s.1 s.2.1 s.2.2.1 s.2.2.2 h) N s h
def fpX0_bestSpring (a1 : Int32) (M : Me) : Option (Int32 × Me) := (fpX0_mostWith a1 M).bind fun q1 =>
 letv (q1.2.1 46 2) fun v2 =>
 letv (wrM q1.2 46 2 ((q1.2.1 46 2) + (1 : Int32))) fun M3 =>
 letv (wrM M3 46 3 ((M3.1 46 3) ||| ((1 : Int32) <<< (v2 &&& 31)))) fun M4 =>
 (inb v2 8).bind fun k5 =>
 letv (wrM M4 50 k5 (0 : Int32)) fun M6 =>
 letv (wrM M6 51 k5 (1 : Int32)) fun M7 =>
 (lp (fpX0_bestSpring_l56 a1 q1.1 v2) FU ((0 : Int32), (-1 : Int32), (0 : Int32), M7)).bind fun r16 =>
 some (r16.1, r16.2)
set_option maxRecDepth 20000 in
theorem ctX0_bestSpring {z : Zt} {M : Me} {Q : Option Value → Me → Prop} (a1 : Int32)  (h : ok (fpX0_bestSpring a1 M) (fun a => Q (some (.int a.1)) a.2)) : EvM (wX, z) mtX0_bestSpring 6 143 [.ref 46, .int a1] M Q := by
  refine evm_of [some (.ref 46), some (.int a1), none, none, none, none, none, none] 6 (by decide +kernel) (Nat.le_of_ble_eq_true rfl) rfl ?_
  unfold fpX0_bestSpring at h
  refine e_aload_n dX0_bestSpring_0 rfl ?_
  refine e_iload_n dX0_bestSpring_1 rfl ?_
  refine e_callV (f2 := 5) (l2 := 122) (ν := mtX0_mostWith) (as := [.int a1]) cv_RX0_132 is_X46 kc_6 ⟨Nat.le_of_ble_eq_true rfl, Nat.le_of_ble_eq_true rfl⟩ rfl rfl (Nat.le_of_ble_eq_true rfl) dX0_bestSpring_2 ?_
  refine ctX0_mostWith a1 (ok_bnd h (fun q1 h => ?_))
  show Ev (wX, z) mtX0_bestSpring 6 143 5 [some (.ref 46), some (.int a1), none, none, none, none, none, none] [.int q1.1] q1.2 Q
  refine e_istore_n dX0_bestSpring_5 (by decide) rfl ?_
  refine e_aload_n dX0_bestSpring_6 rfl ?_
  refine e_getI fa_RX0_19 is_X46 dX0_bestSpring_7 ?_
  refine lv1 (P := fun v2 => Ev (wX, z) mtX0_bestSpring 6 143 10 [some (.ref 46), some (.int a1), some (.int q1.1), none, none, none, none, none] [.int v2] q1.2 Q) h (fun v2 h => ?_)
  refine e_istore_n dX0_bestSpring_10 (by decide) rfl ?_
  refine e_aload_n dX0_bestSpring_11 rfl ?_
  refine e_dup dX0_bestSpring_12 rfl ?_
  refine e_getI fa_RX0_19 is_X46 dX0_bestSpring_13 ?_
  refine e_iconst (1 : Int32) dX0_bestSpring_16 (by decide) ?_
  refine e_iadd dX0_bestSpring_17 ?_
  refine e_putI fw_RX0_19 is_X46 dX0_bestSpring_18 ?_
  refine lv1 (P := fun M3 => Ev (wX, z) mtX0_bestSpring 6 143 21 [some (.ref 46), some (.int a1), some (.int q1.1), some (.int v2), none, none, none, none] [] M3 Q) h (fun M3 h => ?_)
  refine e_aload_n dX0_bestSpring_21 rfl ?_
  refine e_dup dX0_bestSpring_22 rfl ?_
  refine e_getI fa_RX0_22 is_X46 dX0_bestSpring_23 ?_
  refine e_iconst (1 : Int32) dX0_bestSpring_26 (by decide) ?_
  refine e_iload_n dX0_bestSpring_27 rfl ?_
  refine e_ishl dX0_bestSpring_28 ?_
  refine e_ior dX0_bestSpring_29 ?_
  refine e_putI fw_RX0_22 is_X46 dX0_bestSpring_30 ?_
  refine lv1 (P := fun M4 => Ev (wX, z) mtX0_bestSpring 6 143 33 [some (.ref 46), some (.int a1), some (.int q1.1), some (.int v2), none, none, none, none] [] M4 Q) h (fun M4 h => ?_)
  refine e_aload_n dX0_bestSpring_33 rfl ?_
  refine e_getR fa_RX0_37 is_X46 rfl dX0_bestSpring_34 ?_
  refine e_iload_n dX0_bestSpring_37 rfl ?_
  refine e_iconst (0 : Int32) dX0_bestSpring_38 (by decide) ?_
  refine ok_inb h (fun k5 ek5 ik5 h => ?_)
  refine e_iastK ia_X50 ik5 ek5 dX0_bestSpring_39 ?_
  refine lv1 (P := fun M6 => Ev (wX, z) mtX0_bestSpring 6 143 40 [some (.ref 46), some (.int a1), some (.int q1.1), some (.int v2), none, none, none, none] [] M6 Q) h (fun M6 h => ?_)
  refine e_aload_n dX0_bestSpring_40 rfl ?_
  refine e_getR fa_RX0_40 is_X46 rfl dX0_bestSpring_41 ?_
  refine e_iload_n dX0_bestSpring_44 rfl ?_
  refine e_iconst (1 : Int32) dX0_bestSpring_45 (by decide) ?_
  refine e_iastK ia_X51 ik5 ek5 dX0_bestSpring_46 ?_
  refine lv1 (P := fun M7 => Ev (wX, z) mtX0_bestSpring 6 143 47 [some (.ref 46), some (.int a1), some (.int q1.1), some (.int v2), none, none, none, none] [] M7 Q) h (fun M7 h => ?_)
  refine e_iconst (0 : Int32) dX0_bestSpring_47 (by decide) ?_
  refine e_istore dX0_bestSpring_48 (by decide) rfl ?_
  refine e_iconst (-1 : Int32) dX0_bestSpring_50 (by decide) ?_
  refine e_istore dX0_bestSpring_51 (by decide) rfl ?_
  refine e_iconst (0 : Int32) dX0_bestSpring_53 (by decide) ?_
  refine e_istore dX0_bestSpring_54 (by decide) rfl ?_
  refine e_forget [some (.ref 46), some (.int a1), some (.int q1.1), some (.int v2), some (.int (0 : Int32)), some (.int (-1 : Int32)), some (.int (0 : Int32)), none] (leL_s (leL_s (leL_s (leL_s (leL_s (leL_s (leL_s (leL_n leL_0)))))))) ?_
  refine elX0_bestSpring_l56 a1 q1.1 v2 FU ((0 : Int32), (-1 : Int32), (0 : Int32), M7) (ok_bnd h (fun r16 h => ?_))
  show Ev (wX, z) mtX0_bestSpring 6 143 107 [none, none, none, none, some (.int r16.1), none, none, none] [] r16.2 Q
  refine e_iload dX0_bestSpring_107 rfl ?_
  have h := ok_some h
  exact e_iret rfl dX0_bestSpring_109 h
def XX0_leastRoomForMost_26 (z : Zt) (a1 : Int32) (a2 : Int32) (Q : Option Value → Me → Prop) : (Int32 × Me) → Prop := fun t => Ev (wX, z) mtX0_leastRoomForMost 6 143 72 [none, none, none, some (.int t.1), none] [] t.2 Q
def EX0_leastRoomForMost_26 (z : Zt) (a1 : Int32) (a2 : Int32) (Q : Option Value → Me → Prop) : (Int32 × Int32 × Me) → Prop := fun s => Ev (wX, z) mtX0_leastRoomForMost 6 143 26 [some (.ref 46), some (.int a1), some (.int a2), some (.int s.1), some (.int s.2.1)] [] s.2.2 Q
def GX0_leastRoomForMost_26 (z : Zt) (a1 : Int32) (a2 : Int32) (Q : Option Value → Me → Prop) : (Int32 × Int32 × Me) ⊕ (Int32 × Me) → Prop := Sum.elim (EX0_leastRoomForMost_26 z a1 a2 Q) (XX0_leastRoomForMost_26 z a1 a2 Q)
def fpX0_leastRoomForMost_l26s (a1 : Int32) (a2 : Int32) (a3 : Int32) (a4 : Int32) (M : Me) : Option ((Int32 × Int32 × Me) ⊕ (Int32 × Me)) := (if a4 ≤ 0 then
 some (.inr (a3, M))
 else
 (if (999 : Int32) ≤ (a3 + a4) then
 letv (a4 / (2 : Int32)) fun v6 =>
 some (.inl (a3, v6, M))
 else
 letv (wrM M 46 4 (a3 + a4)) fun M7 =>
 (fpX0_mostWith a1 M7).bind fun q8 =>
 (if a2 ≤ q8.1 then
 letv (a4 / (2 : Int32)) fun v10 =>
 some (.inl (a3, v10, q8.2))
 else
 letv (q8.2.1 46 4) fun v11 =>
 letv (a4 / (2 : Int32)) fun v12 =>
 some (.inl (v11, v12, q8.2)))))
def fpX0_leastRoomForMost_l26 (a1 : Int32) (a2 : Int32) (s : Int32 × Int32 × Me) : Option ((Int32 × Int32 × Me) ⊕ (Int32 × Me)) := fpX0_leastRoomForMost_l26s a1 a2 s.1 s.2.1 s.2.2
set_option maxRecDepth 20000 in
theorem ebX0_leastRoomForMost_l26s {z : Zt} {Q : Option Value → Me → Prop} (a1 : Int32) (a2 : Int32) (a3 : Int32) (a4 : Int32) (M : Me) (h : ok (fpX0_leastRoomForMost_l26s a1 a2 a3 a4 M) (GX0_leastRoomForMost_26 z a1 a2 Q)) : Ev (wX, z) mtX0_leastRoomForMost 6 143 26 [some (.ref 46), some (.int a1), some (.int a2), some (.int a3), some (.int a4)] [] M Q := by
  unfold fpX0_leastRoomForMost_l26s at h
  refine e_iload dX0_leastRoomForMost_26 rfl ?_
  refine e_if_le 72 dX0_leastRoomForMost_28 (by decide) (fun c4 => ?_) (fun c4 => ?_)
  · have h := ok_t c4 h
    refine e_forget [none, none, none, some (.int a3), none] (leL_n (leL_n (leL_n (leL_s (leL_n leL_0))))) ?_
    have h := ok_some h
    exact h
  · have h := ok_f c4 h
    refine e_iload_n dX0_leastRoomForMost_31 rfl ?_
    refine e_iload dX0_leastRoomForMost_32 rfl ?_
    refine e_iadd dX0_leastRoomForMost_34 ?_
    refine e_sipush (999 : Int32) dX0_leastRoomForMost_35 (by decide) ?_
    refine e_icmp_ge 63 dX0_leastRoomForMost_38 (by decide) (fun c5 => ?_) (fun c5 => ?_)
    · have h := ok_t c5 h
      refine e_iload dX0_leastRoomForMost_63 rfl ?_
      refine e_iconst (2 : Int32) dX0_leastRoomForMost_65 (by decide) ?_
      refine e_idiv dX0_leastRoomForMost_66 (by decide) ?_
      refine lv1 (P := fun v6 => Ev (wX, z) mtX0_leastRoomForMost 6 143 67 [some (.ref 46), some (.int a1), some (.int a2), some (.int a3), some (.int a4)] [.int v6] M Q) h (fun v6 h => ?_)
      refine e_istore dX0_leastRoomForMost_67 (by decide) rfl ?_
      refine e_goto 26 dX0_leastRoomForMost_69 (by decide) ?_
      refine e_forget [some (.ref 46), some (.int a1), some (.int a2), some (.int a3), some (.int v6)] (leL_s (leL_s (leL_s (leL_s (leL_s leL_0))))) ?_
      have h := ok_some h
      exact h
    · have h := ok_f c5 h
      refine e_aload_n dX0_leastRoomForMost_41 rfl ?_
      refine e_iload_n dX0_leastRoomForMost_42 rfl ?_
      refine e_iload dX0_leastRoomForMost_43 rfl ?_
      refine e_iadd dX0_leastRoomForMost_45 ?_
      refine e_putI fw_RX0_25 is_X46 dX0_leastRoomForMost_46 ?_
      refine lv1 (P := fun M7 => Ev (wX, z) mtX0_leastRoomForMost 6 143 49 [some (.ref 46), some (.int a1), some (.int a2), some (.int a3), some (.int a4)] [] M7 Q) h (fun M7 h => ?_)
      refine e_aload_n dX0_leastRoomForMost_49 rfl ?_
      refine e_iload_n dX0_leastRoomForMost_50 rfl ?_
      refine e_callV (f2 := 5) (l2 := 122) (ν := mtX0_mostWith) (as := [.int a1]) cv_RX0_132 is_X46 kc_6 ⟨Nat.le_of_ble_eq_true rfl, Nat.le_of_ble_eq_true rfl⟩ rfl rfl (Nat.le_of_ble_eq_true rfl) dX0_leastRoomForMost_51 ?_
      refine ctX0_mostWith a1 (ok_bnd h (fun q8 h => ?_))
      show Ev (wX, z) mtX0_leastRoomForMost 6 143 54 [some (.ref 46), some (.int a1), some (.int a2), some (.int a3), some (.int a4)] [.int q8.1] q8.2 Q
      refine e_iload_n dX0_leastRoomForMost_54 rfl ?_
      refine e_icmp_ge 63 dX0_leastRoomForMost_55 (by decide) (fun c9 => ?_) (fun c9 => ?_)
      · have h := ok_t c9 h
        refine e_iload dX0_leastRoomForMost_63 rfl ?_
        refine e_iconst (2 : Int32) dX0_leastRoomForMost_65 (by decide) ?_
        refine e_idiv dX0_leastRoomForMost_66 (by decide) ?_
        refine lv1 (P := fun v10 => Ev (wX, z) mtX0_leastRoomForMost 6 143 67 [some (.ref 46), some (.int a1), some (.int a2), some (.int a3), some (.int a4)] [.int v10] q8.2 Q) h (fun v10 h => ?_)
        refine e_istore dX0_leastRoomForMost_67 (by decide) rfl ?_
        refine e_goto 26 dX0_leastRoomForMost_69 (by decide) ?_
        refine e_forget [some (.ref 46), some (.int a1), some (.int a2), some (.int a3), some (.int v10)] (leL_s (leL_s (leL_s (leL_s (leL_s leL_0))))) ?_
        have h := ok_some h
        exact h
      · have h := ok_f c9 h
        refine e_aload_n dX0_leastRoomForMost_58 rfl ?_
        refine e_getI fa_RX0_25 is_X46 dX0_leastRoomForMost_59 ?_
        refine lv1 (P := fun v11 => Ev (wX, z) mtX0_leastRoomForMost 6 143 62 [some (.ref 46), some (.int a1), some (.int a2), some (.int a3), some (.int a4)] [.int v11] q8.2 Q) h (fun v11 h => ?_)
        refine e_istore_n dX0_leastRoomForMost_62 (by decide) rfl ?_
        refine e_iload dX0_leastRoomForMost_63 rfl ?_
        refine e_iconst (2 : Int32) dX0_leastRoomForMost_65 (by decide) ?_
        refine e_idiv dX0_leastRoomForMost_66 (by decide) ?_
        refine lv1 (P := fun v12 => Ev (wX, z) mtX0_leastRoomForMost 6 143 67 [some (.ref 46), some (.int a1), some (.int a2), some (.int v11), some (.int a4)] [.int v12] q8.2 Q) h (fun v12 h => ?_)
        refine e_istore dX0_leastRoomForMost_67 (by decide) rfl ?_
        refine e_goto 26 dX0_leastRoomForMost_69 (by decide) ?_
        refine e_forget [some (.ref 46), some (.int a1), some (.int a2), some (.int v11), some (.int v12)] (leL_s (leL_s (leL_s (leL_s (leL_s leL_0))))) ?_
        have h := ok_some h
        exact h
theorem elX0_leastRoomForMost_l26 {z : Zt} {Q : Option Value → Me → Prop} (a1 : Int32) (a2 : Int32) (N : Nat) (s : Int32 × Int32 × Me) (h : ok (lp (fpX0_leastRoomForMost_l26 a1 a2) N s) (XX0_leastRoomForMost_26 z a1 a2 Q)) : EX0_leastRoomForMost_26 z a1 a2 Q s :=
  lp_ind (fun s h => ebX0_leastRoomForMost_l26s a1 a2 s.1 s.2.1 s.2.2 h) N s h
def fpX0_leastRoomForMost (a1 : Int32) (M : Me) : Option (Int32 × Me) := letv (wrM M 46 4 (999 : Int32)) fun M1 =>
 (fpX0_mostWith a1 M1).bind fun q2 =>
 letv ((fpJ9_max_7cf53 a1 (1 : Int32)) - (1 : Int32)) fun v3 =>
 (lp (fpX0_leastRoomForMost_l26 a1 q2.1) FU (v3, (512 : Int32), q2.2)).bind fun r13 =>
 some ((r13.1 + (1 : Int32)), r13.2)
set_option maxRecDepth 20000 in
theorem ctX0_leastRoomForMost {z : Zt} {M : Me} {Q : Option Value → Me → Prop} (a1 : Int32)  (h : ok (fpX0_leastRoomForMost a1 M) (fun a => Q (some (.int a.1)) a.2)) : EvM (wX, z) mtX0_leastRoomForMost 6 143 [.ref 46, .int a1] M Q := by
  refine evm_of [some (.ref 46), some (.int a1), none, none, none] 3 (by decide +kernel) (Nat.le_of_ble_eq_true rfl) rfl ?_
  unfold fpX0_leastRoomForMost at h
  refine e_aload_n dX0_leastRoomForMost_0 rfl ?_
  refine e_sipush (999 : Int32) dX0_leastRoomForMost_1 (by decide) ?_
  refine e_putI fw_RX0_25 is_X46 dX0_leastRoomForMost_4 ?_
  refine lv1 (P := fun M1 => Ev (wX, z) mtX0_leastRoomForMost 6 143 7 [some (.ref 46), some (.int a1), none, none, none] [] M1 Q) h (fun M1 h => ?_)
  refine e_aload_n dX0_leastRoomForMost_7 rfl ?_
  refine e_iload_n dX0_leastRoomForMost_8 rfl ?_
  refine e_callV (f2 := 5) (l2 := 122) (ν := mtX0_mostWith) (as := [.int a1]) cv_RX0_132 is_X46 kc_6 ⟨Nat.le_of_ble_eq_true rfl, Nat.le_of_ble_eq_true rfl⟩ rfl rfl (Nat.le_of_ble_eq_true rfl) dX0_leastRoomForMost_9 ?_
  refine ctX0_mostWith a1 (ok_bnd h (fun q2 h => ?_))
  show Ev (wX, z) mtX0_leastRoomForMost 6 143 12 [some (.ref 46), some (.int a1), none, none, none] [.int q2.1] q2.2 Q
  refine e_istore_n dX0_leastRoomForMost_12 (by decide) rfl ?_
  refine e_iload_n dX0_leastRoomForMost_13 rfl ?_
  refine e_iconst (1 : Int32) dX0_leastRoomForMost_14 (by decide) ?_
  refine e_callS (f2 := 0) (l2 := 0) (ν := mtJ9_max_7cf53) (as := [.int a1, .int (1 : Int32)]) cs_RX0_93 ⟨Nat.le_of_ble_eq_true rfl, Nat.le_of_ble_eq_true rfl⟩ rfl rfl (Nat.le_of_ble_eq_true rfl) dX0_leastRoomForMost_15 ?_
  refine ctJ9_max_7cf53 a1 (1 : Int32) ?_
  show Ev (wX, z) mtX0_leastRoomForMost 6 143 18 [some (.ref 46), some (.int a1), some (.int q2.1), none, none] [.int (fpJ9_max_7cf53 a1 (1 : Int32))] q2.2 Q
  refine e_iconst (1 : Int32) dX0_leastRoomForMost_18 (by decide) ?_
  refine e_isub dX0_leastRoomForMost_19 ?_
  refine lv1 (P := fun v3 => Ev (wX, z) mtX0_leastRoomForMost 6 143 20 [some (.ref 46), some (.int a1), some (.int q2.1), none, none] [.int v3] q2.2 Q) h (fun v3 h => ?_)
  refine e_istore_n dX0_leastRoomForMost_20 (by decide) rfl ?_
  refine e_sipush (512 : Int32) dX0_leastRoomForMost_21 (by decide) ?_
  refine e_istore dX0_leastRoomForMost_24 (by decide) rfl ?_
  refine e_forget [some (.ref 46), some (.int a1), some (.int q2.1), some (.int v3), some (.int (512 : Int32))] (leL_s (leL_s (leL_s (leL_s (leL_s leL_0))))) ?_
  refine elX0_leastRoomForMost_l26 a1 q2.1 FU (v3, (512 : Int32), q2.2) (ok_bnd h (fun r13 h => ?_))
  show Ev (wX, z) mtX0_leastRoomForMost 6 143 72 [none, none, none, some (.int r13.1), none] [] r13.2 Q
  refine e_iload_n dX0_leastRoomForMost_72 rfl ?_
  refine e_iconst (1 : Int32) dX0_leastRoomForMost_73 (by decide) ?_
  refine e_iadd dX0_leastRoomForMost_74 ?_
  have h := ok_some h
  exact e_iret rfl dX0_leastRoomForMost_75 h
def XX0_greatestSpillsThatCost_21 (z : Zt) (a1 : Int32) (a2 : Int32) (Q : Option Value → Me → Prop) : (Int32 × Me) → Prop := fun t => Ev (wX, z) mtX0_greatestSpillsThatCost 6 143 70 [none, none, none, some (.int t.1), none] [] t.2 Q
def EX0_greatestSpillsThatCost_21 (z : Zt) (a1 : Int32) (a2 : Int32) (Q : Option Value → Me → Prop) : (Int32 × Int32 × Me) → Prop := fun s => Ev (wX, z) mtX0_greatestSpillsThatCost 6 143 21 [some (.ref 46), some (.int a1), some (.int a2), some (.int s.1), some (.int s.2.1)] [] s.2.2 Q
def GX0_greatestSpillsThatCost_21 (z : Zt) (a1 : Int32) (a2 : Int32) (Q : Option Value → Me → Prop) : (Int32 × Int32 × Me) ⊕ (Int32 × Me) → Prop := Sum.elim (EX0_greatestSpillsThatCost_21 z a1 a2 Q) (XX0_greatestSpillsThatCost_21 z a1 a2 Q)
def fpX0_greatestSpillsThatCost_l21s (a1 : Int32) (a2 : Int32) (a3 : Int32) (a4 : Int32) (M : Me) : Option ((Int32 × Int32 × Me) ⊕ (Int32 × Me)) := (if a4 ≤ 0 then
 some (.inr (a3, M))
 else
 (if (99 : Int32) < (a3 + a4) then
 letv (a4 / (2 : Int32)) fun v6 =>
 some (.inl (a3, v6, M))
 else
 letv (wrM M 46 5 (a3 + a4)) fun M7 =>
 (fpX0_measure M7).bind fun q8 =>
 (fpX0_mostWith a1 q8).bind fun q9 =>
 (if a2 ≤ q9.1 then
 letv (a4 / (2 : Int32)) fun v11 =>
 some (.inl (a3, v11, q9.2))
 else
 letv (q9.2.1 46 5) fun v12 =>
 letv (a4 / (2 : Int32)) fun v13 =>
 some (.inl (v12, v13, q9.2)))))
def fpX0_greatestSpillsThatCost_l21 (a1 : Int32) (a2 : Int32) (s : Int32 × Int32 × Me) : Option ((Int32 × Int32 × Me) ⊕ (Int32 × Me)) := fpX0_greatestSpillsThatCost_l21s a1 a2 s.1 s.2.1 s.2.2
set_option maxRecDepth 20000 in
theorem ebX0_greatestSpillsThatCost_l21s {z : Zt} {Q : Option Value → Me → Prop} (a1 : Int32) (a2 : Int32) (a3 : Int32) (a4 : Int32) (M : Me) (h : ok (fpX0_greatestSpillsThatCost_l21s a1 a2 a3 a4 M) (GX0_greatestSpillsThatCost_21 z a1 a2 Q)) : Ev (wX, z) mtX0_greatestSpillsThatCost 6 143 21 [some (.ref 46), some (.int a1), some (.int a2), some (.int a3), some (.int a4)] [] M Q := by
  unfold fpX0_greatestSpillsThatCost_l21s at h
  refine e_iload dX0_greatestSpillsThatCost_21 rfl ?_
  refine e_if_le 70 dX0_greatestSpillsThatCost_23 (by decide) (fun c4 => ?_) (fun c4 => ?_)
  · have h := ok_t c4 h
    refine e_forget [none, none, none, some (.int a3), none] (leL_n (leL_n (leL_n (leL_s (leL_n leL_0))))) ?_
    have h := ok_some h
    exact h
  · have h := ok_f c4 h
    refine e_iload_n dX0_greatestSpillsThatCost_26 rfl ?_
    refine e_iload dX0_greatestSpillsThatCost_27 rfl ?_
    refine e_iadd dX0_greatestSpillsThatCost_29 ?_
    refine e_bipush (99 : Int32) dX0_greatestSpillsThatCost_30 (by decide) ?_
    refine e_icmp_gt 61 dX0_greatestSpillsThatCost_32 (by decide) (fun c5 => ?_) (fun c5 => ?_)
    · have h := ok_t c5 h
      refine e_iload dX0_greatestSpillsThatCost_61 rfl ?_
      refine e_iconst (2 : Int32) dX0_greatestSpillsThatCost_63 (by decide) ?_
      refine e_idiv dX0_greatestSpillsThatCost_64 (by decide) ?_
      refine lv1 (P := fun v6 => Ev (wX, z) mtX0_greatestSpillsThatCost 6 143 65 [some (.ref 46), some (.int a1), some (.int a2), some (.int a3), some (.int a4)] [.int v6] M Q) h (fun v6 h => ?_)
      refine e_istore dX0_greatestSpillsThatCost_65 (by decide) rfl ?_
      refine e_goto 21 dX0_greatestSpillsThatCost_67 (by decide) ?_
      refine e_forget [some (.ref 46), some (.int a1), some (.int a2), some (.int a3), some (.int v6)] (leL_s (leL_s (leL_s (leL_s (leL_s leL_0))))) ?_
      have h := ok_some h
      exact h
    · have h := ok_f c5 h
      refine e_aload_n dX0_greatestSpillsThatCost_35 rfl ?_
      refine e_iload_n dX0_greatestSpillsThatCost_36 rfl ?_
      refine e_iload dX0_greatestSpillsThatCost_37 rfl ?_
      refine e_iadd dX0_greatestSpillsThatCost_39 ?_
      refine e_putI fw_RX0_28 is_X46 dX0_greatestSpillsThatCost_40 ?_
      refine lv1 (P := fun M7 => Ev (wX, z) mtX0_greatestSpillsThatCost 6 143 43 [some (.ref 46), some (.int a1), some (.int a2), some (.int a3), some (.int a4)] [] M7 Q) h (fun M7 h => ?_)
      refine e_aload_n dX0_greatestSpillsThatCost_43 rfl ?_
      refine e_callV (f2 := 2) (l2 := 42) (ν := mtX0_measure) (as := []) cv_RX0_86 is_X46 kc_6 ⟨Nat.le_of_ble_eq_true rfl, Nat.le_of_ble_eq_true rfl⟩ rfl rfl (Nat.le_of_ble_eq_true rfl) dX0_greatestSpillsThatCost_44 ?_
      refine ctX0_measure (ok_bnd h (fun q8 h => ?_))
      show Ev (wX, z) mtX0_greatestSpillsThatCost 6 143 47 [some (.ref 46), some (.int a1), some (.int a2), some (.int a3), some (.int a4)] [] q8 Q
      refine e_aload_n dX0_greatestSpillsThatCost_47 rfl ?_
      refine e_iload_n dX0_greatestSpillsThatCost_48 rfl ?_
      refine e_callV (f2 := 5) (l2 := 122) (ν := mtX0_mostWith) (as := [.int a1]) cv_RX0_132 is_X46 kc_6 ⟨Nat.le_of_ble_eq_true rfl, Nat.le_of_ble_eq_true rfl⟩ rfl rfl (Nat.le_of_ble_eq_true rfl) dX0_greatestSpillsThatCost_49 ?_
      refine ctX0_mostWith a1 (ok_bnd h (fun q9 h => ?_))
      show Ev (wX, z) mtX0_greatestSpillsThatCost 6 143 52 [some (.ref 46), some (.int a1), some (.int a2), some (.int a3), some (.int a4)] [.int q9.1] q9.2 Q
      refine e_iload_n dX0_greatestSpillsThatCost_52 rfl ?_
      refine e_icmp_ge 61 dX0_greatestSpillsThatCost_53 (by decide) (fun c10 => ?_) (fun c10 => ?_)
      · have h := ok_t c10 h
        refine e_iload dX0_greatestSpillsThatCost_61 rfl ?_
        refine e_iconst (2 : Int32) dX0_greatestSpillsThatCost_63 (by decide) ?_
        refine e_idiv dX0_greatestSpillsThatCost_64 (by decide) ?_
        refine lv1 (P := fun v11 => Ev (wX, z) mtX0_greatestSpillsThatCost 6 143 65 [some (.ref 46), some (.int a1), some (.int a2), some (.int a3), some (.int a4)] [.int v11] q9.2 Q) h (fun v11 h => ?_)
        refine e_istore dX0_greatestSpillsThatCost_65 (by decide) rfl ?_
        refine e_goto 21 dX0_greatestSpillsThatCost_67 (by decide) ?_
        refine e_forget [some (.ref 46), some (.int a1), some (.int a2), some (.int a3), some (.int v11)] (leL_s (leL_s (leL_s (leL_s (leL_s leL_0))))) ?_
        have h := ok_some h
        exact h
      · have h := ok_f c10 h
        refine e_aload_n dX0_greatestSpillsThatCost_56 rfl ?_
        refine e_getI fa_RX0_28 is_X46 dX0_greatestSpillsThatCost_57 ?_
        refine lv1 (P := fun v12 => Ev (wX, z) mtX0_greatestSpillsThatCost 6 143 60 [some (.ref 46), some (.int a1), some (.int a2), some (.int a3), some (.int a4)] [.int v12] q9.2 Q) h (fun v12 h => ?_)
        refine e_istore_n dX0_greatestSpillsThatCost_60 (by decide) rfl ?_
        refine e_iload dX0_greatestSpillsThatCost_61 rfl ?_
        refine e_iconst (2 : Int32) dX0_greatestSpillsThatCost_63 (by decide) ?_
        refine e_idiv dX0_greatestSpillsThatCost_64 (by decide) ?_
        refine lv1 (P := fun v13 => Ev (wX, z) mtX0_greatestSpillsThatCost 6 143 65 [some (.ref 46), some (.int a1), some (.int a2), some (.int v12), some (.int a4)] [.int v13] q9.2 Q) h (fun v13 h => ?_)
        refine e_istore dX0_greatestSpillsThatCost_65 (by decide) rfl ?_
        refine e_goto 21 dX0_greatestSpillsThatCost_67 (by decide) ?_
        refine e_forget [some (.ref 46), some (.int a1), some (.int a2), some (.int v12), some (.int v13)] (leL_s (leL_s (leL_s (leL_s (leL_s leL_0))))) ?_
        have h := ok_some h
        exact h
theorem elX0_greatestSpillsThatCost_l21 {z : Zt} {Q : Option Value → Me → Prop} (a1 : Int32) (a2 : Int32) (N : Nat) (s : Int32 × Int32 × Me) (h : ok (lp (fpX0_greatestSpillsThatCost_l21 a1 a2) N s) (XX0_greatestSpillsThatCost_21 z a1 a2 Q)) : EX0_greatestSpillsThatCost_21 z a1 a2 Q s :=
  lp_ind (fun s h => ebX0_greatestSpillsThatCost_l21s a1 a2 s.1 s.2.1 s.2.2 h) N s h
def fpX0_greatestSpillsThatCost (a1 : Int32) (M : Me) : Option (Int32 × Me) := letv (wrM M 46 5 (0 : Int32)) fun M1 =>
 (fpX0_measure M1).bind fun q2 =>
 (fpX0_mostWith a1 q2).bind fun q3 =>
 (lp (fpX0_greatestSpillsThatCost_l21 a1 q3.1) FU ((0 : Int32), (64 : Int32), q3.2)).bind fun r14 =>
 some (r14.1, r14.2)
set_option maxRecDepth 20000 in
theorem ctX0_greatestSpillsThatCost {z : Zt} {M : Me} {Q : Option Value → Me → Prop} (a1 : Int32)  (h : ok (fpX0_greatestSpillsThatCost a1 M) (fun a => Q (some (.int a.1)) a.2)) : EvM (wX, z) mtX0_greatestSpillsThatCost 6 143 [.ref 46, .int a1] M Q := by
  refine evm_of [some (.ref 46), some (.int a1), none, none, none] 3 (by decide +kernel) (Nat.le_of_ble_eq_true rfl) rfl ?_
  unfold fpX0_greatestSpillsThatCost at h
  refine e_aload_n dX0_greatestSpillsThatCost_0 rfl ?_
  refine e_iconst (0 : Int32) dX0_greatestSpillsThatCost_1 (by decide) ?_
  refine e_putI fw_RX0_28 is_X46 dX0_greatestSpillsThatCost_2 ?_
  refine lv1 (P := fun M1 => Ev (wX, z) mtX0_greatestSpillsThatCost 6 143 5 [some (.ref 46), some (.int a1), none, none, none] [] M1 Q) h (fun M1 h => ?_)
  refine e_aload_n dX0_greatestSpillsThatCost_5 rfl ?_
  refine e_callV (f2 := 2) (l2 := 42) (ν := mtX0_measure) (as := []) cv_RX0_86 is_X46 kc_6 ⟨Nat.le_of_ble_eq_true rfl, Nat.le_of_ble_eq_true rfl⟩ rfl rfl (Nat.le_of_ble_eq_true rfl) dX0_greatestSpillsThatCost_6 ?_
  refine ctX0_measure (ok_bnd h (fun q2 h => ?_))
  show Ev (wX, z) mtX0_greatestSpillsThatCost 6 143 9 [some (.ref 46), some (.int a1), none, none, none] [] q2 Q
  refine e_aload_n dX0_greatestSpillsThatCost_9 rfl ?_
  refine e_iload_n dX0_greatestSpillsThatCost_10 rfl ?_
  refine e_callV (f2 := 5) (l2 := 122) (ν := mtX0_mostWith) (as := [.int a1]) cv_RX0_132 is_X46 kc_6 ⟨Nat.le_of_ble_eq_true rfl, Nat.le_of_ble_eq_true rfl⟩ rfl rfl (Nat.le_of_ble_eq_true rfl) dX0_greatestSpillsThatCost_11 ?_
  refine ctX0_mostWith a1 (ok_bnd h (fun q3 h => ?_))
  show Ev (wX, z) mtX0_greatestSpillsThatCost 6 143 14 [some (.ref 46), some (.int a1), none, none, none] [.int q3.1] q3.2 Q
  refine e_istore_n dX0_greatestSpillsThatCost_14 (by decide) rfl ?_
  refine e_iconst (0 : Int32) dX0_greatestSpillsThatCost_15 (by decide) ?_
  refine e_istore_n dX0_greatestSpillsThatCost_16 (by decide) rfl ?_
  refine e_bipush (64 : Int32) dX0_greatestSpillsThatCost_17 (by decide) ?_
  refine e_istore dX0_greatestSpillsThatCost_19 (by decide) rfl ?_
  refine e_forget [some (.ref 46), some (.int a1), some (.int q3.1), some (.int (0 : Int32)), some (.int (64 : Int32))] (leL_s (leL_s (leL_s (leL_s (leL_s leL_0))))) ?_
  refine elX0_greatestSpillsThatCost_l21 a1 q3.1 FU ((0 : Int32), (64 : Int32), q3.2) (ok_bnd h (fun r14 h => ?_))
  show Ev (wX, z) mtX0_greatestSpillsThatCost 6 143 70 [none, none, none, some (.int r14.1), none] [] r14.2 Q
  refine e_iload_n dX0_greatestSpillsThatCost_70 rfl ?_
  have h := ok_some h
  exact e_iret rfl dX0_greatestSpillsThatCost_71 h
def XX0_weighed_13 (z : Zt) (a1 : Int32) (a3 : Int32) (M : Me) (Q : Option Value → Me → Prop) : (Int64 × Int32 × Int32) → Prop := fun t => Ev (wX, z) mtX0_weighed 2 44 140 [some (.ref 46), none, none, some (.int a3), some (.long t.1), none, some (.int t.2.1), some (.int t.2.2), none, none, none, none] [] M Q
def EX0_weighed_13 (z : Zt) (a1 : Int32) (a3 : Int32) (M : Me) (Q : Option Value → Me → Prop) : (Int64 × Int32 × Int32 × Int32) → Prop := fun s => Ev (wX, z) mtX0_weighed 2 44 13 [some (.ref 46), some (.int a1), none, some (.int a3), some (.long s.1), none, some (.int s.2.1), some (.int s.2.2.1), some (.int s.2.2.2), none, none, none] [] M Q
def GX0_weighed_13 (z : Zt) (a1 : Int32) (a3 : Int32) (M : Me) (Q : Option Value → Me → Prop) : (Int64 × Int32 × Int32 × Int32) ⊕ (Int64 × Int32 × Int32) → Prop := Sum.elim (EX0_weighed_13 z a1 a3 M Q) (XX0_weighed_13 z a1 a3 M Q)
def fpX0_weighed_b99_13 (a1 : Int32) (a3 : Int32) (a6 : Int32) (a7 : Int32) (a8 : Int32) (a9 : Int32) (a10 : Int32) (t0 : Int64) (t1 : Int64) (M : Me) : Option ((Int64 × Int32 × Int32 × Int32) ⊕ (Int64 × Int32 × Int32)) := letv (t0 * t1) fun v9 =>
 (if a10 = (-1 : Int32) then
 letv (a8 + (1 : Int32)) fun v11 =>
 some (.inl (v9, a6, a7, v11))
 else
 (if (fpX0_isIn a8 a1) = 0 then
 letv (a8 + (1 : Int32)) fun v13 =>
 some (.inl (v9, a6, a10, v13))
 else
 (inb a9 8).bind fun k14 =>
 letv (a7 - (M.1 50 k14)) fun v15 =>
 letv (a8 + (1 : Int32)) fun v16 =>
 some (.inl (v9, a6, v15, v16))))
set_option maxRecDepth 20000 in
theorem ebX0_weighed_b99_13 {z : Zt} {Q : Option Value → Me → Prop} (a1 : Int32) (a3 : Int32) (a6 : Int32) (a7 : Int32) (a8 : Int32) (a9 : Int32) (a10 : Int32) (t0 : Int64) (t1 : Int64) (M : Me) (h : ok (fpX0_weighed_b99_13 a1 a3 a6 a7 a8 a9 a10 t0 t1 M) (GX0_weighed_13 z a1 a3 M Q)) : Ev (wX, z) mtX0_weighed 2 44 99 [some (.ref 46), some (.int a1), none, some (.int a3), none, none, some (.int a6), some (.int a7), some (.int a8), some (.int a9), some (.int a10), none] [.long t1, .long t0] M Q := by
  unfold fpX0_weighed_b99_13 at h
  refine e_lmul dX0_weighed_99 ?_
  refine lv1 (P := fun v9 => Ev (wX, z) mtX0_weighed 2 44 100 [some (.ref 46), some (.int a1), none, some (.int a3), none, none, some (.int a6), some (.int a7), some (.int a8), some (.int a9), some (.int a10), none] [.long v9] M Q) h (fun v9 h => ?_)
  refine e_lstore dX0_weighed_100 (by decide) rfl ?_
  refine e_iload dX0_weighed_102 rfl ?_
  refine e_iconst (-1 : Int32) dX0_weighed_104 (by decide) ?_
  refine e_icmp_eq 134 dX0_weighed_105 (by decide) (fun c10 => ?_) (fun c10 => ?_)
  · have h := ok_t c10 h
    refine lv1e h (fun v11 ev11 h => ?_)
    refine e_iinc v11 dX0_weighed_134 rfl ev11 (by decide) rfl ?_
    refine e_goto 13 dX0_weighed_137 (by decide) ?_
    refine e_forget [some (.ref 46), some (.int a1), none, some (.int a3), some (.long v9), none, some (.int a6), some (.int a7), some (.int v11), none, none, none] (leL_s (leL_s (leL_n (leL_s (leL_s (leL_n (leL_s (leL_s (leL_s (leL_n (leL_n (leL_n leL_0)))))))))))) ?_
    have h := ok_some h
    exact h
  · have h := ok_f c10 h
    refine e_iload dX0_weighed_108 rfl ?_
    refine e_iload_n dX0_weighed_110 rfl ?_
    refine e_callS (f2 := 0) (l2 := 0) (ν := mtX0_isIn) (as := [.int a8, .int a1]) cs_RX0_98 ⟨Nat.le_of_ble_eq_true rfl, Nat.le_of_ble_eq_true rfl⟩ rfl rfl (Nat.le_of_ble_eq_true rfl) dX0_weighed_111 ?_
    refine ctX0_isIn a8 a1 ?_
    show Ev (wX, z) mtX0_weighed 2 44 114 [some (.ref 46), some (.int a1), none, some (.int a3), some (.long v9), none, some (.int a6), some (.int a7), some (.int a8), some (.int a9), some (.int a10), none] [.int (fpX0_isIn a8 a1)] M Q
    refine e_if_eq 130 dX0_weighed_114 (by decide) (fun c12 => ?_) (fun c12 => ?_)
    · have h := ok_t c12 h
      refine e_iload dX0_weighed_130 rfl ?_
      refine e_istore dX0_weighed_132 (by decide) rfl ?_
      refine lv1e h (fun v13 ev13 h => ?_)
      refine e_iinc v13 dX0_weighed_134 rfl ev13 (by decide) rfl ?_
      refine e_goto 13 dX0_weighed_137 (by decide) ?_
      refine e_forget [some (.ref 46), some (.int a1), none, some (.int a3), some (.long v9), none, some (.int a6), some (.int a10), some (.int v13), none, none, none] (leL_s (leL_s (leL_n (leL_s (leL_s (leL_n (leL_s (leL_s (leL_s (leL_n (leL_n (leL_n leL_0)))))))))))) ?_
      have h := ok_some h
      exact h
    · have h := ok_f c12 h
      refine e_iload dX0_weighed_117 rfl ?_
      refine e_aload_n dX0_weighed_119 rfl ?_
      refine e_getR fa_RX0_37 is_X46 rfl dX0_weighed_120 ?_
      refine e_iload dX0_weighed_123 rfl ?_
      refine ok_inb h (fun k14 ek14 ik14 h => ?_)
      refine e_ialdK ia_X50 ik14 ek14 dX0_weighed_125 ?_
      refine e_isub dX0_weighed_126 ?_
      refine e_goto 132 dX0_weighed_127 (by decide) ?_
      refine lv1 (P := fun v15 => Ev (wX, z) mtX0_weighed 2 44 132 [some (.ref 46), some (.int a1), none, some (.int a3), some (.long v9), none, some (.int a6), some (.int a7), some (.int a8), some (.int a9), some (.int a10), none] [.int v15] M Q) h (fun v15 h => ?_)
      refine e_istore dX0_weighed_132 (by decide) rfl ?_
      refine lv1e h (fun v16 ev16 h => ?_)
      refine e_iinc v16 dX0_weighed_134 rfl ev16 (by decide) rfl ?_
      refine e_goto 13 dX0_weighed_137 (by decide) ?_
      refine e_forget [some (.ref 46), some (.int a1), none, some (.int a3), some (.long v9), none, some (.int a6), some (.int v15), some (.int v16), none, none, none] (leL_s (leL_s (leL_n (leL_s (leL_s (leL_n (leL_s (leL_s (leL_s (leL_n (leL_n (leL_n leL_0)))))))))))) ?_
      have h := ok_some h
      exact h
def fpX0_weighed_b74_13 (a1 : Int32) (a3 : Int32) (a4 : Int64) (a6 : Int32) (a7 : Int32) (a8 : Int32) (a9 : Int32) (a10 : Int32) (t0 : Int32) (M : Me) : Option ((Int64 × Int32 × Int32 × Int32) ⊕ (Int64 × Int32 × Int32)) := (if (fpX0_isIn a8 a1) = 0 then
 fpX0_weighed_b99_13 a1 a3 a6 a7 a8 a9 a10 a4 (((12 : Int32) - t0).toInt64) M
 else
 fpX0_weighed_b99_13 a1 a3 a6 a7 a8 a9 a10 a4 (t0.toInt64) M)
set_option maxRecDepth 20000 in
theorem ebX0_weighed_b74_13 {z : Zt} {Q : Option Value → Me → Prop} (a1 : Int32) (a3 : Int32) (a4 : Int64) (a6 : Int32) (a7 : Int32) (a8 : Int32) (a9 : Int32) (a10 : Int32) (t0 : Int32) (M : Me) (h : ok (fpX0_weighed_b74_13 a1 a3 a4 a6 a7 a8 a9 a10 t0 M) (GX0_weighed_13 z a1 a3 M Q)) : Ev (wX, z) mtX0_weighed 2 44 74 [some (.ref 46), some (.int a1), none, some (.int a3), some (.long a4), none, some (.int a6), some (.int a7), some (.int a8), some (.int a9), some (.int a10), none] [.int t0] M Q := by
  unfold fpX0_weighed_b74_13 at h
  refine e_istore dX0_weighed_74 (by decide) rfl ?_
  refine e_lload dX0_weighed_76 rfl ?_
  refine e_iload dX0_weighed_78 rfl ?_
  refine e_iload_n dX0_weighed_80 rfl ?_
  refine e_callS (f2 := 0) (l2 := 0) (ν := mtX0_isIn) (as := [.int a8, .int a1]) cs_RX0_98 ⟨Nat.le_of_ble_eq_true rfl, Nat.le_of_ble_eq_true rfl⟩ rfl rfl (Nat.le_of_ble_eq_true rfl) dX0_weighed_81 ?_
  refine ctX0_isIn a8 a1 ?_
  show Ev (wX, z) mtX0_weighed 2 44 84 [some (.ref 46), some (.int a1), none, some (.int a3), some (.long a4), none, some (.int a6), some (.int a7), some (.int a8), some (.int a9), some (.int a10), some (.int t0)] [.int (fpX0_isIn a8 a1), .long a4] M Q
  refine e_if_eq 93 dX0_weighed_84 (by decide) (fun c8 => ?_) (fun c8 => ?_)
  · have h := ok_t c8 h
    refine e_bipush (12 : Int32) dX0_weighed_93 (by decide) ?_
    refine e_iload dX0_weighed_95 rfl ?_
    refine e_isub dX0_weighed_97 ?_
    refine e_i2l dX0_weighed_98 ?_
    refine e_forget [some (.ref 46), some (.int a1), none, some (.int a3), none, none, some (.int a6), some (.int a7), some (.int a8), some (.int a9), some (.int a10), none] (leL_s (leL_s (leL_n (leL_s (leL_n (leL_n (leL_s (leL_s (leL_s (leL_s (leL_s (leL_n leL_0)))))))))))) ?_
    exact ebX0_weighed_b99_13 a1 a3 a6 a7 a8 a9 a10 a4 (((12 : Int32) - t0).toInt64) M h
  · have h := ok_f c8 h
    refine e_iload dX0_weighed_87 rfl ?_
    refine e_i2l dX0_weighed_89 ?_
    refine e_goto 99 dX0_weighed_90 (by decide) ?_
    refine e_forget [some (.ref 46), some (.int a1), none, some (.int a3), none, none, some (.int a6), some (.int a7), some (.int a8), some (.int a9), some (.int a10), none] (leL_s (leL_s (leL_n (leL_s (leL_n (leL_n (leL_s (leL_s (leL_s (leL_s (leL_s (leL_n leL_0)))))))))))) ?_
    exact ebX0_weighed_b99_13 a1 a3 a6 a7 a8 a9 a10 a4 (t0.toInt64) M h
def fpX0_weighed_l13s (a1 : Int32) (a3 : Int32) (a4 : Int64) (a6 : Int32) (a7 : Int32) (a8 : Int32) (M : Me) : Option ((Int64 × Int32 × Int32 × Int32) ⊕ (Int64 × Int32 × Int32)) := (if (M.1 46 1) ≤ a8 then
 some (.inr (a4, a6, a7))
 else
 (inb a8 8).bind fun k2 =>
 letv (M.1 47 k2) fun v3 =>
 (fpX0_carried a7 a6 v3 M).bind fun v4 =>
 (fpX0_ran v3 v4 M).bind fun v5 =>
 (if v5 = (-1 : Int32) then
 fpX0_weighed_b74_13 a1 a3 a4 v3 v4 a8 v3 v5 (0 : Int32) M
 else
 (inb v3 8).bind fun k7 =>
 fpX0_weighed_b74_13 a1 a3 a4 v3 v4 a8 v3 v5 (M.1 52 k7) M))
def fpX0_weighed_l13 (a1 : Int32) (a3 : Int32) (M : Me) (s : Int64 × Int32 × Int32 × Int32) : Option ((Int64 × Int32 × Int32 × Int32) ⊕ (Int64 × Int32 × Int32)) := fpX0_weighed_l13s a1 a3 s.1 s.2.1 s.2.2.1 s.2.2.2 M
set_option maxRecDepth 20000 in
theorem ebX0_weighed_l13s {z : Zt} {Q : Option Value → Me → Prop} (a1 : Int32) (a3 : Int32) (a4 : Int64) (a6 : Int32) (a7 : Int32) (a8 : Int32) (M : Me) (h : ok (fpX0_weighed_l13s a1 a3 a4 a6 a7 a8 M) (GX0_weighed_13 z a1 a3 M Q)) : Ev (wX, z) mtX0_weighed 2 44 13 [some (.ref 46), some (.int a1), none, some (.int a3), some (.long a4), none, some (.int a6), some (.int a7), some (.int a8), none, none, none] [] M Q := by
  unfold fpX0_weighed_l13s at h
  refine e_iload dX0_weighed_13 rfl ?_
  refine e_aload_n dX0_weighed_15 rfl ?_
  refine e_getI fa_RX0_15 is_X46 dX0_weighed_16 ?_
  refine e_icmp_ge 140 dX0_weighed_19 (by decide) (fun c1 => ?_) (fun c1 => ?_)
  · have h := ok_t c1 h
    refine e_forget [some (.ref 46), none, none, some (.int a3), some (.long a4), none, some (.int a6), some (.int a7), none, none, none, none] (leL_s (leL_n (leL_n (leL_s (leL_s (leL_n (leL_s (leL_s (leL_n (leL_n (leL_n (leL_n leL_0)))))))))))) ?_
    have h := ok_some h
    exact h
  · have h := ok_f c1 h
    refine e_aload_n dX0_weighed_22 rfl ?_
    refine e_getR fa_RX0_9 is_X46 rfl dX0_weighed_23 ?_
    refine e_iload dX0_weighed_26 rfl ?_
    refine ok_inb h (fun k2 ek2 ik2 h => ?_)
    refine e_ialdK ia_X47 ik2 ek2 dX0_weighed_28 ?_
    refine lv1 (P := fun v3 => Ev (wX, z) mtX0_weighed 2 44 29 [some (.ref 46), some (.int a1), none, some (.int a3), some (.long a4), none, some (.int a6), some (.int a7), some (.int a8), none, none, none] [.int v3] M Q) h (fun v3 h => ?_)
    refine e_istore dX0_weighed_29 (by decide) rfl ?_
    refine e_aload_n dX0_weighed_31 rfl ?_
    refine e_iload dX0_weighed_32 rfl ?_
    refine e_iload dX0_weighed_34 rfl ?_
    refine e_iload dX0_weighed_36 rfl ?_
    refine e_callV (f2 := 1) (l2 := 21) (ν := mtX0_carried) (as := [.int a7, .int a6, .int v3]) cv_RX0_113 is_X46 kc_6 ⟨Nat.le_of_ble_eq_true rfl, Nat.le_of_ble_eq_true rfl⟩ rfl rfl (Nat.le_of_ble_eq_true rfl) dX0_weighed_38 ?_
    refine ctX0_carried a7 a6 v3 (ok_bnd h (fun v4 h => ?_))
    show Ev (wX, z) mtX0_weighed 2 44 41 [some (.ref 46), some (.int a1), none, some (.int a3), some (.long a4), none, some (.int a6), some (.int a7), some (.int a8), some (.int v3), none, none] [.int v4] M Q
    refine e_istore dX0_weighed_41 (by decide) rfl ?_
    refine e_iload dX0_weighed_43 rfl ?_
    refine e_istore dX0_weighed_45 (by decide) rfl ?_
    refine e_aload_n dX0_weighed_47 rfl ?_
    refine e_iload dX0_weighed_48 rfl ?_
    refine e_iload dX0_weighed_50 rfl ?_
    refine e_callV (f2 := 1) (l2 := 21) (ν := mtX0_ran) (as := [.int v3, .int v4]) cv_RX0_116 is_X46 kc_6 ⟨Nat.le_of_ble_eq_true rfl, Nat.le_of_ble_eq_true rfl⟩ rfl rfl (Nat.le_of_ble_eq_true rfl) dX0_weighed_52 ?_
    refine ctX0_ran v3 v4 (ok_bnd h (fun v5 h => ?_))
    show Ev (wX, z) mtX0_weighed 2 44 55 [some (.ref 46), some (.int a1), none, some (.int a3), some (.long a4), none, some (.int v3), some (.int v4), some (.int a8), some (.int v3), none, none] [.int v5] M Q
    refine e_istore dX0_weighed_55 (by decide) rfl ?_
    refine e_iload dX0_weighed_57 rfl ?_
    refine e_iconst (-1 : Int32) dX0_weighed_59 (by decide) ?_
    refine e_icmp_ne 67 dX0_weighed_60 (by decide) (fun c6 => ?_) (fun c6 => ?_)
    · have h := ok_f c6 h
      refine e_aload_n dX0_weighed_67 rfl ?_
      refine e_getR fa_RX0_43 is_X46 rfl dX0_weighed_68 ?_
      refine e_iload dX0_weighed_71 rfl ?_
      refine ok_inb h (fun k7 ek7 ik7 h => ?_)
      refine e_ialdK ia_X52 ik7 ek7 dX0_weighed_73 ?_
      refine e_forget [some (.ref 46), some (.int a1), none, some (.int a3), some (.long a4), none, some (.int v3), some (.int v4), some (.int a8), some (.int v3), some (.int v5), none] (leL_s (leL_s (leL_n (leL_s (leL_s (leL_n (leL_s (leL_s (leL_s (leL_s (leL_s (leL_n leL_0)))))))))))) ?_
      exact ebX0_weighed_b74_13 a1 a3 a4 v3 v4 a8 v3 v5 (M.1 52 k7) M h
    · have h := ok_t c6 h
      refine e_iconst (0 : Int32) dX0_weighed_63 (by decide) ?_
      refine e_goto 74 dX0_weighed_64 (by decide) ?_
      refine e_forget [some (.ref 46), some (.int a1), none, some (.int a3), some (.long a4), none, some (.int v3), some (.int v4), some (.int a8), some (.int v3), some (.int v5), none] (leL_s (leL_s (leL_n (leL_s (leL_s (leL_n (leL_s (leL_s (leL_s (leL_s (leL_s (leL_n leL_0)))))))))))) ?_
      exact ebX0_weighed_b74_13 a1 a3 a4 v3 v4 a8 v3 v5 (0 : Int32) M h
theorem elX0_weighed_l13 {z : Zt} {Q : Option Value → Me → Prop} (a1 : Int32) (a3 : Int32) (M : Me) (N : Nat) (s : Int64 × Int32 × Int32 × Int32) (h : ok (lp (fpX0_weighed_l13 a1 a3 M) N s) (XX0_weighed_13 z a1 a3 M Q)) : EX0_weighed_13 z a1 a3 M Q s :=
  lp_ind (fun s h => ebX0_weighed_l13s a1 a3 s.1 s.2.1 s.2.2.1 s.2.2.2 M h) N s h
def fpX0_weighed (a1 : Int32) (a2 : Int32) (a3 : Int32) (M : Me) : Option (Int64) := (lp (fpX0_weighed_l13 a1 a3 M) FU ((1 : Int64), (8 : Int32), a2, (0 : Int32))).bind fun r17 =>
 (fpX0_carried r17.2.2 r17.2.1 (9 : Int32) M).bind fun v18 =>
 (if a3 = (-1 : Int32) then
 some (r17.1 * (v18.toInt64))
 else
 (if v18 < a3 then
 some (0 : Int64)
 else
 some r17.1))
set_option maxRecDepth 20000 in
theorem ctX0_weighed {z : Zt} {M : Me} {Q : Option Value → Me → Prop} (a1 : Int32) (a2 : Int32) (a3 : Int32)  (h : ok (fpX0_weighed a1 a2 a3 M) (fun a => Q (some (.long a)) M)) : EvM (wX, z) mtX0_weighed 2 44 [.ref 46, .int a1, .int a2, .int a3] M Q := by
  refine evm_of [some (.ref 46), some (.int a1), some (.int a2), some (.int a3), none, none, none, none, none, none, none, none] 8 (by decide +kernel) (Nat.le_of_ble_eq_true rfl) rfl ?_
  unfold fpX0_weighed at h
  refine e_lconst (1 : Int64) dX0_weighed_0 (by decide) ?_
  refine e_lstore dX0_weighed_1 (by decide) rfl ?_
  refine e_bipush (8 : Int32) dX0_weighed_3 (by decide) ?_
  refine e_istore dX0_weighed_5 (by decide) rfl ?_
  refine e_iload_n dX0_weighed_7 rfl ?_
  refine e_istore dX0_weighed_8 (by decide) rfl ?_
  refine e_iconst (0 : Int32) dX0_weighed_10 (by decide) ?_
  refine e_istore dX0_weighed_11 (by decide) rfl ?_
  refine e_forget [some (.ref 46), some (.int a1), none, some (.int a3), some (.long (1 : Int64)), none, some (.int (8 : Int32)), some (.int a2), some (.int (0 : Int32)), none, none, none] (leL_s (leL_s (leL_n (leL_s (leL_s (leL_n (leL_s (leL_s (leL_s (leL_n (leL_n (leL_n leL_0)))))))))))) ?_
  refine elX0_weighed_l13 a1 a3 M FU ((1 : Int64), (8 : Int32), a2, (0 : Int32)) (ok_bnd h (fun r17 h => ?_))
  show Ev (wX, z) mtX0_weighed 2 44 140 [some (.ref 46), none, none, some (.int a3), some (.long r17.1), none, some (.int r17.2.1), some (.int r17.2.2), none, none, none, none] [] M Q
  refine e_aload_n dX0_weighed_140 rfl ?_
  refine e_iload dX0_weighed_141 rfl ?_
  refine e_iload dX0_weighed_143 rfl ?_
  refine e_bipush (9 : Int32) dX0_weighed_145 (by decide) ?_
  refine e_callV (f2 := 1) (l2 := 21) (ν := mtX0_carried) (as := [.int r17.2.2, .int r17.2.1, .int (9 : Int32)]) cv_RX0_113 is_X46 kc_6 ⟨Nat.le_of_ble_eq_true rfl, Nat.le_of_ble_eq_true rfl⟩ rfl rfl (Nat.le_of_ble_eq_true rfl) dX0_weighed_147 ?_
  refine ctX0_carried r17.2.2 r17.2.1 (9 : Int32) (ok_bnd h (fun v18 h => ?_))
  show Ev (wX, z) mtX0_weighed 2 44 150 [some (.ref 46), none, none, some (.int a3), some (.long r17.1), none, some (.int r17.2.1), some (.int r17.2.2), none, none, none, none] [.int v18] M Q
  refine e_istore dX0_weighed_150 (by decide) rfl ?_
  refine e_iload_n dX0_weighed_152 rfl ?_
  refine e_iconst (-1 : Int32) dX0_weighed_153 (by decide) ?_
  refine e_icmp_ne 164 dX0_weighed_154 (by decide) (fun c19 => ?_) (fun c19 => ?_)
  · have h := ok_f c19 h
    refine e_iload dX0_weighed_164 rfl ?_
    refine e_iload_n dX0_weighed_166 rfl ?_
    refine e_icmp_lt 175 dX0_weighed_167 (by decide) (fun c20 => ?_) (fun c20 => ?_)
    · have h := ok_t c20 h
      refine e_lconst (0 : Int64) dX0_weighed_175 (by decide) ?_
      have h := ok_some h
      exact e_lret rfl dX0_weighed_176 h
    · have h := ok_f c20 h
      refine e_lload dX0_weighed_170 rfl ?_
      refine e_goto 176 dX0_weighed_172 (by decide) ?_
      have h := ok_some h
      exact e_lret rfl dX0_weighed_176 h
  · have h := ok_t c19 h
    refine e_lload dX0_weighed_157 rfl ?_
    refine e_iload dX0_weighed_159 rfl ?_
    refine e_i2l dX0_weighed_161 ?_
    refine e_lmul dX0_weighed_162 ?_
    have h := ok_some h
    exact e_lret rfl dX0_weighed_163 h
def XX0_partsBringing_5 (z : Zt) (a1 : Int32) (a2 : Int32) (M : Me) (Q : Option Value → Me → Prop) : (Int64) → Prop := fun t => Ev (wX, z) mtX0_partsBringing 3 75 33 [none, none, none, some (.long t), none, none] [] M Q
def EX0_partsBringing_5 (z : Zt) (a1 : Int32) (a2 : Int32) (M : Me) (Q : Option Value → Me → Prop) : (Int64 × Int32) → Prop := fun s => Ev (wX, z) mtX0_partsBringing 3 75 5 [some (.ref 46), some (.int a1), some (.int a2), some (.long s.1), none, some (.int s.2)] [] M Q
def GX0_partsBringing_5 (z : Zt) (a1 : Int32) (a2 : Int32) (M : Me) (Q : Option Value → Me → Prop) : (Int64 × Int32) ⊕ (Int64) → Prop := Sum.elim (EX0_partsBringing_5 z a1 a2 M Q) (XX0_partsBringing_5 z a1 a2 M Q)
def fpX0_partsBringing_l5s (a1 : Int32) (a2 : Int32) (a3 : Int64) (a5 : Int32) (M : Me) : Option ((Int64 × Int32) ⊕ (Int64)) := (if ((1 : Int32) <<< ((M.1 46 1) &&& 31)) ≤ a5 then
 some (.inr a3)
 else
 (fpX0_weighed a5 a1 a2 M).bind fun v2 =>
 letv (a3 + v2) fun v3 =>
 letv (a5 + (1 : Int32)) fun v4 =>
 some (.inl (v3, v4)))
def fpX0_partsBringing_l5 (a1 : Int32) (a2 : Int32) (M : Me) (s : Int64 × Int32) : Option ((Int64 × Int32) ⊕ (Int64)) := fpX0_partsBringing_l5s a1 a2 s.1 s.2 M
set_option maxRecDepth 20000 in
theorem ebX0_partsBringing_l5s {z : Zt} {Q : Option Value → Me → Prop} (a1 : Int32) (a2 : Int32) (a3 : Int64) (a5 : Int32) (M : Me) (h : ok (fpX0_partsBringing_l5s a1 a2 a3 a5 M) (GX0_partsBringing_5 z a1 a2 M Q)) : Ev (wX, z) mtX0_partsBringing 3 75 5 [some (.ref 46), some (.int a1), some (.int a2), some (.long a3), none, some (.int a5)] [] M Q := by
  unfold fpX0_partsBringing_l5s at h
  refine e_iload dX0_partsBringing_5 rfl ?_
  refine e_iconst (1 : Int32) dX0_partsBringing_7 (by decide) ?_
  refine e_aload_n dX0_partsBringing_8 rfl ?_
  refine e_getI fa_RX0_15 is_X46 dX0_partsBringing_9 ?_
  refine e_ishl dX0_partsBringing_12 ?_
  refine e_icmp_ge 33 dX0_partsBringing_13 (by decide) (fun c1 => ?_) (fun c1 => ?_)
  · have h := ok_t c1 h
    refine e_forget [none, none, none, some (.long a3), none, none] (leL_n (leL_n (leL_n (leL_s (leL_n (leL_n leL_0)))))) ?_
    have h := ok_some h
    exact h
  · have h := ok_f c1 h
    refine e_lload_n dX0_partsBringing_16 rfl ?_
    refine e_aload_n dX0_partsBringing_17 rfl ?_
    refine e_iload dX0_partsBringing_18 rfl ?_
    refine e_iload_n dX0_partsBringing_20 rfl ?_
    refine e_iload_n dX0_partsBringing_21 rfl ?_
    refine e_callV (f2 := 2) (l2 := 44) (ν := mtX0_weighed) (as := [.int a5, .int a1, .int a2]) cv_RX0_170 is_X46 kc_6 ⟨Nat.le_of_ble_eq_true rfl, Nat.le_of_ble_eq_true rfl⟩ rfl rfl (Nat.le_of_ble_eq_true rfl) dX0_partsBringing_22 ?_
    refine ctX0_weighed a5 a1 a2 (ok_bnd h (fun v2 h => ?_))
    show Ev (wX, z) mtX0_partsBringing 3 75 25 [some (.ref 46), some (.int a1), some (.int a2), some (.long a3), none, some (.int a5)] [.long v2, .long a3] M Q
    refine e_ladd dX0_partsBringing_25 ?_
    refine lv1 (P := fun v3 => Ev (wX, z) mtX0_partsBringing 3 75 26 [some (.ref 46), some (.int a1), some (.int a2), some (.long a3), none, some (.int a5)] [.long v3] M Q) h (fun v3 h => ?_)
    refine e_lstore_n dX0_partsBringing_26 (by decide) rfl ?_
    refine lv1e h (fun v4 ev4 h => ?_)
    refine e_iinc v4 dX0_partsBringing_27 rfl ev4 (by decide) rfl ?_
    refine e_goto 5 dX0_partsBringing_30 (by decide) ?_
    refine e_forget [some (.ref 46), some (.int a1), some (.int a2), some (.long v3), none, some (.int v4)] (leL_s (leL_s (leL_s (leL_s (leL_n (leL_s leL_0)))))) ?_
    have h := ok_some h
    exact h
theorem elX0_partsBringing_l5 {z : Zt} {Q : Option Value → Me → Prop} (a1 : Int32) (a2 : Int32) (M : Me) (N : Nat) (s : Int64 × Int32) (h : ok (lp (fpX0_partsBringing_l5 a1 a2 M) N s) (XX0_partsBringing_5 z a1 a2 M Q)) : EX0_partsBringing_5 z a1 a2 M Q s :=
  lp_ind (fun s h => ebX0_partsBringing_l5s a1 a2 s.1 s.2 M h) N s h
def fpX0_partsBringing (a1 : Int32) (a2 : Int32) (M : Me) : Option (Int64) := (lp (fpX0_partsBringing_l5 a1 a2 M) FU ((0 : Int64), (0 : Int32))).bind fun r5 =>
 some r5
set_option maxRecDepth 20000 in
theorem ctX0_partsBringing {z : Zt} {M : Me} {Q : Option Value → Me → Prop} (a1 : Int32) (a2 : Int32)  (h : ok (fpX0_partsBringing a1 a2 M) (fun a => Q (some (.long a)) M)) : EvM (wX, z) mtX0_partsBringing 3 75 [.ref 46, .int a1, .int a2] M Q := by
  refine evm_of [some (.ref 46), some (.int a1), some (.int a2), none, none, none] 3 (by decide +kernel) (Nat.le_of_ble_eq_true rfl) rfl ?_
  unfold fpX0_partsBringing at h
  refine e_lconst (0 : Int64) dX0_partsBringing_0 (by decide) ?_
  refine e_lstore_n dX0_partsBringing_1 (by decide) rfl ?_
  refine e_iconst (0 : Int32) dX0_partsBringing_2 (by decide) ?_
  refine e_istore dX0_partsBringing_3 (by decide) rfl ?_
  refine e_forget [some (.ref 46), some (.int a1), some (.int a2), some (.long (0 : Int64)), none, some (.int (0 : Int32))] (leL_s (leL_s (leL_s (leL_s (leL_n (leL_s leL_0)))))) ?_
  refine elX0_partsBringing_l5 a1 a2 M FU ((0 : Int64), (0 : Int32)) (ok_bnd h (fun r5 h => ?_))
  show Ev (wX, z) mtX0_partsBringing 3 75 33 [none, none, none, some (.long r5), none, none] [] M Q
  refine e_lload_n dX0_partsBringing_33 rfl ?_
  have h := ok_some h
  exact e_lret rfl dX0_partsBringing_34 h
def fpX0_sumBrought (a1 : Int32) (M : Me) : Option (Int64) := (fpX0_partsBringing a1 (-1 : Int32) M).bind fun v1 =>
 some v1
set_option maxRecDepth 20000 in
theorem ctX0_sumBrought {z : Zt} {M : Me} {Q : Option Value → Me → Prop} (a1 : Int32)  (h : ok (fpX0_sumBrought a1 M) (fun a => Q (some (.long a)) M)) : EvM (wX, z) mtX0_sumBrought 4 100 [.ref 46, .int a1] M Q := by
  refine evm_of [some (.ref 46), some (.int a1)] 0 (by decide +kernel) (Nat.le_of_ble_eq_true rfl) rfl ?_
  unfold fpX0_sumBrought at h
  refine e_aload_n dX0_sumBrought_0 rfl ?_
  refine e_iload_n dX0_sumBrought_1 rfl ?_
  refine e_iconst (-1 : Int32) dX0_sumBrought_2 (by decide) ?_
  refine e_callV (f2 := 3) (l2 := 75) (ν := mtX0_partsBringing) (as := [.int a1, .int (-1 : Int32)]) cv_RX0_174 is_X46 kc_6 ⟨Nat.le_of_ble_eq_true rfl, Nat.le_of_ble_eq_true rfl⟩ rfl rfl (Nat.le_of_ble_eq_true rfl) dX0_sumBrought_3 ?_
  refine ctX0_partsBringing a1 (-1 : Int32) (ok_bnd h (fun v1 h => ?_))
  show Ev (wX, z) mtX0_sumBrought 4 100 6 [some (.ref 46), some (.int a1)] [.long v1] M Q
  have h := ok_some h
  exact e_lret rfl dX0_sumBrought_6 h
def fpX1_take (a0 : Nat) (a1 : Nat) (M : Me) : Option (Me) := letv (wrM M a0 0 (M.1 a1 0)) fun M1 =>
 letv (wrM M1 a0 1 (M1.1 a1 1)) fun M2 =>
 letv (wrM M2 a0 2 (M2.1 a1 2)) fun M3 =>
 letv (wrM M3 a0 3 (M3.1 a1 3)) fun M4 =>
 letv (wrM M4 a0 4 (M4.1 a1 4)) fun M5 =>
 bz (M5.1 a1 5) <|
 letv (wrM M5 a0 5 (M5.1 a1 5)) fun M7 =>
 some M7
set_option maxRecDepth 20000 in
theorem ctX1_take {z : Zt} {M : Me} {Q : Option Value → Me → Prop} (a0 : Nat) (a1 : Nat) (ha0 : Is (wX, z) a0 3) (ha1 : Is (wX, z) a1 3) (h : ok (fpX1_take a0 a1 M) (fun a => Q none a)) : EvM (wX, z) mtX1_take 0 0 [.ref a0, .ref a1] M Q := by
  refine evm_of [some (.ref a0), some (.ref a1)] 0 (by decide +kernel) (Nat.le_of_ble_eq_true rfl) rfl ?_
  unfold fpX1_take at h
  refine e_aload_n dX1_take_0 rfl ?_
  refine e_aload_n dX1_take_1 rfl ?_
  refine e_getI fa_RX1_9 ha1 dX1_take_2 ?_
  refine e_putI fw_RX1_9 ha0 dX1_take_5 ?_
  refine lv1 (P := fun M1 => Ev (wX, z) mtX1_take 0 0 8 [some (.ref a0), some (.ref a1)] [] M1 Q) h (fun M1 h => ?_)
  refine e_aload_n dX1_take_8 rfl ?_
  refine e_aload_n dX1_take_9 rfl ?_
  refine e_getI fa_RX1_15 ha1 dX1_take_10 ?_
  refine e_putI fw_RX1_15 ha0 dX1_take_13 ?_
  refine lv1 (P := fun M2 => Ev (wX, z) mtX1_take 0 0 16 [some (.ref a0), some (.ref a1)] [] M2 Q) h (fun M2 h => ?_)
  refine e_aload_n dX1_take_16 rfl ?_
  refine e_aload_n dX1_take_17 rfl ?_
  refine e_getI fa_RX1_18 ha1 dX1_take_18 ?_
  refine e_putI fw_RX1_18 ha0 dX1_take_21 ?_
  refine lv1 (P := fun M3 => Ev (wX, z) mtX1_take 0 0 24 [some (.ref a0), some (.ref a1)] [] M3 Q) h (fun M3 h => ?_)
  refine e_aload_n dX1_take_24 rfl ?_
  refine e_aload_n dX1_take_25 rfl ?_
  refine e_getI fa_RX1_21 ha1 dX1_take_26 ?_
  refine e_putI fw_RX1_21 ha0 dX1_take_29 ?_
  refine lv1 (P := fun M4 => Ev (wX, z) mtX1_take 0 0 32 [some (.ref a0), some (.ref a1)] [] M4 Q) h (fun M4 h => ?_)
  refine e_aload_n dX1_take_32 rfl ?_
  refine e_aload_n dX1_take_33 rfl ?_
  refine e_getI fa_RX1_24 ha1 dX1_take_34 ?_
  refine e_putI fw_RX1_24 ha0 dX1_take_37 ?_
  refine lv1 (P := fun M5 => Ev (wX, z) mtX1_take 0 0 40 [some (.ref a0), some (.ref a1)] [] M5 Q) h (fun M5 h => ?_)
  refine e_aload_n dX1_take_40 rfl ?_
  refine e_aload_n dX1_take_41 rfl ?_
  refine e_getI fa_RX1_27 ha1 dX1_take_42 ?_
  obtain ⟨z6, h⟩ := ok_bz h
  refine e_putZ fw_RX1_27 ha0 z6 dX1_take_45 ?_
  refine lv1 (P := fun M7 => Ev (wX, z) mtX1_take 0 0 48 [some (.ref a0), some (.ref a1)] [] M7 Q) h (fun M7 h => ?_)
  have h := ok_some h
  exact e_vret rfl dX1_take_48 h
def XX1_isOf_7 (z : Zt) (a1 : Int32) (M : Me) (Q : Option Value → Me → Prop) : ((Unit) ⊕ (Int32)) → Prop := Sum.elim (fun t => Ev (wX, z) mtX1_isOf 0 0 37 [none, none, none, none] [] M Q) (fun v => Q (some (.int v)) M)
def EX1_isOf_7 (z : Zt) (a1 : Int32) (M : Me) (Q : Option Value → Me → Prop) : (Int32 × Int32) → Prop := fun s => Ev (wX, z) mtX1_isOf 0 0 7 [none, some (.int a1), some (.int s.1), some (.int s.2)] [] M Q
def GX1_isOf_7 (z : Zt) (a1 : Int32) (M : Me) (Q : Option Value → Me → Prop) : (Int32 × Int32) ⊕ ((Unit) ⊕ (Int32)) → Prop := Sum.elim (EX1_isOf_7 z a1 M Q) (XX1_isOf_7 z a1 M Q)
def fpX1_isOf_l7s (a1 : Int32) (a2 : Int32) (a3 : Int32) (M : Me) : Option ((Int32 × Int32) ⊕ ((Unit) ⊕ (Int32))) := (if (6 : Int32) < a3 then
 some (.inr (.inl ()))
 else
 (if a2 = (-1 : Int32) then
 some (.inr (.inl ()))
 else
 (if a2 = a1 then
 some (.inr (.inr (1 : Int32)))
 else
 (inb a2 7).bind fun k5 =>
 letv (kAbove.getD k5 0) fun v6 =>
 letv (a3 + (1 : Int32)) fun v7 =>
 some (.inl (v6, v7)))))
def fpX1_isOf_l7 (a1 : Int32) (M : Me) (s : Int32 × Int32) : Option ((Int32 × Int32) ⊕ ((Unit) ⊕ (Int32))) := fpX1_isOf_l7s a1 s.1 s.2 M
set_option maxRecDepth 20000 in
theorem ebX1_isOf_l7s {z : Zt} {Q : Option Value → Me → Prop} (a1 : Int32) (a2 : Int32) (a3 : Int32) (M : Me) (h : ok (fpX1_isOf_l7s a1 a2 a3 M) (GX1_isOf_7 z a1 M Q)) : Ev (wX, z) mtX1_isOf 0 0 7 [none, some (.int a1), some (.int a2), some (.int a3)] [] M Q := by
  unfold fpX1_isOf_l7s at h
  refine e_iload_n dX1_isOf_7 rfl ?_
  refine e_bipush (6 : Int32) dX1_isOf_8 (by decide) ?_
  refine e_icmp_gt 37 dX1_isOf_10 (by decide) (fun c2 => ?_) (fun c2 => ?_)
  · have h := ok_t c2 h
    refine e_forget [none, none, none, none] (leL_n (leL_n (leL_n (leL_n leL_0)))) ?_
    have h := ok_some h
    exact h
  · have h := ok_f c2 h
    refine e_iload_n dX1_isOf_13 rfl ?_
    refine e_iconst (-1 : Int32) dX1_isOf_14 (by decide) ?_
    refine e_icmp_eq 37 dX1_isOf_15 (by decide) (fun c3 => ?_) (fun c3 => ?_)
    · have h := ok_t c3 h
      refine e_forget [none, none, none, none] (leL_n (leL_n (leL_n (leL_n leL_0)))) ?_
      have h := ok_some h
      exact h
    · have h := ok_f c3 h
      refine e_iload_n dX1_isOf_18 rfl ?_
      refine e_iload_n dX1_isOf_19 rfl ?_
      refine e_icmp_ne 25 dX1_isOf_20 (by decide) (fun c4 => ?_) (fun c4 => ?_)
      · have h := ok_f c4 h
        refine e_gsT rfl rfl dX1_isOf_25 ?_
        refine e_iload_n dX1_isOf_28 rfl ?_
        refine ok_inb h (fun k5 ek5 ik5 h => ?_)
        refine e_ialdT ik5 ek5 dX1_isOf_29 ?_
        refine lv1 (P := fun v6 => Ev (wX, z) mtX1_isOf 0 0 30 [none, some (.int a1), some (.int a2), some (.int a3)] [.int v6] M Q) h (fun v6 h => ?_)
        refine e_istore_n dX1_isOf_30 (by decide) rfl ?_
        refine lv1e h (fun v7 ev7 h => ?_)
        refine e_iinc v7 dX1_isOf_31 rfl ev7 (by decide) rfl ?_
        refine e_goto 7 dX1_isOf_34 (by decide) ?_
        refine e_forget [none, some (.int a1), some (.int v6), some (.int v7)] (leL_n (leL_s (leL_s (leL_s leL_0)))) ?_
        have h := ok_some h
        exact h
      · have h := ok_t c4 h
        refine e_iconst (1 : Int32) dX1_isOf_23 (by decide) ?_
        have h := ok_some h
        exact e_zret rfl (Or.inr rfl) dX1_isOf_24 h
theorem elX1_isOf_l7 {z : Zt} {Q : Option Value → Me → Prop} (a1 : Int32) (M : Me) (N : Nat) (s : Int32 × Int32) (h : ok (lp (fpX1_isOf_l7 a1 M) N s) (XX1_isOf_7 z a1 M Q)) : EX1_isOf_7 z a1 M Q s :=
  lp_ind (fun s h => ebX1_isOf_l7s a1 s.1 s.2 M h) N s h
def fpX1_isOf (a0 : Nat) (a1 : Int32) (M : Me) : Option (Int32) := letv (M.1 a0 0) fun v1 =>
 (lp (fpX1_isOf_l7 a1 M) FU (v1, (0 : Int32))).bind fun r8 => Sum.elim (fun t9 =>
 some (0 : Int32)) (fun u10 => some u10) r8
set_option maxRecDepth 20000 in
theorem ctX1_isOf {z : Zt} {M : Me} {Q : Option Value → Me → Prop} (a0 : Nat) (a1 : Int32) (ha0 : Is (wX, z) a0 3) (h : ok (fpX1_isOf a0 a1 M) (fun a => Q (some (.int a)) M)) : EvM (wX, z) mtX1_isOf 0 0 [.ref a0, .int a1] M Q := by
  refine evm_of [some (.ref a0), some (.int a1), none, none] 2 (by decide +kernel) (Nat.le_of_ble_eq_true rfl) rfl ?_
  unfold fpX1_isOf at h
  refine e_aload_n dX1_isOf_0 rfl ?_
  refine e_getI fa_RX1_9 ha0 dX1_isOf_1 ?_
  refine lv1 (P := fun v1 => Ev (wX, z) mtX1_isOf 0 0 4 [some (.ref a0), some (.int a1), none, none] [.int v1] M Q) h (fun v1 h => ?_)
  refine e_istore_n dX1_isOf_4 (by decide) rfl ?_
  refine e_iconst (0 : Int32) dX1_isOf_5 (by decide) ?_
  refine e_istore_n dX1_isOf_6 (by decide) rfl ?_
  refine e_forget [none, some (.int a1), some (.int v1), some (.int (0 : Int32))] (leL_n (leL_s (leL_s (leL_s leL_0)))) ?_
  refine elX1_isOf_l7 a1 M FU (v1, (0 : Int32)) (ok_bnd h (fun r8 h => ?_))
  rcases r8 with t9 | u10
  · show Ev (wX, z) mtX1_isOf 0 0 37 [none, none, none, none] [] M Q
    refine e_iconst (0 : Int32) dX1_isOf_37 (by decide) ?_
    have h := ok_some h
    exact e_zret rfl (Or.inl rfl) dX1_isOf_38 h
  · have h := ok_some h
    exact h
def XX2_take_2 (z : Zt) (a0 : Nat) (a1 : Nat) (Q : Option Value → Me → Prop) : (Me) → Prop := fun t => Ev (wX, z) mtX2_take 1 26 29 [some (.ref a0), some (.ref a1), none] [] t Q
def EX2_take_2 (z : Zt) (a0 : Nat) (a1 : Nat) (Q : Option Value → Me → Prop) : (Int32 × Me) → Prop := fun s => Ev (wX, z) mtX2_take 1 26 2 [some (.ref a0), some (.ref a1), some (.int s.1)] [] s.2 Q
def GX2_take_2 (z : Zt) (a0 : Nat) (a1 : Nat) (Q : Option Value → Me → Prop) : (Int32 × Me) ⊕ (Me) → Prop := Sum.elim (EX2_take_2 z a0 a1 Q) (XX2_take_2 z a0 a1 Q)
def fpX2_take_l2s (a0 : Nat) (a1 : Nat) (a2 : Int32) (M : Me) : Option ((Int32 × Me) ⊕ (Me)) := (if (8 : Int32) ≤ a2 then
 some (.inr M)
 else
 (inb a2 8).bind fun k2 =>
 (fpX1_take (a0 + 3 + k2) (a1 + 3 + k2) M).bind fun q3 =>
 letv (a2 + (1 : Int32)) fun v4 =>
 some (.inl (v4, q3)))
def fpX2_take_l2 (a0 : Nat) (a1 : Nat) (s : Int32 × Me) : Option ((Int32 × Me) ⊕ (Me)) := fpX2_take_l2s a0 a1 s.1 s.2
set_option maxRecDepth 20000 in
theorem ebX2_take_l2s {z : Zt} {Q : Option Value → Me → Prop} (a0 : Nat) (a1 : Nat) (ha0 : Is (wX, z) a0 2) (ha1 : Is (wX, z) a1 2) (a2 : Int32) (M : Me) (h : ok (fpX2_take_l2s a0 a1 a2 M) (GX2_take_2 z a0 a1 Q)) : Ev (wX, z) mtX2_take 1 26 2 [some (.ref a0), some (.ref a1), some (.int a2)] [] M Q := by
  unfold fpX2_take_l2s at h
  refine e_iload_n dX2_take_2 rfl ?_
  refine e_bipush (8 : Int32) dX2_take_3 (by decide) ?_
  refine e_icmp_ge 29 dX2_take_5 (by decide) (fun c1 => ?_) (fun c1 => ?_)
  · have h := ok_t c1 h
    refine e_forget [some (.ref a0), some (.ref a1), none] (leL_s (leL_s (leL_n leL_0))) ?_
    have h := ok_some h
    exact h
  · have h := ok_f c1 h
    refine e_aload_n dX2_take_8 rfl ?_
    refine e_getR fa_RX2_11 ha0 rfl dX2_take_9 ?_
    refine e_iload_n dX2_take_12 rfl ?_
    refine ok_inb h (fun k2 ek2 ik2 h => ?_)
    refine e_aaldK (rd_pumps ha0) (r' := (a0 + 3 + k2)) (Or.inl rfl) ik2 ek2 (by omega) dX2_take_13 ?_
    refine e_aload_n dX2_take_14 rfl ?_
    refine e_getR fa_RX2_11 ha1 rfl dX2_take_15 ?_
    refine e_iload_n dX2_take_18 rfl ?_
    refine e_aaldK (rd_pumps ha1) (r' := (a1 + 3 + k2)) (Or.inl rfl) ik2 ek2 (by omega) dX2_take_19 ?_
    refine e_callV (f2 := 0) (l2 := 0) (ν := mtX1_take) (as := [.ref (a1 + 3 + k2)]) cv_RX2_59 (pm_is ha0 ik2 ek2) kc_3 ⟨Nat.le_of_ble_eq_true rfl, Nat.le_of_ble_eq_true rfl⟩ rfl rfl (Nat.le_of_ble_eq_true rfl) dX2_take_20 ?_
    refine ctX1_take (a0 + 3 + k2) (a1 + 3 + k2) (pm_is ha0 ik2 ek2) (pm_is ha1 ik2 ek2) (ok_bnd h (fun q3 h => ?_))
    show Ev (wX, z) mtX2_take 1 26 23 [some (.ref a0), some (.ref a1), some (.int a2)] [] q3 Q
    refine lv1e h (fun v4 ev4 h => ?_)
    refine e_iinc v4 dX2_take_23 rfl ev4 (by decide) rfl ?_
    refine e_goto 2 dX2_take_26 (by decide) ?_
    refine e_forget [some (.ref a0), some (.ref a1), some (.int v4)] (leL_s (leL_s (leL_s leL_0))) ?_
    have h := ok_some h
    exact h
theorem elX2_take_l2 {z : Zt} {Q : Option Value → Me → Prop} (a0 : Nat) (a1 : Nat) (ha0 : Is (wX, z) a0 2) (ha1 : Is (wX, z) a1 2) (N : Nat) (s : Int32 × Me) (h : ok (lp (fpX2_take_l2 a0 a1) N s) (XX2_take_2 z a0 a1 Q)) : EX2_take_2 z a0 a1 Q s :=
  lp_ind (fun s h => ebX2_take_l2s a0 a1 ha0 ha1 s.1 s.2 h) N s h
def fpX2_take (a0 : Nat) (a1 : Nat) (M : Me) : Option (Me) := (lp (fpX2_take_l2 a0 a1) FU ((0 : Int32), M)).bind fun r5 =>
 cpyc (0 : Int32) (0 : Int32) (10 : Int32) 10 10 <|
 letv (wrA r5 (a0 + 2) (va_cpy (r5.1 (a1 + 2)) (r5.1 (a0 + 2)) (0 : Int32).toNatClampNeg (0 : Int32).toNatClampNeg (10 : Int32).toNatClampNeg)) fun M7 =>
 letv (wrM M7 a0 2 (M7.1 a1 2)) fun M8 =>
 letv (wrM M8 a0 3 (M8.1 a1 3)) fun M9 =>
 letv (wrM M9 a0 4 (M9.1 a1 4)) fun M10 =>
 letv (wrM M10 a0 5 (M10.1 a1 5)) fun M11 =>
 letv (wrM M11 a0 6 (M11.1 a1 6)) fun M12 =>
 letv (wrM M12 a0 7 (M12.1 a1 7)) fun M13 =>
 letv (wrM M13 a0 8 (M13.1 a1 8)) fun M14 =>
 letv (wrM M14 a0 9 (M14.1 a1 9)) fun M15 =>
 letv (wrM M15 a0 10 (M15.1 a1 10)) fun M16 =>
 letv (wrM M16 a0 11 (M16.1 a1 11)) fun M17 =>
 letv (wrM M17 a0 12 (M17.1 a1 12)) fun M18 =>
 letv (wrM M18 a0 13 (M18.1 a1 13)) fun M19 =>
 some M19
set_option maxRecDepth 20000 in
theorem ctX2_take {z : Zt} {M : Me} {Q : Option Value → Me → Prop} (a0 : Nat) (a1 : Nat) (ha0 : Is (wX, z) a0 2) (ha1 : Is (wX, z) a1 2) (h : ok (fpX2_take a0 a1 M) (fun a => Q none a)) : EvM (wX, z) mtX2_take 1 26 [.ref a0, .ref a1] M Q := by
  refine evm_of [some (.ref a0), some (.ref a1), none] 1 (by decide +kernel) (Nat.le_of_ble_eq_true rfl) rfl ?_
  unfold fpX2_take at h
  refine e_iconst (0 : Int32) dX2_take_0 (by decide) ?_
  refine e_istore_n dX2_take_1 (by decide) rfl ?_
  refine e_forget [some (.ref a0), some (.ref a1), some (.int (0 : Int32))] (leL_s (leL_s (leL_s leL_0))) ?_
  refine elX2_take_l2 a0 a1 ha0 ha1 FU ((0 : Int32), M) (ok_bnd h (fun r5 h => ?_))
  show Ev (wX, z) mtX2_take 1 26 29 [some (.ref a0), some (.ref a1), none] [] r5 Q
  refine e_aload_n dX2_take_29 rfl ?_
  refine e_getR fa_RX2_17 ha1 rfl dX2_take_30 ?_
  refine e_iconst (0 : Int32) dX2_take_33 (by decide) ?_
  refine e_aload_n dX2_take_34 rfl ?_
  refine e_getR fa_RX2_17 ha0 rfl dX2_take_35 ?_
  refine e_iconst (0 : Int32) dX2_take_38 (by decide) ?_
  refine e_bipush (10 : Int32) dX2_take_39 (by decide) ?_
  obtain ⟨p6, q6, r6, s6, t6, h⟩ := ok_cpy h
  refine e_copy ⟨wl_RX2_63, wn_copy, ws_copy, wi_RJ10⟩ (rd_spots ha1) (rd_spots ha0) p6 q6 r6 s6 t6 (Nat.le_of_ble_eq_true rfl) (Nat.le_of_ble_eq_true rfl) dX2_take_41 ?_
  refine lv1 (P := fun M7 => Ev (wX, z) mtX2_take 1 26 44 [some (.ref a0), some (.ref a1), none] [] M7 Q) h (fun M7 h => ?_)
  refine e_aload_n dX2_take_44 rfl ?_
  refine e_aload_n dX2_take_45 rfl ?_
  refine e_getI fa_RX2_21 ha1 dX2_take_46 ?_
  refine e_putI fw_RX2_21 ha0 dX2_take_49 ?_
  refine lv1 (P := fun M8 => Ev (wX, z) mtX2_take 1 26 52 [some (.ref a0), some (.ref a1), none] [] M8 Q) h (fun M8 h => ?_)
  refine e_aload_n dX2_take_52 rfl ?_
  refine e_aload_n dX2_take_53 rfl ?_
  refine e_getI fa_RX2_25 ha1 dX2_take_54 ?_
  refine e_putI fw_RX2_25 ha0 dX2_take_57 ?_
  refine lv1 (P := fun M9 => Ev (wX, z) mtX2_take 1 26 60 [some (.ref a0), some (.ref a1), none] [] M9 Q) h (fun M9 h => ?_)
  refine e_aload_n dX2_take_60 rfl ?_
  refine e_aload_n dX2_take_61 rfl ?_
  refine e_getI fa_RX2_28 ha1 dX2_take_62 ?_
  refine e_putI fw_RX2_28 ha0 dX2_take_65 ?_
  refine lv1 (P := fun M10 => Ev (wX, z) mtX2_take 1 26 68 [some (.ref a0), some (.ref a1), none] [] M10 Q) h (fun M10 h => ?_)
  refine e_aload_n dX2_take_68 rfl ?_
  refine e_aload_n dX2_take_69 rfl ?_
  refine e_getI fa_RX2_31 ha1 dX2_take_70 ?_
  refine e_putI fw_RX2_31 ha0 dX2_take_73 ?_
  refine lv1 (P := fun M11 => Ev (wX, z) mtX2_take 1 26 76 [some (.ref a0), some (.ref a1), none] [] M11 Q) h (fun M11 h => ?_)
  refine e_aload_n dX2_take_76 rfl ?_
  refine e_aload_n dX2_take_77 rfl ?_
  refine e_getI fa_RX2_34 ha1 dX2_take_78 ?_
  refine e_putI fw_RX2_34 ha0 dX2_take_81 ?_
  refine lv1 (P := fun M12 => Ev (wX, z) mtX2_take 1 26 84 [some (.ref a0), some (.ref a1), none] [] M12 Q) h (fun M12 h => ?_)
  refine e_aload_n dX2_take_84 rfl ?_
  refine e_aload_n dX2_take_85 rfl ?_
  refine e_getI fa_RX2_37 ha1 dX2_take_86 ?_
  refine e_putI fw_RX2_37 ha0 dX2_take_89 ?_
  refine lv1 (P := fun M13 => Ev (wX, z) mtX2_take 1 26 92 [some (.ref a0), some (.ref a1), none] [] M13 Q) h (fun M13 h => ?_)
  refine e_aload_n dX2_take_92 rfl ?_
  refine e_aload_n dX2_take_93 rfl ?_
  refine e_getI fa_RX2_40 ha1 dX2_take_94 ?_
  refine e_putI fw_RX2_40 ha0 dX2_take_97 ?_
  refine lv1 (P := fun M14 => Ev (wX, z) mtX2_take 1 26 100 [some (.ref a0), some (.ref a1), none] [] M14 Q) h (fun M14 h => ?_)
  refine e_aload_n dX2_take_100 rfl ?_
  refine e_aload_n dX2_take_101 rfl ?_
  refine e_getI fa_RX2_43 ha1 dX2_take_102 ?_
  refine e_putI fw_RX2_43 ha0 dX2_take_105 ?_
  refine lv1 (P := fun M15 => Ev (wX, z) mtX2_take 1 26 108 [some (.ref a0), some (.ref a1), none] [] M15 Q) h (fun M15 h => ?_)
  refine e_aload_n dX2_take_108 rfl ?_
  refine e_aload_n dX2_take_109 rfl ?_
  refine e_getI fa_RX2_46 ha1 dX2_take_110 ?_
  refine e_putI fw_RX2_46 ha0 dX2_take_113 ?_
  refine lv1 (P := fun M16 => Ev (wX, z) mtX2_take 1 26 116 [some (.ref a0), some (.ref a1), none] [] M16 Q) h (fun M16 h => ?_)
  refine e_aload_n dX2_take_116 rfl ?_
  refine e_aload_n dX2_take_117 rfl ?_
  refine e_getI fa_RX2_49 ha1 dX2_take_118 ?_
  refine e_putI fw_RX2_49 ha0 dX2_take_121 ?_
  refine lv1 (P := fun M17 => Ev (wX, z) mtX2_take 1 26 124 [some (.ref a0), some (.ref a1), none] [] M17 Q) h (fun M17 h => ?_)
  refine e_aload_n dX2_take_124 rfl ?_
  refine e_aload_n dX2_take_125 rfl ?_
  refine e_getI fa_RX2_52 ha1 dX2_take_126 ?_
  refine e_putI fw_RX2_52 ha0 dX2_take_129 ?_
  refine lv1 (P := fun M18 => Ev (wX, z) mtX2_take 1 26 132 [some (.ref a0), some (.ref a1), none] [] M18 Q) h (fun M18 h => ?_)
  refine e_aload_n dX2_take_132 rfl ?_
  refine e_aload_n dX2_take_133 rfl ?_
  refine e_getI fa_RX2_55 ha1 dX2_take_134 ?_
  refine e_putI fw_RX2_55 ha0 dX2_take_137 ?_
  refine lv1 (P := fun M19 => Ev (wX, z) mtX2_take 1 26 140 [some (.ref a0), some (.ref a1), none] [] M19 Q) h (fun M19 h => ?_)
  have h := ok_some h
  exact e_vret rfl dX2_take_140 h
def fpX2_has (a0 : Nat) (a1 : Int32) (M : Me) : Int32 := (if a1 < 0 then (0 : Int32) else (if (M.1 a0 2) ≤ a1 then (0 : Int32) else (1 : Int32)))
theorem fpzX2_has (a0 : Nat) (a1 : Int32) (M : Me) : fpX2_has a0 a1 M = 0 ∨ fpX2_has a0 a1 M = 1 := by
  unfold fpX2_has
  (repeat' split) <;> first | exact Or.inl rfl | exact Or.inr rfl
set_option maxRecDepth 20000 in
theorem ctX2_has {z : Zt} {M : Me} {Q : Option Value → Me → Prop} (a0 : Nat) (a1 : Int32) (ha0 : Is (wX, z) a0 2) (h : Q (some (.int (fpX2_has a0 a1 M))) M) : EvM (wX, z) mtX2_has 0 0 [.ref a0, .int a1] M Q := by
  refine evm_of [some (.ref a0), some (.int a1)] 0 (by decide +kernel) (Nat.le_of_ble_eq_true rfl) rfl ?_
  refine e_iload_n dX2_has_0 rfl ?_
  refine e_if_lt 16 dX2_has_1 (by decide) (fun c1 => ?_) (fun c1 => ?_)
  · refine e_iconst (0 : Int32) dX2_has_16 (by decide) ?_
    have e0 : fpX2_has a0 a1 M = (0 : Int32) := by
      unfold fpX2_has
      rw [if_pos c1]
    rw [e0] at h
    exact e_zret rfl (Or.inl rfl) dX2_has_17 h
  · refine e_iload_n dX2_has_4 rfl ?_
    refine e_aload_n dX2_has_5 rfl ?_
    refine e_getI fa_RX2_21 ha0 dX2_has_6 ?_
    refine e_icmp_ge 16 dX2_has_9 (by decide) (fun c2 => ?_) (fun c2 => ?_)
    · refine e_iconst (0 : Int32) dX2_has_16 (by decide) ?_
      have e0 : fpX2_has a0 a1 M = (0 : Int32) := by
        unfold fpX2_has
        rw [if_neg c1, if_pos c2]
      rw [e0] at h
      exact e_zret rfl (Or.inl rfl) dX2_has_17 h
    · refine e_iconst (1 : Int32) dX2_has_12 (by decide) ?_
      refine e_goto 17 dX2_has_13 (by decide) ?_
      have e0 : fpX2_has a0 a1 M = (1 : Int32) := by
        unfold fpX2_has
        rw [if_neg c1, if_neg c2]
      rw [e0] at h
      exact e_zret rfl (Or.inr rfl) dX2_has_17 h
def fpX2_isFull (a0 : Nat) (M : Me) : Int32 := (if (M.1 a0 2) < (8 : Int32) then (0 : Int32) else (1 : Int32))
theorem fpzX2_isFull (a0 : Nat) (M : Me) : fpX2_isFull a0 M = 0 ∨ fpX2_isFull a0 M = 1 := by
  unfold fpX2_isFull
  (repeat' split) <;> first | exact Or.inl rfl | exact Or.inr rfl
set_option maxRecDepth 20000 in
theorem ctX2_isFull {z : Zt} {M : Me} {Q : Option Value → Me → Prop} (a0 : Nat) (ha0 : Is (wX, z) a0 2) (h : Q (some (.int (fpX2_isFull a0 M))) M) : EvM (wX, z) mtX2_isFull 0 0 [.ref a0] M Q := by
  refine evm_of [some (.ref a0)] 0 (by decide +kernel) (Nat.le_of_ble_eq_true rfl) rfl ?_
  refine e_aload_n dX2_isFull_0 rfl ?_
  refine e_getI fa_RX2_21 ha0 dX2_isFull_1 ?_
  refine e_bipush (8 : Int32) dX2_isFull_4 (by decide) ?_
  refine e_icmp_lt 13 dX2_isFull_6 (by decide) (fun c1 => ?_) (fun c1 => ?_)
  · refine e_iconst (0 : Int32) dX2_isFull_13 (by decide) ?_
    have e0 : fpX2_isFull a0 M = (0 : Int32) := by
      unfold fpX2_isFull
      rw [if_pos c1]
    rw [e0] at h
    exact e_zret rfl (Or.inl rfl) dX2_isFull_14 h
  · refine e_iconst (1 : Int32) dX2_isFull_9 (by decide) ?_
    refine e_goto 14 dX2_isFull_10 (by decide) ?_
    have e0 : fpX2_isFull a0 M = (1 : Int32) := by
      unfold fpX2_isFull
      rw [if_neg c1]
    rw [e0] at h
    exact e_zret rfl (Or.inr rfl) dX2_isFull_14 h
def fpX2_leastRoom (a0 : Nat) (M : Me) : Int32 := (fpJ9_max_7cf53 (1 : Int32) (M.1 a0 4))
set_option maxRecDepth 20000 in
theorem ctX2_leastRoom {z : Zt} {M : Me} {Q : Option Value → Me → Prop} (a0 : Nat) (ha0 : Is (wX, z) a0 2) (h : Q (some (.int (fpX2_leastRoom a0 M))) M) : EvM (wX, z) mtX2_leastRoom 1 21 [.ref a0] M Q := by
  refine evm_of [some (.ref a0)] 0 (by decide +kernel) (Nat.le_of_ble_eq_true rfl) rfl ?_
  refine e_iconst (1 : Int32) dX2_leastRoom_0 (by decide) ?_
  refine e_aload_n dX2_leastRoom_1 rfl ?_
  refine e_getI fa_RX2_28 ha0 dX2_leastRoom_2 ?_
  refine e_callS (f2 := 0) (l2 := 0) (ν := mtJ9_max_7cf53) (as := [.int (1 : Int32), .int (M.1 a0 4)]) cs_RX2_69 ⟨Nat.le_of_ble_eq_true rfl, Nat.le_of_ble_eq_true rfl⟩ rfl rfl (Nat.le_of_ble_eq_true rfl) dX2_leastRoom_5 ?_
  refine ctJ9_max_7cf53 (1 : Int32) (M.1 a0 4) ?_
  show Ev (wX, z) mtX2_leastRoom 1 21 8 [some (.ref a0)] [.int (fpJ9_max_7cf53 (1 : Int32) (M.1 a0 4))] M Q
  have e0 : fpX2_leastRoom a0 M = (fpJ9_max_7cf53 (1 : Int32) (M.1 a0 4)) := rfl
  rw [e0] at h
  exact e_iret rfl dX2_leastRoom_8 h
def fpX2_add (a0 : Nat) (a1 : Int32) (a2 : Int32) (a3 : Int32) (a4 : Int32) (M : Me) : Option (Me) := (inb (M.1 a0 2) 8).bind fun k1 =>
 letv (wrM M (a0 + 3 + k1) 0 a1) fun M2 =>
 letv (wrM M2 (a0 + 3 + k1) 1 a2) fun M3 =>
 letv (wrM M3 (a0 + 3 + k1) 2 a3) fun M4 =>
 letv (wrM M4 (a0 + 3 + k1) 3 a4) fun M5 =>
 letv (wrM M5 (a0 + 3 + k1) 4 (0 : Int32)) fun M6 =>
 letv (wrM M6 (a0 + 3 + k1) 5 (0 : Int32)) fun M7 =>
 letv (wrM M7 a0 2 ((M7.1 a0 2) + (1 : Int32))) fun M8 =>
 some M8
set_option maxRecDepth 20000 in
theorem ctX2_add {z : Zt} {M : Me} {Q : Option Value → Me → Prop} (a0 : Nat) (a1 : Int32) (a2 : Int32) (a3 : Int32) (a4 : Int32) (ha0 : Is (wX, z) a0 2) (h : ok (fpX2_add a0 a1 a2 a3 a4 M) (fun a => Q none a)) : EvM (wX, z) mtX2_add 0 0 [.ref a0, .int a1, .int a2, .int a3, .int a4] M Q := by
  refine evm_of [some (.ref a0), some (.int a1), some (.int a2), some (.int a3), some (.int a4), none] 1 (by decide +kernel) (Nat.le_of_ble_eq_true rfl) rfl ?_
  unfold fpX2_add at h
  refine e_aload_n dX2_add_0 rfl ?_
  refine e_getR fa_RX2_11 ha0 rfl dX2_add_1 ?_
  refine e_aload_n dX2_add_4 rfl ?_
  refine e_getI fa_RX2_21 ha0 dX2_add_5 ?_
  refine ok_inb h (fun k1 ek1 ik1 h => ?_)
  refine e_aaldK (rd_pumps ha0) (r' := (a0 + 3 + k1)) (Or.inl rfl) ik1 ek1 (by omega) dX2_add_8 ?_
  refine e_astore dX2_add_9 (by decide) rfl ?_
  refine e_aload dX2_add_11 rfl ?_
  refine e_iload_n dX2_add_13 rfl ?_
  refine e_putI fw_RX2_75 (pm_is ha0 ik1 ek1) dX2_add_14 ?_
  refine lv1 (P := fun M2 => Ev (wX, z) mtX2_add 0 0 17 [some (.ref a0), some (.int a1), some (.int a2), some (.int a3), some (.int a4), some (.ref (a0 + 3 + k1))] [] M2 Q) h (fun M2 h => ?_)
  refine e_aload dX2_add_17 rfl ?_
  refine e_iload_n dX2_add_19 rfl ?_
  refine e_putI fw_RX2_78 (pm_is ha0 ik1 ek1) dX2_add_20 ?_
  refine lv1 (P := fun M3 => Ev (wX, z) mtX2_add 0 0 23 [some (.ref a0), some (.int a1), some (.int a2), some (.int a3), some (.int a4), some (.ref (a0 + 3 + k1))] [] M3 Q) h (fun M3 h => ?_)
  refine e_aload dX2_add_23 rfl ?_
  refine e_iload_n dX2_add_25 rfl ?_
  refine e_putI fw_RX2_81 (pm_is ha0 ik1 ek1) dX2_add_26 ?_
  refine lv1 (P := fun M4 => Ev (wX, z) mtX2_add 0 0 29 [some (.ref a0), some (.int a1), some (.int a2), some (.int a3), some (.int a4), some (.ref (a0 + 3 + k1))] [] M4 Q) h (fun M4 h => ?_)
  refine e_aload dX2_add_29 rfl ?_
  refine e_iload dX2_add_31 rfl ?_
  refine e_putI fw_RX2_84 (pm_is ha0 ik1 ek1) dX2_add_33 ?_
  refine lv1 (P := fun M5 => Ev (wX, z) mtX2_add 0 0 36 [some (.ref a0), some (.int a1), some (.int a2), some (.int a3), some (.int a4), some (.ref (a0 + 3 + k1))] [] M5 Q) h (fun M5 h => ?_)
  refine e_aload dX2_add_36 rfl ?_
  refine e_iconst (0 : Int32) dX2_add_38 (by decide) ?_
  refine e_putI fw_RX2_87 (pm_is ha0 ik1 ek1) dX2_add_39 ?_
  refine lv1 (P := fun M6 => Ev (wX, z) mtX2_add 0 0 42 [some (.ref a0), some (.int a1), some (.int a2), some (.int a3), some (.int a4), some (.ref (a0 + 3 + k1))] [] M6 Q) h (fun M6 h => ?_)
  refine e_aload dX2_add_42 rfl ?_
  refine e_iconst (0 : Int32) dX2_add_44 (by decide) ?_
  refine e_putZ fw_RX2_90 (pm_is ha0 ik1 ek1) (Or.inl rfl) dX2_add_45 ?_
  refine lv1 (P := fun M7 => Ev (wX, z) mtX2_add 0 0 48 [some (.ref a0), some (.int a1), some (.int a2), some (.int a3), some (.int a4), some (.ref (a0 + 3 + k1))] [] M7 Q) h (fun M7 h => ?_)
  refine e_aload_n dX2_add_48 rfl ?_
  refine e_dup dX2_add_49 rfl ?_
  refine e_getI fa_RX2_21 ha0 dX2_add_50 ?_
  refine e_iconst (1 : Int32) dX2_add_53 (by decide) ?_
  refine e_iadd dX2_add_54 ?_
  refine e_putI fw_RX2_21 ha0 dX2_add_55 ?_
  refine lv1 (P := fun M8 => Ev (wX, z) mtX2_add 0 0 58 [some (.ref a0), some (.int a1), some (.int a2), some (.int a3), some (.int a4), some (.ref (a0 + 3 + k1))] [] M8 Q) h (fun M8 h => ?_)
  have h := ok_some h
  exact e_vret rfl dX2_add_58 h
def fpX2_yieldOf (a0 : Nat) (a1 : Int32) (M : Me) : Option (Int32) := (inb a1 8).bind fun k1 =>
 some (fpX1_yieldsAt (a0 + 3 + k1) (M.1 a0 8) (M.1 a0 9) M)
set_option maxRecDepth 20000 in
theorem ctX2_yieldOf {z : Zt} {M : Me} {Q : Option Value → Me → Prop} (a0 : Nat) (a1 : Int32) (ha0 : Is (wX, z) a0 2) (h : ok (fpX2_yieldOf a0 a1 M) (fun a => Q (some (.int a)) M)) : EvM (wX, z) mtX2_yieldOf 2 44 [.ref a0, .int a1] M Q := by
  refine evm_of [some (.ref a0), some (.int a1)] 0 (by decide +kernel) (Nat.le_of_ble_eq_true rfl) rfl ?_
  unfold fpX2_yieldOf at h
  refine e_aload_n dX2_yieldOf_0 rfl ?_
  refine e_getR fa_RX2_11 ha0 rfl dX2_yieldOf_1 ?_
  refine e_iload_n dX2_yieldOf_4 rfl ?_
  refine ok_inb h (fun k1 ek1 ik1 h => ?_)
  refine e_aaldK (rd_pumps ha0) (r' := (a0 + 3 + k1)) (Or.inl rfl) ik1 ek1 (by omega) dX2_yieldOf_5 ?_
  refine e_aload_n dX2_yieldOf_6 rfl ?_
  refine e_getI fa_RX2_40 ha0 dX2_yieldOf_7 ?_
  refine e_aload_n dX2_yieldOf_10 rfl ?_
  refine e_getI fa_RX2_43 ha0 dX2_yieldOf_11 ?_
  refine e_callV (f2 := 1) (l2 := 21) (ν := mtX1_yieldsAt) (as := [.int (M.1 a0 8), .int (M.1 a0 9)]) cv_RX2_94 (pm_is ha0 ik1 ek1) kc_3 ⟨Nat.le_of_ble_eq_true rfl, Nat.le_of_ble_eq_true rfl⟩ rfl rfl (Nat.le_of_ble_eq_true rfl) dX2_yieldOf_14 ?_
  refine ctX1_yieldsAt (a0 + 3 + k1) (M.1 a0 8) (M.1 a0 9) (pm_is ha0 ik1 ek1) ?_
  show Ev (wX, z) mtX2_yieldOf 2 44 17 [some (.ref a0), some (.int a1)] [.int (fpX1_yieldsAt (a0 + 3 + k1) (M.1 a0 8) (M.1 a0 9) M)] M Q
  have h := ok_some h
  exact e_iret rfl dX2_yieldOf_17 h
def fpX2_needOf (a0 : Nat) (a1 : Int32) (M : Me) : Option (Int32) := (inb a1 8).bind fun k1 =>
 (fpX2_yieldOf a0 a1 M).bind fun v2 =>
 some (fpX1_needsFor (a0 + 3 + k1) v2 M)
set_option maxRecDepth 20000 in
theorem ctX2_needOf {z : Zt} {M : Me} {Q : Option Value → Me → Prop} (a0 : Nat) (a1 : Int32) (ha0 : Is (wX, z) a0 2) (h : ok (fpX2_needOf a0 a1 M) (fun a => Q (some (.int a)) M)) : EvM (wX, z) mtX2_needOf 3 65 [.ref a0, .int a1] M Q := by
  refine evm_of [some (.ref a0), some (.int a1)] 0 (by decide +kernel) (Nat.le_of_ble_eq_true rfl) rfl ?_
  unfold fpX2_needOf at h
  refine e_aload_n dX2_needOf_0 rfl ?_
  refine e_getR fa_RX2_11 ha0 rfl dX2_needOf_1 ?_
  refine e_iload_n dX2_needOf_4 rfl ?_
  refine ok_inb h (fun k1 ek1 ik1 h => ?_)
  refine e_aaldK (rd_pumps ha0) (r' := (a0 + 3 + k1)) (Or.inl rfl) ik1 ek1 (by omega) dX2_needOf_5 ?_
  refine e_aload_n dX2_needOf_6 rfl ?_
  refine e_iload_n dX2_needOf_7 rfl ?_
  refine e_callV (f2 := 2) (l2 := 44) (ν := mtX2_yieldOf) (as := [.int a1]) cv_RX2_97 ha0 kc_2 ⟨Nat.le_of_ble_eq_true rfl, Nat.le_of_ble_eq_true rfl⟩ rfl rfl (Nat.le_of_ble_eq_true rfl) dX2_needOf_8 ?_
  refine ctX2_yieldOf a0 a1 ha0 (ok_bnd h (fun v2 h => ?_))
  show Ev (wX, z) mtX2_needOf 3 65 11 [some (.ref a0), some (.int a1)] [.int v2, .ref (a0 + 3 + k1)] M Q
  refine e_callV (f2 := 0) (l2 := 0) (ν := mtX1_needsFor) (as := [.int v2]) cv_RX2_101 (pm_is ha0 ik1 ek1) kc_3 ⟨Nat.le_of_ble_eq_true rfl, Nat.le_of_ble_eq_true rfl⟩ rfl rfl (Nat.le_of_ble_eq_true rfl) dX2_needOf_11 ?_
  refine ctX1_needsFor (a0 + 3 + k1) v2 (pm_is ha0 ik1 ek1) ?_
  show Ev (wX, z) mtX2_needOf 3 65 14 [some (.ref a0), some (.int a1)] [.int (fpX1_needsFor (a0 + 3 + k1) v2 M)] M Q
  have h := ok_some h
  exact e_iret rfl dX2_needOf_14 h
def fpX2_canRun (a0 : Nat) (a1 : Int32) (M : Me) : Option (Int32) := (inb a1 8).bind fun k1 =>
 (if (M.1 (a0 + 3 + k1) 5) = 0 then
 (fpX2_yieldOf a0 a1 M).bind fun v3 =>
 (if v3 ≤ 0 then
 some (0 : Int32)
 else
 (fpX2_needOf a0 a1 M).bind fun v5 =>
 (if (M.1 a0 4) < v5 then
 some (0 : Int32)
 else
 some (1 : Int32)))
 else
 some (0 : Int32))
set_option maxRecDepth 20000 in
theorem ctX2_canRun {z : Zt} {M : Me} {Q : Option Value → Me → Prop} (a0 : Nat) (a1 : Int32) (ha0 : Is (wX, z) a0 2) (h : ok (fpX2_canRun a0 a1 M) (fun a => Q (some (.int a)) M)) : EvM (wX, z) mtX2_canRun 4 86 [.ref a0, .int a1] M Q := by
  refine evm_of [some (.ref a0), some (.int a1)] 0 (by decide +kernel) (Nat.le_of_ble_eq_true rfl) rfl ?_
  unfold fpX2_canRun at h
  refine e_aload_n dX2_canRun_0 rfl ?_
  refine e_getR fa_RX2_11 ha0 rfl dX2_canRun_1 ?_
  refine e_iload_n dX2_canRun_4 rfl ?_
  refine ok_inb h (fun k1 ek1 ik1 h => ?_)
  refine e_aaldK (rd_pumps ha0) (r' := (a0 + 3 + k1)) (Or.inl rfl) ik1 ek1 (by omega) dX2_canRun_5 ?_
  refine e_getI fa_RX2_90 (pm_is ha0 ik1 ek1) dX2_canRun_6 ?_
  refine e_if_ne 36 dX2_canRun_9 (by decide) (fun c2 => ?_) (fun c2 => ?_)
  · have h := ok_f c2 h
    refine e_iconst (0 : Int32) dX2_canRun_36 (by decide) ?_
    have h := ok_some h
    exact e_zret rfl (Or.inl rfl) dX2_canRun_37 h
  · have h := ok_t c2 h
    refine e_aload_n dX2_canRun_12 rfl ?_
    refine e_iload_n dX2_canRun_13 rfl ?_
    refine e_callV (f2 := 2) (l2 := 44) (ν := mtX2_yieldOf) (as := [.int a1]) cv_RX2_97 ha0 kc_2 ⟨Nat.le_of_ble_eq_true rfl, Nat.le_of_ble_eq_true rfl⟩ rfl rfl (Nat.le_of_ble_eq_true rfl) dX2_canRun_14 ?_
    refine ctX2_yieldOf a0 a1 ha0 (ok_bnd h (fun v3 h => ?_))
    show Ev (wX, z) mtX2_canRun 4 86 17 [some (.ref a0), some (.int a1)] [.int v3] M Q
    refine e_if_le 36 dX2_canRun_17 (by decide) (fun c4 => ?_) (fun c4 => ?_)
    · have h := ok_t c4 h
      refine e_iconst (0 : Int32) dX2_canRun_36 (by decide) ?_
      have h := ok_some h
      exact e_zret rfl (Or.inl rfl) dX2_canRun_37 h
    · have h := ok_f c4 h
      refine e_aload_n dX2_canRun_20 rfl ?_
      refine e_getI fa_RX2_28 ha0 dX2_canRun_21 ?_
      refine e_aload_n dX2_canRun_24 rfl ?_
      refine e_iload_n dX2_canRun_25 rfl ?_
      refine e_callV (f2 := 3) (l2 := 65) (ν := mtX2_needOf) (as := [.int a1]) cv_RX2_104 ha0 kc_2 ⟨Nat.le_of_ble_eq_true rfl, Nat.le_of_ble_eq_true rfl⟩ rfl rfl (Nat.le_of_ble_eq_true rfl) dX2_canRun_26 ?_
      refine ctX2_needOf a0 a1 ha0 (ok_bnd h (fun v5 h => ?_))
      show Ev (wX, z) mtX2_canRun 4 86 29 [some (.ref a0), some (.int a1)] [.int v5, .int (M.1 a0 4)] M Q
      refine e_icmp_lt 36 dX2_canRun_29 (by decide) (fun c6 => ?_) (fun c6 => ?_)
      · have h := ok_t c6 h
        refine e_iconst (0 : Int32) dX2_canRun_36 (by decide) ?_
        have h := ok_some h
        exact e_zret rfl (Or.inl rfl) dX2_canRun_37 h
      · have h := ok_f c6 h
        refine e_iconst (1 : Int32) dX2_canRun_32 (by decide) ?_
        refine e_goto 37 dX2_canRun_33 (by decide) ?_
        have h := ok_some h
        exact e_zret rfl (Or.inr rfl) dX2_canRun_37 h
def fpX2_draw (a0 : Nat) (M : Me) : Option (Int32 × Me) := letv (wrM M a0 13 (((M.1 a0 13) * (1103515245 : Int32)) + (12345 : Int32))) fun M1 =>
 some ((jushr (M1.1 a0 13) (8 : Int32)), M1)
set_option maxRecDepth 20000 in
theorem ctX2_draw {z : Zt} {M : Me} {Q : Option Value → Me → Prop} (a0 : Nat) (ha0 : Is (wX, z) a0 2) (h : ok (fpX2_draw a0 M) (fun a => Q (some (.int a.1)) a.2)) : EvM (wX, z) mtX2_draw 0 0 [.ref a0] M Q := by
  refine evm_of [some (.ref a0)] 0 (by decide +kernel) (Nat.le_of_ble_eq_true rfl) rfl ?_
  unfold fpX2_draw at h
  refine e_aload_n dX2_draw_0 rfl ?_
  refine e_aload_n dX2_draw_1 rfl ?_
  refine e_getI fa_RX2_55 ha0 dX2_draw_2 ?_
  refine e_ldc wk_RX2_107 dX2_draw_5 ?_
  refine e_imul dX2_draw_7 ?_
  refine e_sipush (12345 : Int32) dX2_draw_8 (by decide) ?_
  refine e_iadd dX2_draw_11 ?_
  refine e_putI fw_RX2_55 ha0 dX2_draw_12 ?_
  refine lv1 (P := fun M1 => Ev (wX, z) mtX2_draw 0 0 15 [some (.ref a0)] [] M1 Q) h (fun M1 h => ?_)
  refine e_aload_n dX2_draw_15 rfl ?_
  refine e_getI fa_RX2_55 ha0 dX2_draw_16 ?_
  refine e_bipush (8 : Int32) dX2_draw_19 (by decide) ?_
  refine e_iushr dX2_draw_21 ?_
  have h := ok_some h
  exact e_iret rfl dX2_draw_22 h
def fpX2_carryTo (a0 : Nat) (a1 : Int32) (M : Me) : Option (Me) := (fpX5_spiltBetween (M.1 a0 3) a1 (M.1 a0 7)).bind fun v1 =>
 letv (fpJ9_min_7cf53 (M.1 a0 4) v1) fun v2 =>
 letv (wrM M a0 4 ((M.1 a0 4) - v2)) fun M3 =>
 letv (wrM M3 a0 11 ((M3.1 a0 11) + v2)) fun M4 =>
 letv (wrM M4 a0 3 a1) fun M5 =>
 some M5
set_option maxRecDepth 20000 in
theorem ctX2_carryTo {z : Zt} {M : Me} {Q : Option Value → Me → Prop} (a0 : Nat) (a1 : Int32) (ha0 : Is (wX, z) a0 2) (h : ok (fpX2_carryTo a0 a1 M) (fun a => Q none a)) : EvM (wX, z) mtX2_carryTo 2 42 [.ref a0, .int a1] M Q := by
  refine evm_of [some (.ref a0), some (.int a1), none] 1 (by decide +kernel) (Nat.le_of_ble_eq_true rfl) rfl ?_
  unfold fpX2_carryTo at h
  refine e_aload_n dX2_carryTo_0 rfl ?_
  refine e_getI fa_RX2_28 ha0 dX2_carryTo_1 ?_
  refine e_aload_n dX2_carryTo_4 rfl ?_
  refine e_getI fa_RX2_25 ha0 dX2_carryTo_5 ?_
  refine e_iload_n dX2_carryTo_8 rfl ?_
  refine e_aload_n dX2_carryTo_9 rfl ?_
  refine e_getI fa_RX2_37 ha0 dX2_carryTo_10 ?_
  refine e_callN (f2 := 1) (l2 := 20) (ν := mtX5_spiltBetween) (as := [.int (M.1 a0 3), .int a1, .int (M.1 a0 7)]) cn_RX2_108 ⟨Nat.le_of_ble_eq_true rfl, Nat.le_of_ble_eq_true rfl⟩ rfl rfl (Nat.le_of_ble_eq_true rfl) dX2_carryTo_13 ?_
  refine ctX5_spiltBetween (M.1 a0 3) a1 (M.1 a0 7) (ok_bnd h (fun v1 h => ?_))
  show Ev (wX, z) mtX2_carryTo 2 42 16 [some (.ref a0), some (.int a1), none] [.int v1, .int (M.1 a0 4)] M Q
  refine e_callS (f2 := 0) (l2 := 0) (ν := mtJ9_min_7cf53) (as := [.int (M.1 a0 4), .int v1]) cs_RX2_112 ⟨Nat.le_of_ble_eq_true rfl, Nat.le_of_ble_eq_true rfl⟩ rfl rfl (Nat.le_of_ble_eq_true rfl) dX2_carryTo_16 ?_
  refine ctJ9_min_7cf53 (M.1 a0 4) v1 ?_
  show Ev (wX, z) mtX2_carryTo 2 42 19 [some (.ref a0), some (.int a1), none] [.int (fpJ9_min_7cf53 (M.1 a0 4) v1)] M Q
  refine lv1 (P := fun v2 => Ev (wX, z) mtX2_carryTo 2 42 19 [some (.ref a0), some (.int a1), none] [.int v2] M Q) h (fun v2 h => ?_)
  refine e_istore_n dX2_carryTo_19 (by decide) rfl ?_
  refine e_aload_n dX2_carryTo_20 rfl ?_
  refine e_dup dX2_carryTo_21 rfl ?_
  refine e_getI fa_RX2_28 ha0 dX2_carryTo_22 ?_
  refine e_iload_n dX2_carryTo_25 rfl ?_
  refine e_isub dX2_carryTo_26 ?_
  refine e_putI fw_RX2_28 ha0 dX2_carryTo_27 ?_
  refine lv1 (P := fun M3 => Ev (wX, z) mtX2_carryTo 2 42 30 [some (.ref a0), some (.int a1), some (.int v2)] [] M3 Q) h (fun M3 h => ?_)
  refine e_aload_n dX2_carryTo_30 rfl ?_
  refine e_dup dX2_carryTo_31 rfl ?_
  refine e_getI fa_RX2_49 ha0 dX2_carryTo_32 ?_
  refine e_iload_n dX2_carryTo_35 rfl ?_
  refine e_iadd dX2_carryTo_36 ?_
  refine e_putI fw_RX2_49 ha0 dX2_carryTo_37 ?_
  refine lv1 (P := fun M4 => Ev (wX, z) mtX2_carryTo 2 42 40 [some (.ref a0), some (.int a1), some (.int v2)] [] M4 Q) h (fun M4 h => ?_)
  refine e_aload_n dX2_carryTo_40 rfl ?_
  refine e_iload_n dX2_carryTo_41 rfl ?_
  refine e_putI fw_RX2_25 ha0 dX2_carryTo_42 ?_
  refine lv1 (P := fun M5 => Ev (wX, z) mtX2_carryTo 2 42 45 [some (.ref a0), some (.int a1), some (.int v2)] [] M5 Q) h (fun M5 h => ?_)
  have h := ok_some h
  exact e_vret rfl dX2_carryTo_45 h
def XX2_beginDay_17 (z : Zt) (a0 : Nat) (Q : Option Value → Me → Prop) : (Me) → Prop := fun t => Ev (wX, z) mtX2_beginDay 0 0 41 [none, none, none] [] t Q
def EX2_beginDay_17 (z : Zt) (a0 : Nat) (Q : Option Value → Me → Prop) : (Int32 × Me) → Prop := fun s => Ev (wX, z) mtX2_beginDay 0 0 17 [some (.ref a0), none, some (.int s.1)] [] s.2 Q
def GX2_beginDay_17 (z : Zt) (a0 : Nat) (Q : Option Value → Me → Prop) : (Int32 × Me) ⊕ (Me) → Prop := Sum.elim (EX2_beginDay_17 z a0 Q) (XX2_beginDay_17 z a0 Q)
def fpX2_beginDay_l17s (a0 : Nat) (a2 : Int32) (M : Me) : Option ((Int32 × Me) ⊕ (Me)) := (if (M.1 a0 2) ≤ a2 then
 some (.inr M)
 else
 (inb a2 8).bind fun k4 =>
 letv (wrM M (a0 + 3 + k4) 5 (0 : Int32)) fun M5 =>
 letv (a2 + (1 : Int32)) fun v6 =>
 some (.inl (v6, M5)))
def fpX2_beginDay_l17 (a0 : Nat) (s : Int32 × Me) : Option ((Int32 × Me) ⊕ (Me)) := fpX2_beginDay_l17s a0 s.1 s.2
set_option maxRecDepth 20000 in
theorem ebX2_beginDay_l17s {z : Zt} {Q : Option Value → Me → Prop} (a0 : Nat) (ha0 : Is (wX, z) a0 2) (a2 : Int32) (M : Me) (h : ok (fpX2_beginDay_l17s a0 a2 M) (GX2_beginDay_17 z a0 Q)) : Ev (wX, z) mtX2_beginDay 0 0 17 [some (.ref a0), none, some (.int a2)] [] M Q := by
  unfold fpX2_beginDay_l17s at h
  refine e_iload_n dX2_beginDay_17 rfl ?_
  refine e_aload_n dX2_beginDay_18 rfl ?_
  refine e_getI fa_RX2_21 ha0 dX2_beginDay_19 ?_
  refine e_icmp_ge 41 dX2_beginDay_22 (by decide) (fun c3 => ?_) (fun c3 => ?_)
  · have h := ok_t c3 h
    refine e_forget [none, none, none] (leL_n (leL_n (leL_n leL_0))) ?_
    have h := ok_some h
    exact h
  · have h := ok_f c3 h
    refine e_aload_n dX2_beginDay_25 rfl ?_
    refine e_getR fa_RX2_11 ha0 rfl dX2_beginDay_26 ?_
    refine e_iload_n dX2_beginDay_29 rfl ?_
    refine ok_inb h (fun k4 ek4 ik4 h => ?_)
    refine e_aaldK (rd_pumps ha0) (r' := (a0 + 3 + k4)) (Or.inl rfl) ik4 ek4 (by omega) dX2_beginDay_30 ?_
    refine e_iconst (0 : Int32) dX2_beginDay_31 (by decide) ?_
    refine e_putZ fw_RX2_90 (pm_is ha0 ik4 ek4) (Or.inl rfl) dX2_beginDay_32 ?_
    refine lv1 (P := fun M5 => Ev (wX, z) mtX2_beginDay 0 0 35 [some (.ref a0), none, some (.int a2)] [] M5 Q) h (fun M5 h => ?_)
    refine lv1e h (fun v6 ev6 h => ?_)
    refine e_iinc v6 dX2_beginDay_35 rfl ev6 (by decide) rfl ?_
    refine e_goto 17 dX2_beginDay_38 (by decide) ?_
    refine e_forget [some (.ref a0), none, some (.int v6)] (leL_s (leL_n (leL_s leL_0))) ?_
    have h := ok_some h
    exact h
theorem elX2_beginDay_l17 {z : Zt} {Q : Option Value → Me → Prop} (a0 : Nat) (ha0 : Is (wX, z) a0 2) (N : Nat) (s : Int32 × Me) (h : ok (lp (fpX2_beginDay_l17 a0) N s) (XX2_beginDay_17 z a0 Q)) : EX2_beginDay_17 z a0 Q s :=
  lp_ind (fun s h => ebX2_beginDay_l17s a0 ha0 s.1 s.2 h) N s h
def fpX2_beginDay (a0 : Nat) (a1 : Int32) (M : Me) : Option (Me) := letv (wrM M a0 10 ((M.1 a0 10) + (1 : Int32))) fun M1 =>
 letv (wrM M1 a0 9 a1) fun M2 =>
 (lp (fpX2_beginDay_l17 a0) FU ((0 : Int32), M2)).bind fun r7 =>
 some r7
set_option maxRecDepth 20000 in
theorem ctX2_beginDay {z : Zt} {M : Me} {Q : Option Value → Me → Prop} (a0 : Nat) (a1 : Int32) (ha0 : Is (wX, z) a0 2) (h : ok (fpX2_beginDay a0 a1 M) (fun a => Q none a)) : EvM (wX, z) mtX2_beginDay 0 0 [.ref a0, .int a1] M Q := by
  refine evm_of [some (.ref a0), some (.int a1), none] 1 (by decide +kernel) (Nat.le_of_ble_eq_true rfl) rfl ?_
  unfold fpX2_beginDay at h
  refine e_aload_n dX2_beginDay_0 rfl ?_
  refine e_dup dX2_beginDay_1 rfl ?_
  refine e_getI fa_RX2_46 ha0 dX2_beginDay_2 ?_
  refine e_iconst (1 : Int32) dX2_beginDay_5 (by decide) ?_
  refine e_iadd dX2_beginDay_6 ?_
  refine e_putI fw_RX2_46 ha0 dX2_beginDay_7 ?_
  refine lv1 (P := fun M1 => Ev (wX, z) mtX2_beginDay 0 0 10 [some (.ref a0), some (.int a1), none] [] M1 Q) h (fun M1 h => ?_)
  refine e_aload_n dX2_beginDay_10 rfl ?_
  refine e_iload_n dX2_beginDay_11 rfl ?_
  refine e_putI fw_RX2_43 ha0 dX2_beginDay_12 ?_
  refine lv1 (P := fun M2 => Ev (wX, z) mtX2_beginDay 0 0 15 [some (.ref a0), some (.int a1), none] [] M2 Q) h (fun M2 h => ?_)
  refine e_iconst (0 : Int32) dX2_beginDay_15 (by decide) ?_
  refine e_istore_n dX2_beginDay_16 (by decide) rfl ?_
  refine e_forget [some (.ref a0), none, some (.int (0 : Int32))] (leL_s (leL_n (leL_s leL_0))) ?_
  refine elX2_beginDay_l17 a0 ha0 FU ((0 : Int32), M2) (ok_bnd h (fun r7 h => ?_))
  show Ev (wX, z) mtX2_beginDay 0 0 41 [none, none, none] [] r7 Q
  have h := ok_some h
  exact e_vret rfl dX2_beginDay_41 h
def fpX2_tryPump_b49 (a0 : Nat) (a2 : Nat) (a3 : Int32) (M : Me) : Option (Me) := letv (fpJ9_max_7cf53 (0 : Int32) (((M.1 a0 4) + a3) - (M.1 a0 6))) fun v6 =>
 letv (wrM M a0 4 ((M.1 a0 4) + (a3 - v6))) fun M7 =>
 letv (wrM M7 a0 12 ((M7.1 a0 12) + v6)) fun M8 =>
 letv (wrM M8 a2 4 ((M8.1 a2 4) + (1 : Int32))) fun M9 =>
 letv (wrM M9 a2 5 (1 : Int32)) fun M10 =>
 some M10
set_option maxRecDepth 20000 in
theorem ebX2_tryPump_b49 {z : Zt} {Q : Option Value → Me → Prop} (a0 : Nat) (a2 : Nat) (a3 : Int32) (ha0 : Is (wX, z) a0 2) (ha2 : Is (wX, z) a2 3) (M : Me) (h : ok (fpX2_tryPump_b49 a0 a2 a3 M) (fun a => Q none a)) : Ev (wX, z) mtX2_tryPump 4 86 49 [some (.ref a0), none, some (.ref a2), some (.int a3), none] [] M Q := by
  unfold fpX2_tryPump_b49 at h
  refine e_iconst (0 : Int32) dX2_tryPump_49 (by decide) ?_
  refine e_aload_n dX2_tryPump_50 rfl ?_
  refine e_getI fa_RX2_28 ha0 dX2_tryPump_51 ?_
  refine e_iload_n dX2_tryPump_54 rfl ?_
  refine e_iadd dX2_tryPump_55 ?_
  refine e_aload_n dX2_tryPump_56 rfl ?_
  refine e_getI fa_RX2_34 ha0 dX2_tryPump_57 ?_
  refine e_isub dX2_tryPump_60 ?_
  refine e_callS (f2 := 0) (l2 := 0) (ν := mtJ9_max_7cf53) (as := [.int (0 : Int32), .int (((M.1 a0 4) + a3) - (M.1 a0 6))]) cs_RX2_69 ⟨Nat.le_of_ble_eq_true rfl, Nat.le_of_ble_eq_true rfl⟩ rfl rfl (Nat.le_of_ble_eq_true rfl) dX2_tryPump_61 ?_
  refine ctJ9_max_7cf53 (0 : Int32) (((M.1 a0 4) + a3) - (M.1 a0 6)) ?_
  show Ev (wX, z) mtX2_tryPump 4 86 64 [some (.ref a0), none, some (.ref a2), some (.int a3), none] [.int (fpJ9_max_7cf53 (0 : Int32) (((M.1 a0 4) + a3) - (M.1 a0 6)))] M Q
  refine lv1 (P := fun v6 => Ev (wX, z) mtX2_tryPump 4 86 64 [some (.ref a0), none, some (.ref a2), some (.int a3), none] [.int v6] M Q) h (fun v6 h => ?_)
  refine e_istore dX2_tryPump_64 (by decide) rfl ?_
  refine e_aload_n dX2_tryPump_66 rfl ?_
  refine e_dup dX2_tryPump_67 rfl ?_
  refine e_getI fa_RX2_28 ha0 dX2_tryPump_68 ?_
  refine e_iload_n dX2_tryPump_71 rfl ?_
  refine e_iload dX2_tryPump_72 rfl ?_
  refine e_isub dX2_tryPump_74 ?_
  refine e_iadd dX2_tryPump_75 ?_
  refine e_putI fw_RX2_28 ha0 dX2_tryPump_76 ?_
  refine lv1 (P := fun M7 => Ev (wX, z) mtX2_tryPump 4 86 79 [some (.ref a0), none, some (.ref a2), some (.int a3), some (.int v6)] [] M7 Q) h (fun M7 h => ?_)
  refine e_aload_n dX2_tryPump_79 rfl ?_
  refine e_dup dX2_tryPump_80 rfl ?_
  refine e_getI fa_RX2_52 ha0 dX2_tryPump_81 ?_
  refine e_iload dX2_tryPump_84 rfl ?_
  refine e_iadd dX2_tryPump_86 ?_
  refine e_putI fw_RX2_52 ha0 dX2_tryPump_87 ?_
  refine lv1 (P := fun M8 => Ev (wX, z) mtX2_tryPump 4 86 90 [some (.ref a0), none, some (.ref a2), some (.int a3), some (.int v6)] [] M8 Q) h (fun M8 h => ?_)
  refine e_aload_n dX2_tryPump_90 rfl ?_
  refine e_dup dX2_tryPump_91 rfl ?_
  refine e_getI fa_RX2_87 ha2 dX2_tryPump_92 ?_
  refine e_iconst (1 : Int32) dX2_tryPump_95 (by decide) ?_
  refine e_iadd dX2_tryPump_96 ?_
  refine e_putI fw_RX2_87 ha2 dX2_tryPump_97 ?_
  refine lv1 (P := fun M9 => Ev (wX, z) mtX2_tryPump 4 86 100 [some (.ref a0), none, some (.ref a2), some (.int a3), some (.int v6)] [] M9 Q) h (fun M9 h => ?_)
  refine e_aload_n dX2_tryPump_100 rfl ?_
  refine e_iconst (1 : Int32) dX2_tryPump_101 (by decide) ?_
  refine e_putZ fw_RX2_90 ha2 (Or.inr rfl) dX2_tryPump_102 ?_
  refine lv1 (P := fun M10 => Ev (wX, z) mtX2_tryPump 4 86 105 [some (.ref a0), none, some (.ref a2), some (.int a3), some (.int v6)] [] M10 Q) h (fun M10 h => ?_)
  have h := ok_some h
  exact e_vret rfl dX2_tryPump_105 h
def fpX2_tryPump (a0 : Nat) (a1 : Int32) (M : Me) : Option (Me) := (inb a1 8).bind fun k1 =>
 (fpX2_yieldOf a0 a1 M).bind fun v2 =>
 (fpX2_needOf a0 a1 M).bind fun v3 =>
 letv (wrM M a0 4 ((M.1 a0 4) - v3)) fun M4 =>
 (if (M4.1 (a0 + 3 + k1) 3) ≤ 0 then
 fpX2_tryPump_b49 a0 (a0 + 3 + k1) v2 M4
 else
 (fpX2_draw a0 M4).bind fun q11 =>
 (if (q11.2.1 (a0 + 3 + k1) 3) ≤ (jrem q11.1 (12 : Int32)) then
 fpX2_tryPump_b49 a0 (a0 + 3 + k1) v2 q11.2
 else
 some q11.2))
set_option maxRecDepth 20000 in
theorem ctX2_tryPump {z : Zt} {M : Me} {Q : Option Value → Me → Prop} (a0 : Nat) (a1 : Int32) (ha0 : Is (wX, z) a0 2) (h : ok (fpX2_tryPump a0 a1 M) (fun a => Q none a)) : EvM (wX, z) mtX2_tryPump 4 86 [.ref a0, .int a1] M Q := by
  refine evm_of [some (.ref a0), some (.int a1), none, none, none] 3 (by decide +kernel) (Nat.le_of_ble_eq_true rfl) rfl ?_
  unfold fpX2_tryPump at h
  refine e_aload_n dX2_tryPump_0 rfl ?_
  refine e_getR fa_RX2_11 ha0 rfl dX2_tryPump_1 ?_
  refine e_iload_n dX2_tryPump_4 rfl ?_
  refine ok_inb h (fun k1 ek1 ik1 h => ?_)
  refine e_aaldK (rd_pumps ha0) (r' := (a0 + 3 + k1)) (Or.inl rfl) ik1 ek1 (by omega) dX2_tryPump_5 ?_
  refine e_astore_n dX2_tryPump_6 (by decide) rfl ?_
  refine e_aload_n dX2_tryPump_7 rfl ?_
  refine e_iload_n dX2_tryPump_8 rfl ?_
  refine e_callV (f2 := 2) (l2 := 44) (ν := mtX2_yieldOf) (as := [.int a1]) cv_RX2_97 ha0 kc_2 ⟨Nat.le_of_ble_eq_true rfl, Nat.le_of_ble_eq_true rfl⟩ rfl rfl (Nat.le_of_ble_eq_true rfl) dX2_tryPump_9 ?_
  refine ctX2_yieldOf a0 a1 ha0 (ok_bnd h (fun v2 h => ?_))
  show Ev (wX, z) mtX2_tryPump 4 86 12 [some (.ref a0), some (.int a1), some (.ref (a0 + 3 + k1)), none, none] [.int v2] M Q
  refine e_istore_n dX2_tryPump_12 (by decide) rfl ?_
  refine e_aload_n dX2_tryPump_13 rfl ?_
  refine e_dup dX2_tryPump_14 rfl ?_
  refine e_getI fa_RX2_28 ha0 dX2_tryPump_15 ?_
  refine e_aload_n dX2_tryPump_18 rfl ?_
  refine e_iload_n dX2_tryPump_19 rfl ?_
  refine e_callV (f2 := 3) (l2 := 65) (ν := mtX2_needOf) (as := [.int a1]) cv_RX2_104 ha0 kc_2 ⟨Nat.le_of_ble_eq_true rfl, Nat.le_of_ble_eq_true rfl⟩ rfl rfl (Nat.le_of_ble_eq_true rfl) dX2_tryPump_20 ?_
  refine ctX2_needOf a0 a1 ha0 (ok_bnd h (fun v3 h => ?_))
  show Ev (wX, z) mtX2_tryPump 4 86 23 [some (.ref a0), some (.int a1), some (.ref (a0 + 3 + k1)), some (.int v2), none] [.int v3, .int (M.1 a0 4), .ref a0] M Q
  refine e_isub dX2_tryPump_23 ?_
  refine e_putI fw_RX2_28 ha0 dX2_tryPump_24 ?_
  refine lv1 (P := fun M4 => Ev (wX, z) mtX2_tryPump 4 86 27 [some (.ref a0), some (.int a1), some (.ref (a0 + 3 + k1)), some (.int v2), none] [] M4 Q) h (fun M4 h => ?_)
  refine e_aload_n dX2_tryPump_27 rfl ?_
  refine e_getI fa_RX2_84 (pm_is ha0 ik1 ek1) dX2_tryPump_28 ?_
  refine e_if_le 49 dX2_tryPump_31 (by decide) (fun c5 => ?_) (fun c5 => ?_)
  · have h := ok_t c5 h
    refine e_forget [some (.ref a0), none, some (.ref (a0 + 3 + k1)), some (.int v2), none] (leL_s (leL_n (leL_s (leL_s (leL_n leL_0))))) ?_
    exact ebX2_tryPump_b49 a0 (a0 + 3 + k1) v2 ha0 (pm_is ha0 ik1 ek1) M4 h
  · have h := ok_f c5 h
    refine e_aload_n dX2_tryPump_34 rfl ?_
    refine e_callV (f2 := 0) (l2 := 0) (ν := mtX2_draw) (as := []) cv_RX2_115 ha0 kc_2 ⟨Nat.le_of_ble_eq_true rfl, Nat.le_of_ble_eq_true rfl⟩ rfl rfl (Nat.le_of_ble_eq_true rfl) dX2_tryPump_35 ?_
    refine ctX2_draw a0 ha0 (ok_bnd h (fun q11 h => ?_))
    show Ev (wX, z) mtX2_tryPump 4 86 38 [some (.ref a0), some (.int a1), some (.ref (a0 + 3 + k1)), some (.int v2), none] [.int q11.1] q11.2 Q
    refine e_bipush (12 : Int32) dX2_tryPump_38 (by decide) ?_
    refine e_irem dX2_tryPump_40 (by decide) ?_
    refine e_aload_n dX2_tryPump_41 rfl ?_
    refine e_getI fa_RX2_84 (pm_is ha0 ik1 ek1) dX2_tryPump_42 ?_
    refine e_icmp_ge 49 dX2_tryPump_45 (by decide) (fun c12 => ?_) (fun c12 => ?_)
    · have h := ok_t c12 h
      refine e_forget [some (.ref a0), none, some (.ref (a0 + 3 + k1)), some (.int v2), none] (leL_s (leL_n (leL_s (leL_s (leL_n leL_0))))) ?_
      exact ebX2_tryPump_b49 a0 (a0 + 3 + k1) v2 ha0 (pm_is ha0 ik1 ek1) q11.2 h
    · have h := ok_f c12 h
      have h := ok_some h
      exact e_vret rfl dX2_tryPump_48 h
def XX2_sumOf_4 (z : Zt) (a0 : Nat) (a1 : Int32) (M : Me) (Q : Option Value → Me → Prop) : (Int32) → Prop := fun t => Ev (wX, z) mtX2_sumOf 4 86 103 [none, none, some (.int t), none] [] M Q
def EX2_sumOf_4 (z : Zt) (a0 : Nat) (a1 : Int32) (M : Me) (Q : Option Value → Me → Prop) : (Int32 × Int32) → Prop := fun s => Ev (wX, z) mtX2_sumOf 4 86 4 [some (.ref a0), some (.int a1), some (.int s.1), some (.int s.2)] [] M Q
def GX2_sumOf_4 (z : Zt) (a0 : Nat) (a1 : Int32) (M : Me) (Q : Option Value → Me → Prop) : (Int32 × Int32) ⊕ (Int32) → Prop := Sum.elim (EX2_sumOf_4 z a0 a1 M Q) (XX2_sumOf_4 z a0 a1 M Q)
def fpX2_sumOf_l4s (a0 : Nat) (a1 : Int32) (a2 : Int32) (a3 : Int32) (M : Me) : Option ((Int32 × Int32) ⊕ (Int32)) := (if (M.1 a0 2) ≤ a3 then
 some (.inr a2)
 else
 (if a1 = (1 : Int32) then
 (inb a3 8).bind fun k3 =>
 (if (M.1 (a0 + 3 + k3) 5) = 0 then
 letv (a2 + (0 : Int32)) fun v5 =>
 letv (a3 + (1 : Int32)) fun v6 =>
 some (.inl (v5, v6))
 else
 letv (a2 + (1 : Int32)) fun v7 =>
 letv (a3 + (1 : Int32)) fun v8 =>
 some (.inl (v7, v8)))
 else
 (if a1 = (2 : Int32) then
 (inb a3 8).bind fun k10 =>
 letv (a2 + (M.1 (a0 + 3 + k10) 4)) fun v11 =>
 letv (a3 + (1 : Int32)) fun v12 =>
 some (.inl (v11, v12))
 else
 (if a1 = (3 : Int32) then
 (fpX2_yieldOf a0 a3 M).bind fun v14 =>
 letv (a2 + v14) fun v15 =>
 letv (a3 + (1 : Int32)) fun v16 =>
 some (.inl (v15, v16))
 else
 (fpX2_needOf a0 a3 M).bind fun v17 =>
 letv (a2 + v17) fun v18 =>
 letv (a3 + (1 : Int32)) fun v19 =>
 some (.inl (v18, v19))))))
def fpX2_sumOf_l4 (a0 : Nat) (a1 : Int32) (M : Me) (s : Int32 × Int32) : Option ((Int32 × Int32) ⊕ (Int32)) := fpX2_sumOf_l4s a0 a1 s.1 s.2 M
set_option maxRecDepth 20000 in
theorem ebX2_sumOf_l4s {z : Zt} {Q : Option Value → Me → Prop} (a0 : Nat) (a1 : Int32) (ha0 : Is (wX, z) a0 2) (a2 : Int32) (a3 : Int32) (M : Me) (h : ok (fpX2_sumOf_l4s a0 a1 a2 a3 M) (GX2_sumOf_4 z a0 a1 M Q)) : Ev (wX, z) mtX2_sumOf 4 86 4 [some (.ref a0), some (.int a1), some (.int a2), some (.int a3)] [] M Q := by
  unfold fpX2_sumOf_l4s at h
  refine e_iload_n dX2_sumOf_4 rfl ?_
  refine e_aload_n dX2_sumOf_5 rfl ?_
  refine e_getI fa_RX2_21 ha0 dX2_sumOf_6 ?_
  refine e_icmp_ge 103 dX2_sumOf_9 (by decide) (fun c1 => ?_) (fun c1 => ?_)
  · have h := ok_t c1 h
    refine e_forget [none, none, some (.int a2), none] (leL_n (leL_n (leL_s (leL_n leL_0)))) ?_
    have h := ok_some h
    exact h
  · have h := ok_f c1 h
    refine e_iload_n dX2_sumOf_12 rfl ?_
    by_cases c2 : a1 = (1 : Int32)
    · refine e_tswC (1 : Int32) 40 c2 dX2_sumOf_13 (by decide) (by decide) rfl (by decide) ?_
      have h := ok_t c2 h
      refine e_iload_n dX2_sumOf_40 rfl ?_
      refine e_aload_n dX2_sumOf_41 rfl ?_
      refine e_getR fa_RX2_11 ha0 rfl dX2_sumOf_42 ?_
      refine e_iload_n dX2_sumOf_45 rfl ?_
      refine ok_inb h (fun k3 ek3 ik3 h => ?_)
      refine e_aaldK (rd_pumps ha0) (r' := (a0 + 3 + k3)) (Or.inl rfl) ik3 ek3 (by omega) dX2_sumOf_46 ?_
      refine e_getI fa_RX2_90 (pm_is ha0 ik3 ek3) dX2_sumOf_47 ?_
      refine e_if_eq 57 dX2_sumOf_50 (by decide) (fun c4 => ?_) (fun c4 => ?_)
      · have h := ok_t c4 h
        refine e_iconst (0 : Int32) dX2_sumOf_57 (by decide) ?_
        refine e_iadd dX2_sumOf_58 ?_
        refine lv1 (P := fun v5 => Ev (wX, z) mtX2_sumOf 4 86 59 [some (.ref a0), some (.int a1), some (.int a2), some (.int a3)] [.int v5] M Q) h (fun v5 h => ?_)
        refine e_istore_n dX2_sumOf_59 (by decide) rfl ?_
        refine e_goto 97 dX2_sumOf_60 (by decide) ?_
        refine lv1e h (fun v6 ev6 h => ?_)
        refine e_iinc v6 dX2_sumOf_97 rfl ev6 (by decide) rfl ?_
        refine e_goto 4 dX2_sumOf_100 (by decide) ?_
        refine e_forget [some (.ref a0), some (.int a1), some (.int v5), some (.int v6)] (leL_s (leL_s (leL_s (leL_s leL_0)))) ?_
        have h := ok_some h
        exact h
      · have h := ok_f c4 h
        refine e_iconst (1 : Int32) dX2_sumOf_53 (by decide) ?_
        refine e_goto 58 dX2_sumOf_54 (by decide) ?_
        refine e_iadd dX2_sumOf_58 ?_
        refine lv1 (P := fun v7 => Ev (wX, z) mtX2_sumOf 4 86 59 [some (.ref a0), some (.int a1), some (.int a2), some (.int a3)] [.int v7] M Q) h (fun v7 h => ?_)
        refine e_istore_n dX2_sumOf_59 (by decide) rfl ?_
        refine e_goto 97 dX2_sumOf_60 (by decide) ?_
        refine lv1e h (fun v8 ev8 h => ?_)
        refine e_iinc v8 dX2_sumOf_97 rfl ev8 (by decide) rfl ?_
        refine e_goto 4 dX2_sumOf_100 (by decide) ?_
        refine e_forget [some (.ref a0), some (.int a1), some (.int v7), some (.int v8)] (leL_s (leL_s (leL_s (leL_s leL_0)))) ?_
        have h := ok_some h
        exact h
    · have h := ok_f c2 h
      by_cases c9 : a1 = (2 : Int32)
      · refine e_tswC (2 : Int32) 63 c9 dX2_sumOf_13 (by decide) (by decide) rfl (by decide) ?_
        have h := ok_t c9 h
        refine e_iload_n dX2_sumOf_63 rfl ?_
        refine e_aload_n dX2_sumOf_64 rfl ?_
        refine e_getR fa_RX2_11 ha0 rfl dX2_sumOf_65 ?_
        refine e_iload_n dX2_sumOf_68 rfl ?_
        refine ok_inb h (fun k10 ek10 ik10 h => ?_)
        refine e_aaldK (rd_pumps ha0) (r' := (a0 + 3 + k10)) (Or.inl rfl) ik10 ek10 (by omega) dX2_sumOf_69 ?_
        refine e_getI fa_RX2_87 (pm_is ha0 ik10 ek10) dX2_sumOf_70 ?_
        refine e_iadd dX2_sumOf_73 ?_
        refine lv1 (P := fun v11 => Ev (wX, z) mtX2_sumOf 4 86 74 [some (.ref a0), some (.int a1), some (.int a2), some (.int a3)] [.int v11] M Q) h (fun v11 h => ?_)
        refine e_istore_n dX2_sumOf_74 (by decide) rfl ?_
        refine e_goto 97 dX2_sumOf_75 (by decide) ?_
        refine lv1e h (fun v12 ev12 h => ?_)
        refine e_iinc v12 dX2_sumOf_97 rfl ev12 (by decide) rfl ?_
        refine e_goto 4 dX2_sumOf_100 (by decide) ?_
        refine e_forget [some (.ref a0), some (.int a1), some (.int v11), some (.int v12)] (leL_s (leL_s (leL_s (leL_s leL_0)))) ?_
        have h := ok_some h
        exact h
      · have h := ok_f c9 h
        by_cases c13 : a1 = (3 : Int32)
        · refine e_tswC (3 : Int32) 78 c13 dX2_sumOf_13 (by decide) (by decide) rfl (by decide) ?_
          have h := ok_t c13 h
          refine e_iload_n dX2_sumOf_78 rfl ?_
          refine e_aload_n dX2_sumOf_79 rfl ?_
          refine e_iload_n dX2_sumOf_80 rfl ?_
          refine e_callV (f2 := 2) (l2 := 44) (ν := mtX2_yieldOf) (as := [.int a3]) cv_RX2_97 ha0 kc_2 ⟨Nat.le_of_ble_eq_true rfl, Nat.le_of_ble_eq_true rfl⟩ rfl rfl (Nat.le_of_ble_eq_true rfl) dX2_sumOf_81 ?_
          refine ctX2_yieldOf a0 a3 ha0 (ok_bnd h (fun v14 h => ?_))
          show Ev (wX, z) mtX2_sumOf 4 86 84 [some (.ref a0), some (.int a1), some (.int a2), some (.int a3)] [.int v14, .int a2] M Q
          refine e_iadd dX2_sumOf_84 ?_
          refine lv1 (P := fun v15 => Ev (wX, z) mtX2_sumOf 4 86 85 [some (.ref a0), some (.int a1), some (.int a2), some (.int a3)] [.int v15] M Q) h (fun v15 h => ?_)
          refine e_istore_n dX2_sumOf_85 (by decide) rfl ?_
          refine e_goto 97 dX2_sumOf_86 (by decide) ?_
          refine lv1e h (fun v16 ev16 h => ?_)
          refine e_iinc v16 dX2_sumOf_97 rfl ev16 (by decide) rfl ?_
          refine e_goto 4 dX2_sumOf_100 (by decide) ?_
          refine e_forget [some (.ref a0), some (.int a1), some (.int v15), some (.int v16)] (leL_s (leL_s (leL_s (leL_s leL_0)))) ?_
          have h := ok_some h
          exact h
        · have h := ok_f c13 h
          refine e_tswD 89 dX2_sumOf_13 (by have q0 := lv_neT (a := 1) c2 rfl; have q1 := lv_neT (a := 2) c9 rfl; have q2 := lv_neT (a := 3) c13 rfl; omega) (by decide) ?_
          refine e_iload_n dX2_sumOf_89 rfl ?_
          refine e_aload_n dX2_sumOf_90 rfl ?_
          refine e_iload_n dX2_sumOf_91 rfl ?_
          refine e_callV (f2 := 3) (l2 := 65) (ν := mtX2_needOf) (as := [.int a3]) cv_RX2_104 ha0 kc_2 ⟨Nat.le_of_ble_eq_true rfl, Nat.le_of_ble_eq_true rfl⟩ rfl rfl (Nat.le_of_ble_eq_true rfl) dX2_sumOf_92 ?_
          refine ctX2_needOf a0 a3 ha0 (ok_bnd h (fun v17 h => ?_))
          show Ev (wX, z) mtX2_sumOf 4 86 95 [some (.ref a0), some (.int a1), some (.int a2), some (.int a3)] [.int v17, .int a2] M Q
          refine e_iadd dX2_sumOf_95 ?_
          refine lv1 (P := fun v18 => Ev (wX, z) mtX2_sumOf 4 86 96 [some (.ref a0), some (.int a1), some (.int a2), some (.int a3)] [.int v18] M Q) h (fun v18 h => ?_)
          refine e_istore_n dX2_sumOf_96 (by decide) rfl ?_
          refine lv1e h (fun v19 ev19 h => ?_)
          refine e_iinc v19 dX2_sumOf_97 rfl ev19 (by decide) rfl ?_
          refine e_goto 4 dX2_sumOf_100 (by decide) ?_
          refine e_forget [some (.ref a0), some (.int a1), some (.int v18), some (.int v19)] (leL_s (leL_s (leL_s (leL_s leL_0)))) ?_
          have h := ok_some h
          exact h
theorem elX2_sumOf_l4 {z : Zt} {Q : Option Value → Me → Prop} (a0 : Nat) (a1 : Int32) (ha0 : Is (wX, z) a0 2) (M : Me) (N : Nat) (s : Int32 × Int32) (h : ok (lp (fpX2_sumOf_l4 a0 a1 M) N s) (XX2_sumOf_4 z a0 a1 M Q)) : EX2_sumOf_4 z a0 a1 M Q s :=
  lp_ind (fun s h => ebX2_sumOf_l4s a0 a1 ha0 s.1 s.2 M h) N s h
def fpX2_sumOf (a0 : Nat) (a1 : Int32) (M : Me) : Option (Int32) := (lp (fpX2_sumOf_l4 a0 a1 M) FU ((0 : Int32), (0 : Int32))).bind fun r20 =>
 some r20
set_option maxRecDepth 20000 in
theorem ctX2_sumOf {z : Zt} {M : Me} {Q : Option Value → Me → Prop} (a0 : Nat) (a1 : Int32) (ha0 : Is (wX, z) a0 2) (h : ok (fpX2_sumOf a0 a1 M) (fun a => Q (some (.int a)) M)) : EvM (wX, z) mtX2_sumOf 4 86 [.ref a0, .int a1] M Q := by
  refine evm_of [some (.ref a0), some (.int a1), none, none] 2 (by decide +kernel) (Nat.le_of_ble_eq_true rfl) rfl ?_
  unfold fpX2_sumOf at h
  refine e_iconst (0 : Int32) dX2_sumOf_0 (by decide) ?_
  refine e_istore_n dX2_sumOf_1 (by decide) rfl ?_
  refine e_iconst (0 : Int32) dX2_sumOf_2 (by decide) ?_
  refine e_istore_n dX2_sumOf_3 (by decide) rfl ?_
  refine e_forget [some (.ref a0), some (.int a1), some (.int (0 : Int32)), some (.int (0 : Int32))] (leL_s (leL_s (leL_s (leL_s leL_0)))) ?_
  refine elX2_sumOf_l4 a0 a1 ha0 M FU ((0 : Int32), (0 : Int32)) (ok_bnd h (fun r20 h => ?_))
  show Ev (wX, z) mtX2_sumOf 4 86 103 [none, none, some (.int r20), none] [] M Q
  refine e_iload_n dX2_sumOf_103 rfl ?_
  have h := ok_some h
  exact e_iret rfl dX2_sumOf_104 h
