def XX2_heldSpots_4 (z : Zt) (a0 : Nat) (M : Me) (Q : Option Value → Me → Prop) : (Int32) → Prop := fun t => Ev (wX, z) mtX2_heldSpots 0 0 29 [none, some (.int t), none] [] M Q
def EX2_heldSpots_4 (z : Zt) (a0 : Nat) (M : Me) (Q : Option Value → Me → Prop) : (Int32 × Int32) → Prop := fun s => Ev (wX, z) mtX2_heldSpots 0 0 4 [some (.ref a0), some (.int s.1), some (.int s.2)] [] M Q
def GX2_heldSpots_4 (z : Zt) (a0 : Nat) (M : Me) (Q : Option Value → Me → Prop) : (Int32 × Int32) ⊕ (Int32) → Prop := Sum.elim (EX2_heldSpots_4 z a0 M Q) (XX2_heldSpots_4 z a0 M Q)
def fpX2_heldSpots_l4s (a0 : Nat) (a1 : Int32) (a2 : Int32) (M : Me) : Option ((Int32 × Int32) ⊕ (Int32)) := (if (10 : Int32) ≤ a2 then
 some (.inr a1)
 else
 (inb a2 10).bind fun k2 =>
 (if (M.1 (a0 + 2) k2) = (-1 : Int32) then
 letv (a2 + (1 : Int32)) fun v4 =>
 some (.inl (a1, v4))
 else
 letv (a1 + (1 : Int32)) fun v5 =>
 letv (a2 + (1 : Int32)) fun v6 =>
 some (.inl (v5, v6))))
def fpX2_heldSpots_l4 (a0 : Nat) (M : Me) (s : Int32 × Int32) : Option ((Int32 × Int32) ⊕ (Int32)) := fpX2_heldSpots_l4s a0 s.1 s.2 M
set_option maxRecDepth 20000 in
theorem ebX2_heldSpots_l4s {z : Zt} {Q : Option Value → Me → Prop} (a0 : Nat) (ha0 : Is (wX, z) a0 2) (a1 : Int32) (a2 : Int32) (M : Me) (h : ok (fpX2_heldSpots_l4s a0 a1 a2 M) (GX2_heldSpots_4 z a0 M Q)) : Ev (wX, z) mtX2_heldSpots 0 0 4 [some (.ref a0), some (.int a1), some (.int a2)] [] M Q := by
  unfold fpX2_heldSpots_l4s at h
  refine e_iload_n dX2_heldSpots_4 rfl ?_
  refine e_bipush (10 : Int32) dX2_heldSpots_5 (by decide) ?_
  refine e_icmp_ge 29 dX2_heldSpots_7 (by decide) (fun c1 => ?_) (fun c1 => ?_)
  · have h := ok_t c1 h
    refine e_forget [none, some (.int a1), none] (leL_n (leL_s (leL_n leL_0))) ?_
    have h := ok_some h
    exact h
  · have h := ok_f c1 h
    refine e_aload_n dX2_heldSpots_10 rfl ?_
    refine e_getR fa_RX2_17 ha0 rfl dX2_heldSpots_11 ?_
    refine e_iload_n dX2_heldSpots_14 rfl ?_
    refine ok_inb h (fun k2 ek2 ik2 h => ?_)
    refine e_ialdK (rd_spots ha0) ik2 ek2 dX2_heldSpots_15 ?_
    refine e_iconst (-1 : Int32) dX2_heldSpots_16 (by decide) ?_
    refine e_icmp_eq 23 dX2_heldSpots_17 (by decide) (fun c3 => ?_) (fun c3 => ?_)
    · have h := ok_t c3 h
      refine lv1e h (fun v4 ev4 h => ?_)
      refine e_iinc v4 dX2_heldSpots_23 rfl ev4 (by decide) rfl ?_
      refine e_goto 4 dX2_heldSpots_26 (by decide) ?_
      refine e_forget [some (.ref a0), some (.int a1), some (.int v4)] (leL_s (leL_s (leL_s leL_0))) ?_
      have h := ok_some h
      exact h
    · have h := ok_f c3 h
      refine lv1e h (fun v5 ev5 h => ?_)
      refine e_iinc v5 dX2_heldSpots_20 rfl ev5 (by decide) rfl ?_
      refine lv1e h (fun v6 ev6 h => ?_)
      refine e_iinc v6 dX2_heldSpots_23 rfl ev6 (by decide) rfl ?_
      refine e_goto 4 dX2_heldSpots_26 (by decide) ?_
      refine e_forget [some (.ref a0), some (.int v5), some (.int v6)] (leL_s (leL_s (leL_s leL_0))) ?_
      have h := ok_some h
      exact h
theorem elX2_heldSpots_l4 {z : Zt} {Q : Option Value → Me → Prop} (a0 : Nat) (ha0 : Is (wX, z) a0 2) (M : Me) (N : Nat) (s : Int32 × Int32) (h : ok (lp (fpX2_heldSpots_l4 a0 M) N s) (XX2_heldSpots_4 z a0 M Q)) : EX2_heldSpots_4 z a0 M Q s :=
  lp_ind (fun s h => ebX2_heldSpots_l4s a0 ha0 s.1 s.2 M h) N s h
def fpX2_heldSpots (a0 : Nat) (M : Me) : Option (Int32) := (lp (fpX2_heldSpots_l4 a0 M) FU ((0 : Int32), (0 : Int32))).bind fun r7 =>
 some r7
set_option maxRecDepth 20000 in
theorem ctX2_heldSpots {z : Zt} {M : Me} {Q : Option Value → Me → Prop} (a0 : Nat) (ha0 : Is (wX, z) a0 2) (h : ok (fpX2_heldSpots a0 M) (fun a => Q (some (.int a)) M)) : EvM (wX, z) mtX2_heldSpots 0 0 [.ref a0] M Q := by
  refine evm_of [some (.ref a0), none, none] 2 (by decide +kernel) (Nat.le_of_ble_eq_true rfl) rfl ?_
  unfold fpX2_heldSpots at h
  refine e_iconst (0 : Int32) dX2_heldSpots_0 (by decide) ?_
  refine e_istore_n dX2_heldSpots_1 (by decide) rfl ?_
  refine e_iconst (0 : Int32) dX2_heldSpots_2 (by decide) ?_
  refine e_istore_n dX2_heldSpots_3 (by decide) rfl ?_
  refine e_forget [some (.ref a0), some (.int (0 : Int32)), some (.int (0 : Int32))] (leL_s (leL_s (leL_s leL_0))) ?_
  refine elX2_heldSpots_l4 a0 ha0 M FU ((0 : Int32), (0 : Int32)) (ok_bnd h (fun r7 h => ?_))
  show Ev (wX, z) mtX2_heldSpots 0 0 29 [none, some (.int r7), none] [] M Q
  refine e_iload_n dX2_heldSpots_29 rfl ?_
  have h := ok_some h
  exact e_iret rfl dX2_heldSpots_30 h
def fpX3_isMissing (a0 : Nat) (M : Me) : Int32 := (if (M.1 a0 1) = 0 then (1 : Int32) else (0 : Int32))
theorem fpzX3_isMissing (a0 : Nat) (M : Me) : fpX3_isMissing a0 M = 0 ∨ fpX3_isMissing a0 M = 1 := by
  unfold fpX3_isMissing
  (repeat' split) <;> first | exact Or.inl rfl | exact Or.inr rfl
set_option maxRecDepth 20000 in
theorem ctX3_isMissing {z : Zt} {M : Me} {Q : Option Value → Me → Prop} (a0 : Nat) (ha0 : Is (wX, z) a0 5) (h : Q (some (.int (fpX3_isMissing a0 M))) M) : EvM (wX, z) mtX3_isMissing 0 0 [.ref a0] M Q := by
  refine evm_of [some (.ref a0)] 0 (by decide +kernel) (Nat.le_of_ble_eq_true rfl) rfl ?_
  refine e_aload_n dX3_isMissing_0 rfl ?_
  refine e_getI fa_RX3_15 ha0 dX3_isMissing_1 ?_
  refine e_if_ne 11 dX3_isMissing_4 (by decide) (fun c1 => ?_) (fun c1 => ?_)
  · refine e_iconst (0 : Int32) dX3_isMissing_11 (by decide) ?_
    have e0 : fpX3_isMissing a0 M = (0 : Int32) := by
      unfold fpX3_isMissing
      rw [if_neg c1]
    rw [e0] at h
    exact e_zret rfl (Or.inl rfl) dX3_isMissing_12 h
  · refine e_iconst (1 : Int32) dX3_isMissing_7 (by decide) ?_
    refine e_goto 12 dX3_isMissing_8 (by decide) ?_
    have e0 : fpX3_isMissing a0 M = (1 : Int32) := by
      unfold fpX3_isMissing
      rw [if_pos c1]
    rw [e0] at h
    exact e_zret rfl (Or.inr rfl) dX3_isMissing_12 h
def XX3_begin_12 (z : Zt) (a0 : Nat) (Q : Option Value → Me → Prop) : (Me) → Prop := fun t => Ev (wX, z) mtX3_begin 0 0 31 [none, none, none, none] [] t Q
def EX3_begin_12 (z : Zt) (a0 : Nat) (Q : Option Value → Me → Prop) : (Int32 × Me) → Prop := fun s => Ev (wX, z) mtX3_begin 0 0 12 [some (.ref a0), none, none, some (.int s.1)] [] s.2 Q
def GX3_begin_12 (z : Zt) (a0 : Nat) (Q : Option Value → Me → Prop) : (Int32 × Me) ⊕ (Me) → Prop := Sum.elim (EX3_begin_12 z a0 Q) (XX3_begin_12 z a0 Q)
def fpX3_begin_l12s (a0 : Nat) (a3 : Int32) (M : Me) : Option ((Int32 × Me) ⊕ (Me)) := (if (40 : Int32) ≤ a3 then
 some (.inr M)
 else
 (inb a3 40).bind fun k4 =>
 letv (wrM M (a0 + 1) k4 (0 : Int32)) fun M5 =>
 letv (a3 + (1 : Int32)) fun v6 =>
 some (.inl (v6, M5)))
def fpX3_begin_l12 (a0 : Nat) (s : Int32 × Me) : Option ((Int32 × Me) ⊕ (Me)) := fpX3_begin_l12s a0 s.1 s.2
set_option maxRecDepth 20000 in
theorem ebX3_begin_l12s {z : Zt} {Q : Option Value → Me → Prop} (a0 : Nat) (ha0 : Is (wX, z) a0 5) (a3 : Int32) (M : Me) (h : ok (fpX3_begin_l12s a0 a3 M) (GX3_begin_12 z a0 Q)) : Ev (wX, z) mtX3_begin 0 0 12 [some (.ref a0), none, none, some (.int a3)] [] M Q := by
  unfold fpX3_begin_l12s at h
  refine e_iload_n dX3_begin_12 rfl ?_
  refine e_bipush (40 : Int32) dX3_begin_13 (by decide) ?_
  refine e_icmp_ge 31 dX3_begin_15 (by decide) (fun c3 => ?_) (fun c3 => ?_)
  · have h := ok_t c3 h
    refine e_forget [none, none, none, none] (leL_n (leL_n (leL_n (leL_n leL_0)))) ?_
    have h := ok_some h
    exact h
  · have h := ok_f c3 h
    refine e_aload_n dX3_begin_18 rfl ?_
    refine e_getR fa_RX3_9 ha0 rfl dX3_begin_19 ?_
    refine e_iload_n dX3_begin_22 rfl ?_
    refine e_iconst (0 : Int32) dX3_begin_23 (by decide) ?_
    refine ok_inb h (fun k4 ek4 ik4 h => ?_)
    refine e_iastK (sh_nums ha0) ik4 ek4 dX3_begin_24 ?_
    refine lv1 (P := fun M5 => Ev (wX, z) mtX3_begin 0 0 25 [some (.ref a0), none, none, some (.int a3)] [] M5 Q) h (fun M5 h => ?_)
    refine lv1e h (fun v6 ev6 h => ?_)
    refine e_iinc v6 dX3_begin_25 rfl ev6 (by decide) rfl ?_
    refine e_goto 12 dX3_begin_28 (by decide) ?_
    refine e_forget [some (.ref a0), none, none, some (.int v6)] (leL_s (leL_n (leL_n (leL_s leL_0)))) ?_
    have h := ok_some h
    exact h
theorem elX3_begin_l12 {z : Zt} {Q : Option Value → Me → Prop} (a0 : Nat) (ha0 : Is (wX, z) a0 5) (N : Nat) (s : Int32 × Me) (h : ok (lp (fpX3_begin_l12 a0) N s) (XX3_begin_12 z a0 Q)) : EX3_begin_12 z a0 Q s :=
  lp_ind (fun s h => ebX3_begin_l12s a0 ha0 s.1 s.2 h) N s h
def fpX3_begin (a0 : Nat) (a1 : Int32) (a2 : Int32) (M : Me) : Option (Me) := letv (wrM M a0 1 a1) fun M1 =>
 letv (wrM M1 a0 2 a2) fun M2 =>
 (lp (fpX3_begin_l12 a0) FU ((0 : Int32), M2)).bind fun r7 =>
 some r7
set_option maxRecDepth 20000 in
theorem ctX3_begin {z : Zt} {M : Me} {Q : Option Value → Me → Prop} (a0 : Nat) (a1 : Int32) (a2 : Int32) (ha0 : Is (wX, z) a0 5) (h : ok (fpX3_begin a0 a1 a2 M) (fun a => Q none a)) : EvM (wX, z) mtX3_begin 0 0 [.ref a0, .int a1, .int a2] M Q := by
  refine evm_of [some (.ref a0), some (.int a1), some (.int a2), none] 1 (by decide +kernel) (Nat.le_of_ble_eq_true rfl) rfl ?_
  unfold fpX3_begin at h
  refine e_aload_n dX3_begin_0 rfl ?_
  refine e_iload_n dX3_begin_1 rfl ?_
  refine e_putI fw_RX3_15 ha0 dX3_begin_2 ?_
  refine lv1 (P := fun M1 => Ev (wX, z) mtX3_begin 0 0 5 [some (.ref a0), some (.int a1), some (.int a2), none] [] M1 Q) h (fun M1 h => ?_)
  refine e_aload_n dX3_begin_5 rfl ?_
  refine e_iload_n dX3_begin_6 rfl ?_
  refine e_putI fw_RX3_19 ha0 dX3_begin_7 ?_
  refine lv1 (P := fun M2 => Ev (wX, z) mtX3_begin 0 0 10 [some (.ref a0), some (.int a1), some (.int a2), none] [] M2 Q) h (fun M2 h => ?_)
  refine e_iconst (0 : Int32) dX3_begin_10 (by decide) ?_
  refine e_istore_n dX3_begin_11 (by decide) rfl ?_
  refine e_forget [some (.ref a0), none, none, some (.int (0 : Int32))] (leL_s (leL_n (leL_n (leL_s leL_0)))) ?_
  refine elX3_begin_l12 a0 ha0 FU ((0 : Int32), M2) (ok_bnd h (fun r7 h => ?_))
  show Ev (wX, z) mtX3_begin 0 0 31 [none, none, none, none] [] r7 Q
  have h := ok_some h
  exact e_vret rfl dX3_begin_31 h
def fpX3_put (a0 : Nat) (a1 : Int32) (a2 : Int32) (M : Me) : Option (Me) := (if (M.1 a0 1) = (8 : Int32) then
 (inb a1 40).bind fun k7 =>
 letv (wrM M (a0 + 1) k7 (a2.toInt8.toInt32)) fun M8 =>
 some M8
 else
 (if (M.1 a0 1) = (16 : Int32) then
 (inb a1 40).bind fun k5 =>
 letv (wrM M (a0 + 1) k5 (a2.toInt16.toInt32)) fun M6 =>
 some M6
 else
 (inb a1 40).bind fun k3 =>
 letv (wrM M (a0 + 1) k3 a2) fun M4 =>
 some M4))
set_option maxRecDepth 20000 in
theorem ctX3_put {z : Zt} {M : Me} {Q : Option Value → Me → Prop} (a0 : Nat) (a1 : Int32) (a2 : Int32) (ha0 : Is (wX, z) a0 5) (h : ok (fpX3_put a0 a1 a2 M) (fun a => Q none a)) : EvM (wX, z) mtX3_put 0 0 [.ref a0, .int a1, .int a2] M Q := by
  refine evm_of [some (.ref a0), some (.int a1), some (.int a2)] 0 (by decide +kernel) (Nat.le_of_ble_eq_true rfl) rfl ?_
  unfold fpX3_put at h
  refine e_aload_n dX3_put_0 rfl ?_
  refine e_getI fa_RX3_15 ha0 dX3_put_1 ?_
  refine e_bipush (8 : Int32) dX3_put_4 (by decide) ?_
  refine e_icmp_ne 20 dX3_put_6 (by decide) (fun c1 => ?_) (fun c1 => ?_)
  · have h := ok_f c1 h
    refine e_aload_n dX3_put_20 rfl ?_
    refine e_getI fa_RX3_15 ha0 dX3_put_21 ?_
    refine e_bipush (16 : Int32) dX3_put_24 (by decide) ?_
    refine e_icmp_ne 40 dX3_put_26 (by decide) (fun c2 => ?_) (fun c2 => ?_)
    · have h := ok_f c2 h
      refine e_aload_n dX3_put_40 rfl ?_
      refine e_getR fa_RX3_9 ha0 rfl dX3_put_41 ?_
      refine e_iload_n dX3_put_44 rfl ?_
      refine e_iload_n dX3_put_45 rfl ?_
      refine ok_inb h (fun k3 ek3 ik3 h => ?_)
      refine e_iastK (sh_nums ha0) ik3 ek3 dX3_put_46 ?_
      refine lv1 (P := fun M4 => Ev (wX, z) mtX3_put 0 0 47 [some (.ref a0), some (.int a1), some (.int a2)] [] M4 Q) h (fun M4 h => ?_)
      have h := ok_some h
      exact e_vret rfl dX3_put_47 h
    · have h := ok_t c2 h
      refine e_aload_n dX3_put_29 rfl ?_
      refine e_getR fa_RX3_9 ha0 rfl dX3_put_30 ?_
      refine e_iload_n dX3_put_33 rfl ?_
      refine e_iload_n dX3_put_34 rfl ?_
      refine e_i2s dX3_put_35 ?_
      refine ok_inb h (fun k5 ek5 ik5 h => ?_)
      refine e_iastK (sh_nums ha0) ik5 ek5 dX3_put_36 ?_
      refine lv1 (P := fun M6 => Ev (wX, z) mtX3_put 0 0 37 [some (.ref a0), some (.int a1), some (.int a2)] [] M6 Q) h (fun M6 h => ?_)
      refine e_goto 47 dX3_put_37 (by decide) ?_
      have h := ok_some h
      exact e_vret rfl dX3_put_47 h
  · have h := ok_t c1 h
    refine e_aload_n dX3_put_9 rfl ?_
    refine e_getR fa_RX3_9 ha0 rfl dX3_put_10 ?_
    refine e_iload_n dX3_put_13 rfl ?_
    refine e_iload_n dX3_put_14 rfl ?_
    refine e_i2b dX3_put_15 ?_
    refine ok_inb h (fun k7 ek7 ik7 h => ?_)
    refine e_iastK (sh_nums ha0) ik7 ek7 dX3_put_16 ?_
    refine lv1 (P := fun M8 => Ev (wX, z) mtX3_put 0 0 17 [some (.ref a0), some (.int a1), some (.int a2)] [] M8 Q) h (fun M8 h => ?_)
    refine e_goto 47 dX3_put_17 (by decide) ?_
    have h := ok_some h
    exact e_vret rfl dX3_put_47 h
def fpX3_hasRun (a0 : Nat) (a1 : Int32) (a2 : Int32) (M : Me) : Int32 := (if a1 < 0 then (0 : Int32) else (if a2 < 0 then (0 : Int32) else (if ((M.1 a0 2) - a1) < a2 then (0 : Int32) else (1 : Int32))))
theorem fpzX3_hasRun (a0 : Nat) (a1 : Int32) (a2 : Int32) (M : Me) : fpX3_hasRun a0 a1 a2 M = 0 ∨ fpX3_hasRun a0 a1 a2 M = 1 := by
  unfold fpX3_hasRun
  (repeat' split) <;> first | exact Or.inl rfl | exact Or.inr rfl
set_option maxRecDepth 20000 in
theorem ctX3_hasRun {z : Zt} {M : Me} {Q : Option Value → Me → Prop} (a0 : Nat) (a1 : Int32) (a2 : Int32) (ha0 : Is (wX, z) a0 5) (h : Q (some (.int (fpX3_hasRun a0 a1 a2 M))) M) : EvM (wX, z) mtX3_hasRun 0 0 [.ref a0, .int a1, .int a2] M Q := by
  refine evm_of [some (.ref a0), some (.int a1), some (.int a2)] 0 (by decide +kernel) (Nat.le_of_ble_eq_true rfl) rfl ?_
  refine e_iload_n dX3_hasRun_0 rfl ?_
  refine e_if_lt 22 dX3_hasRun_1 (by decide) (fun c1 => ?_) (fun c1 => ?_)
  · refine e_iconst (0 : Int32) dX3_hasRun_22 (by decide) ?_
    have e0 : fpX3_hasRun a0 a1 a2 M = (0 : Int32) := by
      unfold fpX3_hasRun
      rw [if_pos c1]
    rw [e0] at h
    exact e_zret rfl (Or.inl rfl) dX3_hasRun_23 h
  · refine e_iload_n dX3_hasRun_4 rfl ?_
    refine e_if_lt 22 dX3_hasRun_5 (by decide) (fun c2 => ?_) (fun c2 => ?_)
    · refine e_iconst (0 : Int32) dX3_hasRun_22 (by decide) ?_
      have e0 : fpX3_hasRun a0 a1 a2 M = (0 : Int32) := by
        unfold fpX3_hasRun
        rw [if_neg c1, if_pos c2]
      rw [e0] at h
      exact e_zret rfl (Or.inl rfl) dX3_hasRun_23 h
    · refine e_iload_n dX3_hasRun_8 rfl ?_
      refine e_aload_n dX3_hasRun_9 rfl ?_
      refine e_getI fa_RX3_19 ha0 dX3_hasRun_10 ?_
      refine e_iload_n dX3_hasRun_13 rfl ?_
      refine e_isub dX3_hasRun_14 ?_
      refine e_icmp_gt 22 dX3_hasRun_15 (by decide) (fun c3 => ?_) (fun c3 => ?_)
      · refine e_iconst (0 : Int32) dX3_hasRun_22 (by decide) ?_
        have e0 : fpX3_hasRun a0 a1 a2 M = (0 : Int32) := by
          unfold fpX3_hasRun
          rw [if_neg c1, if_neg c2, if_pos c3]
        rw [e0] at h
        exact e_zret rfl (Or.inl rfl) dX3_hasRun_23 h
      · refine e_iconst (1 : Int32) dX3_hasRun_18 (by decide) ?_
        refine e_goto 23 dX3_hasRun_19 (by decide) ?_
        have e0 : fpX3_hasRun a0 a1 a2 M = (1 : Int32) := by
          unfold fpX3_hasRun
          rw [if_neg c1, if_neg c2, if_neg c3]
        rw [e0] at h
        exact e_zret rfl (Or.inr rfl) dX3_hasRun_23 h
def fpX4_add (a1 : Int32) (M : Me) : Option (Me) := (inb (M.1 34 1) 120).bind fun k1 =>
 letv (wrM M 35 k1 (a1 &&& (255 : Int32))) fun M2 =>
 letv (wrM M2 34 1 ((M2.1 34 1) + (1 : Int32))) fun M3 =>
 some M3
set_option maxRecDepth 20000 in
theorem ctX4_add {z : Zt} {M : Me} {Q : Option Value → Me → Prop} (a1 : Int32)  (h : ok (fpX4_add a1 M) (fun a => Q none a)) : EvM (wX, z) mtX4_add 0 0 [.ref 34, .int a1] M Q := by
  refine evm_of [some (.ref 34), some (.int a1)] 0 (by decide +kernel) (Nat.le_of_ble_eq_true rfl) rfl ?_
  unfold fpX4_add at h
  refine e_aload_n dX4_add_0 rfl ?_
  refine e_getR fa_RX4_9 is_X34 rfl dX4_add_1 ?_
  refine e_aload_n dX4_add_4 rfl ?_
  refine e_getI fa_RX4_15 is_X34 dX4_add_5 ?_
  refine e_iload_n dX4_add_8 rfl ?_
  refine e_sipush (255 : Int32) dX4_add_9 (by decide) ?_
  refine e_iand dX4_add_12 ?_
  refine ok_inb h (fun k1 ek1 ik1 h => ?_)
  refine e_iastK ia_X35 ik1 ek1 dX4_add_13 ?_
  refine lv1 (P := fun M2 => Ev (wX, z) mtX4_add 0 0 14 [some (.ref 34), some (.int a1)] [] M2 Q) h (fun M2 h => ?_)
  refine e_aload_n dX4_add_14 rfl ?_
  refine e_dup dX4_add_15 rfl ?_
  refine e_getI fa_RX4_15 is_X34 dX4_add_16 ?_
  refine e_iconst (1 : Int32) dX4_add_19 (by decide) ?_
  refine e_iadd dX4_add_20 ?_
  refine e_putI fw_RX4_15 is_X34 dX4_add_21 ?_
  refine lv1 (P := fun M3 => Ev (wX, z) mtX4_add 0 0 24 [some (.ref 34), some (.int a1)] [] M3 Q) h (fun M3 h => ?_)
  have h := ok_some h
  exact e_vret rfl dX4_add_24 h
def fpX4_isLetter (a1 : Int32) (M : Me) : Option (Int32) := (inb a1 120).bind fun k1 =>
 (if (M.1 35 k1) < (97 : Int32) then
 some (0 : Int32)
 else
 (if (122 : Int32) < (M.1 35 k1) then
 some (0 : Int32)
 else
 some (1 : Int32)))
set_option maxRecDepth 20000 in
theorem ctX4_isLetter {z : Zt} {M : Me} {Q : Option Value → Me → Prop} (a1 : Int32)  (h : ok (fpX4_isLetter a1 M) (fun a => Q (some (.int a)) M)) : EvM (wX, z) mtX4_isLetter 0 0 [.ref 34, .int a1] M Q := by
  refine evm_of [some (.ref 34), some (.int a1)] 0 (by decide +kernel) (Nat.le_of_ble_eq_true rfl) rfl ?_
  unfold fpX4_isLetter at h
  refine e_aload_n dX4_isLetter_0 rfl ?_
  refine e_getR fa_RX4_9 is_X34 rfl dX4_isLetter_1 ?_
  refine e_iload_n dX4_isLetter_4 rfl ?_
  refine ok_inb h (fun k1 ek1 ik1 h => ?_)
  refine e_ialdK ia_X35 ik1 ek1 dX4_isLetter_5 ?_
  refine e_bipush (97 : Int32) dX4_isLetter_6 (by decide) ?_
  refine e_icmp_lt 26 dX4_isLetter_8 (by decide) (fun c2 => ?_) (fun c2 => ?_)
  · have h := ok_t c2 h
    refine e_iconst (0 : Int32) dX4_isLetter_26 (by decide) ?_
    have h := ok_some h
    exact e_zret rfl (Or.inl rfl) dX4_isLetter_27 h
  · have h := ok_f c2 h
    refine e_aload_n dX4_isLetter_11 rfl ?_
    refine e_getR fa_RX4_9 is_X34 rfl dX4_isLetter_12 ?_
    refine e_iload_n dX4_isLetter_15 rfl ?_
    refine e_ialdK ia_X35 ik1 ek1 dX4_isLetter_16 ?_
    refine e_bipush (122 : Int32) dX4_isLetter_17 (by decide) ?_
    refine e_icmp_gt 26 dX4_isLetter_19 (by decide) (fun c3 => ?_) (fun c3 => ?_)
    · have h := ok_t c3 h
      refine e_iconst (0 : Int32) dX4_isLetter_26 (by decide) ?_
      have h := ok_some h
      exact e_zret rfl (Or.inl rfl) dX4_isLetter_27 h
    · have h := ok_f c3 h
      refine e_iconst (1 : Int32) dX4_isLetter_22 (by decide) ?_
      refine e_goto 27 dX4_isLetter_23 (by decide) ?_
      have h := ok_some h
      exact e_zret rfl (Or.inr rfl) dX4_isLetter_27 h
def fpX4_isDigit (a1 : Int32) (M : Me) : Option (Int32) := (inb a1 120).bind fun k1 =>
 (if (M.1 35 k1) < (48 : Int32) then
 some (0 : Int32)
 else
 (if (57 : Int32) < (M.1 35 k1) then
 some (0 : Int32)
 else
 some (1 : Int32)))
set_option maxRecDepth 20000 in
theorem ctX4_isDigit {z : Zt} {M : Me} {Q : Option Value → Me → Prop} (a1 : Int32)  (h : ok (fpX4_isDigit a1 M) (fun a => Q (some (.int a)) M)) : EvM (wX, z) mtX4_isDigit 0 0 [.ref 34, .int a1] M Q := by
  refine evm_of [some (.ref 34), some (.int a1)] 0 (by decide +kernel) (Nat.le_of_ble_eq_true rfl) rfl ?_
  unfold fpX4_isDigit at h
  refine e_aload_n dX4_isDigit_0 rfl ?_
  refine e_getR fa_RX4_9 is_X34 rfl dX4_isDigit_1 ?_
  refine e_iload_n dX4_isDigit_4 rfl ?_
  refine ok_inb h (fun k1 ek1 ik1 h => ?_)
  refine e_ialdK ia_X35 ik1 ek1 dX4_isDigit_5 ?_
  refine e_bipush (48 : Int32) dX4_isDigit_6 (by decide) ?_
  refine e_icmp_lt 26 dX4_isDigit_8 (by decide) (fun c2 => ?_) (fun c2 => ?_)
  · have h := ok_t c2 h
    refine e_iconst (0 : Int32) dX4_isDigit_26 (by decide) ?_
    have h := ok_some h
    exact e_zret rfl (Or.inl rfl) dX4_isDigit_27 h
  · have h := ok_f c2 h
    refine e_aload_n dX4_isDigit_11 rfl ?_
    refine e_getR fa_RX4_9 is_X34 rfl dX4_isDigit_12 ?_
    refine e_iload_n dX4_isDigit_15 rfl ?_
    refine e_ialdK ia_X35 ik1 ek1 dX4_isDigit_16 ?_
    refine e_bipush (57 : Int32) dX4_isDigit_17 (by decide) ?_
    refine e_icmp_gt 26 dX4_isDigit_19 (by decide) (fun c3 => ?_) (fun c3 => ?_)
    · have h := ok_t c3 h
      refine e_iconst (0 : Int32) dX4_isDigit_26 (by decide) ?_
      have h := ok_some h
      exact e_zret rfl (Or.inl rfl) dX4_isDigit_27 h
    · have h := ok_f c3 h
      refine e_iconst (1 : Int32) dX4_isDigit_22 (by decide) ?_
      refine e_goto 27 dX4_isDigit_23 (by decide) ?_
      have h := ok_some h
      exact e_zret rfl (Or.inr rfl) dX4_isDigit_27 h
def XX4_nextNumber_5 (z : Zt) (Q : Option Value → Me → Prop) : (Me) → Prop := fun t => Ev (wX, z) mtX4_nextNumber 1 21 70 [none] [] t Q
def EX4_nextNumber_5 (z : Zt) (Q : Option Value → Me → Prop) : (Me) → Prop := fun s => Ev (wX, z) mtX4_nextNumber 1 21 5 [some (.ref 34)] [] s Q
def GX4_nextNumber_5 (z : Zt) (Q : Option Value → Me → Prop) : (Me) ⊕ (Me) → Prop := Sum.elim (EX4_nextNumber_5 z Q) (XX4_nextNumber_5 z Q)
def fpX4_nextNumber_l5s (M : Me) : Option ((Me) ⊕ (Me)) := (if (M.1 34 1) ≤ (M.1 34 4) then
 some (.inr M)
 else
 (fpX4_isDigit (M.1 34 4) M).bind fun v3 =>
 (if v3 = 0 then
 some (.inr M)
 else
 (inb (M.1 34 4) 120).bind fun k5 =>
 letv (wrM M 34 5 (fpJ9_min_7cf53 (1000 : Int32) ((((M.1 34 5) * (10 : Int32)) + (M.1 35 k5)) - (48 : Int32)))) fun M6 =>
 letv (wrM M6 34 4 ((M6.1 34 4) + (1 : Int32))) fun M7 =>
 some (.inl M7)))
def fpX4_nextNumber_l5 (s : Me) : Option ((Me) ⊕ (Me)) := fpX4_nextNumber_l5s s
set_option maxRecDepth 20000 in
theorem ebX4_nextNumber_l5s {z : Zt} {Q : Option Value → Me → Prop} (M : Me) (h : ok (fpX4_nextNumber_l5s M) (GX4_nextNumber_5 z Q)) : Ev (wX, z) mtX4_nextNumber 1 21 5 [some (.ref 34)] [] M Q := by
  unfold fpX4_nextNumber_l5s at h
  refine e_aload_n dX4_nextNumber_5 rfl ?_
  refine e_getI fa_RX4_25 is_X34 dX4_nextNumber_6 ?_
  refine e_aload_n dX4_nextNumber_9 rfl ?_
  refine e_getI fa_RX4_15 is_X34 dX4_nextNumber_10 ?_
  refine e_icmp_ge 70 dX4_nextNumber_13 (by decide) (fun c2 => ?_) (fun c2 => ?_)
  · have h := ok_t c2 h
    refine e_forget [none] (leL_n leL_0) ?_
    have h := ok_some h
    exact h
  · have h := ok_f c2 h
    refine e_aload_n dX4_nextNumber_16 rfl ?_
    refine e_aload_n dX4_nextNumber_17 rfl ?_
    refine e_getI fa_RX4_25 is_X34 dX4_nextNumber_18 ?_
    refine e_callV (f2 := 0) (l2 := 0) (ν := mtX4_isDigit) (as := [.int (M.1 34 4)]) cv_RX4_119 is_X34 kc_4 ⟨Nat.le_of_ble_eq_true rfl, Nat.le_of_ble_eq_true rfl⟩ rfl rfl (Nat.le_of_ble_eq_true rfl) dX4_nextNumber_21 ?_
    refine ctX4_isDigit (M.1 34 4) (ok_bnd h (fun v3 h => ?_))
    show Ev (wX, z) mtX4_nextNumber 1 21 24 [some (.ref 34)] [.int v3] M Q
    refine e_if_eq 70 dX4_nextNumber_24 (by decide) (fun c4 => ?_) (fun c4 => ?_)
    · have h := ok_t c4 h
      refine e_forget [none] (leL_n leL_0) ?_
      have h := ok_some h
      exact h
    · have h := ok_f c4 h
      refine e_aload_n dX4_nextNumber_27 rfl ?_
      refine e_sipush (1000 : Int32) dX4_nextNumber_28 (by decide) ?_
      refine e_aload_n dX4_nextNumber_31 rfl ?_
      refine e_getI fa_RX4_28 is_X34 dX4_nextNumber_32 ?_
      refine e_bipush (10 : Int32) dX4_nextNumber_35 (by decide) ?_
      refine e_imul dX4_nextNumber_37 ?_
      refine e_aload_n dX4_nextNumber_38 rfl ?_
      refine e_getR fa_RX4_9 is_X34 rfl dX4_nextNumber_39 ?_
      refine e_aload_n dX4_nextNumber_42 rfl ?_
      refine e_getI fa_RX4_25 is_X34 dX4_nextNumber_43 ?_
      refine ok_inb h (fun k5 ek5 ik5 h => ?_)
      refine e_ialdK ia_X35 ik5 ek5 dX4_nextNumber_46 ?_
      refine e_iadd dX4_nextNumber_47 ?_
      refine e_bipush (48 : Int32) dX4_nextNumber_48 (by decide) ?_
      refine e_isub dX4_nextNumber_50 ?_
      refine e_callS (f2 := 0) (l2 := 0) (ν := mtJ9_min_7cf53) (as := [.int (1000 : Int32), .int ((((M.1 34 5) * (10 : Int32)) + (M.1 35 k5)) - (48 : Int32))]) cs_RX4_125 ⟨Nat.le_of_ble_eq_true rfl, Nat.le_of_ble_eq_true rfl⟩ rfl rfl (Nat.le_of_ble_eq_true rfl) dX4_nextNumber_51 ?_
      refine ctJ9_min_7cf53 (1000 : Int32) ((((M.1 34 5) * (10 : Int32)) + (M.1 35 k5)) - (48 : Int32)) ?_
      show Ev (wX, z) mtX4_nextNumber 1 21 54 [some (.ref 34)] [.int (fpJ9_min_7cf53 (1000 : Int32) ((((M.1 34 5) * (10 : Int32)) + (M.1 35 k5)) - (48 : Int32))), .ref 34] M Q
      refine e_putI fw_RX4_28 is_X34 dX4_nextNumber_54 ?_
      refine lv1 (P := fun M6 => Ev (wX, z) mtX4_nextNumber 1 21 57 [some (.ref 34)] [] M6 Q) h (fun M6 h => ?_)
      refine e_aload_n dX4_nextNumber_57 rfl ?_
      refine e_dup dX4_nextNumber_58 rfl ?_
      refine e_getI fa_RX4_25 is_X34 dX4_nextNumber_59 ?_
      refine e_iconst (1 : Int32) dX4_nextNumber_62 (by decide) ?_
      refine e_iadd dX4_nextNumber_63 ?_
      refine e_putI fw_RX4_25 is_X34 dX4_nextNumber_64 ?_
      refine lv1 (P := fun M7 => Ev (wX, z) mtX4_nextNumber 1 21 67 [some (.ref 34)] [] M7 Q) h (fun M7 h => ?_)
      refine e_goto 5 dX4_nextNumber_67 (by decide) ?_
      refine e_forget [some (.ref 34)] (leL_s leL_0) ?_
      have h := ok_some h
      exact h
theorem elX4_nextNumber_l5 {z : Zt} {Q : Option Value → Me → Prop} (N : Nat) (s : Me) (h : ok (lp (fpX4_nextNumber_l5) N s) (XX4_nextNumber_5 z Q)) : EX4_nextNumber_5 z Q s :=
  lp_ind (fun s h => ebX4_nextNumber_l5s s h) N s h
def fpX4_nextNumber  (M : Me) : Option (Me) := letv (wrM M 34 5 (0 : Int32)) fun M1 =>
 (lp (fpX4_nextNumber_l5) FU M1).bind fun r8 =>
 some r8
set_option maxRecDepth 20000 in
theorem ctX4_nextNumber {z : Zt} {M : Me} {Q : Option Value → Me → Prop}   (h : ok (fpX4_nextNumber M) (fun a => Q none a)) : EvM (wX, z) mtX4_nextNumber 1 21 [.ref 34] M Q := by
  refine evm_of [some (.ref 34)] 0 (by decide +kernel) (Nat.le_of_ble_eq_true rfl) rfl ?_
  unfold fpX4_nextNumber at h
  refine e_aload_n dX4_nextNumber_0 rfl ?_
  refine e_iconst (0 : Int32) dX4_nextNumber_1 (by decide) ?_
  refine e_putI fw_RX4_28 is_X34 dX4_nextNumber_2 ?_
  refine lv1 (P := fun M1 => Ev (wX, z) mtX4_nextNumber 1 21 5 [some (.ref 34)] [] M1 Q) h (fun M1 h => ?_)
  refine e_forget [some (.ref 34)] (leL_s leL_0) ?_
  refine elX4_nextNumber_l5 FU M1 (ok_bnd h (fun r8 h => ?_))
  show Ev (wX, z) mtX4_nextNumber 1 21 70 [none] [] r8 Q
  have h := ok_some h
  exact e_vret rfl dX4_nextNumber_70 h
def XX4_next_8 (z : Zt) (Q : Option Value → Me → Prop) : (Me) → Prop := fun t => Ev (wX, z) mtX4_next 2 41 46 [some (.ref 34)] [] t Q
def EX4_next_8 (z : Zt) (Q : Option Value → Me → Prop) : (Me) → Prop := fun s => Ev (wX, z) mtX4_next 2 41 8 [some (.ref 34)] [] s Q
def GX4_next_8 (z : Zt) (Q : Option Value → Me → Prop) : (Me) ⊕ (Me) → Prop := Sum.elim (EX4_next_8 z Q) (XX4_next_8 z Q)
def fpX4_next_l8s (M : Me) : Option ((Me) ⊕ (Me)) := (if (M.1 34 1) ≤ (M.1 34 3) then
 some (.inr M)
 else
 (inb (M.1 34 3) 120).bind fun k3 =>
 (if (M.1 35 k3) = (32 : Int32) then
 letv (wrM M 34 3 ((M.1 34 3) + (1 : Int32))) fun M5 =>
 some (.inl M5)
 else
 some (.inr M)))
def fpX4_next_l8 (s : Me) : Option ((Me) ⊕ (Me)) := fpX4_next_l8s s
set_option maxRecDepth 20000 in
theorem ebX4_next_l8s {z : Zt} {Q : Option Value → Me → Prop} (M : Me) (h : ok (fpX4_next_l8s M) (GX4_next_8 z Q)) : Ev (wX, z) mtX4_next 2 41 8 [some (.ref 34)] [] M Q := by
  unfold fpX4_next_l8s at h
  refine e_aload_n dX4_next_8 rfl ?_
  refine e_getI fa_RX4_22 is_X34 dX4_next_9 ?_
  refine e_aload_n dX4_next_12 rfl ?_
  refine e_getI fa_RX4_15 is_X34 dX4_next_13 ?_
  refine e_icmp_ge 46 dX4_next_16 (by decide) (fun c2 => ?_) (fun c2 => ?_)
  · have h := ok_t c2 h
    refine e_forget [some (.ref 34)] (leL_s leL_0) ?_
    have h := ok_some h
    exact h
  · have h := ok_f c2 h
    refine e_aload_n dX4_next_19 rfl ?_
    refine e_getR fa_RX4_9 is_X34 rfl dX4_next_20 ?_
    refine e_aload_n dX4_next_23 rfl ?_
    refine e_getI fa_RX4_22 is_X34 dX4_next_24 ?_
    refine ok_inb h (fun k3 ek3 ik3 h => ?_)
    refine e_ialdK ia_X35 ik3 ek3 dX4_next_27 ?_
    refine e_bipush (32 : Int32) dX4_next_28 (by decide) ?_
    refine e_icmp_ne 46 dX4_next_30 (by decide) (fun c4 => ?_) (fun c4 => ?_)
    · have h := ok_f c4 h
      refine e_forget [some (.ref 34)] (leL_s leL_0) ?_
      have h := ok_some h
      exact h
    · have h := ok_t c4 h
      refine e_aload_n dX4_next_33 rfl ?_
      refine e_dup dX4_next_34 rfl ?_
      refine e_getI fa_RX4_22 is_X34 dX4_next_35 ?_
      refine e_iconst (1 : Int32) dX4_next_38 (by decide) ?_
      refine e_iadd dX4_next_39 ?_
      refine e_putI fw_RX4_22 is_X34 dX4_next_40 ?_
      refine lv1 (P := fun M5 => Ev (wX, z) mtX4_next 2 41 43 [some (.ref 34)] [] M5 Q) h (fun M5 h => ?_)
      refine e_goto 8 dX4_next_43 (by decide) ?_
      refine e_forget [some (.ref 34)] (leL_s leL_0) ?_
      have h := ok_some h
      exact h
theorem elX4_next_l8 {z : Zt} {Q : Option Value → Me → Prop} (N : Nat) (s : Me) (h : ok (lp (fpX4_next_l8) N s) (XX4_next_8 z Q)) : EX4_next_8 z Q s :=
  lp_ind (fun s h => ebX4_next_l8s s h) N s h
def fpX4_next_b167 (t1 : Int32) (M : Me) : Option (Me) := letv (wrM M 34 2 t1) fun M15 =>
 letv (wrM M15 34 4 ((M15.1 34 4) + (1 : Int32))) fun M16 =>
 some M16
set_option maxRecDepth 20000 in
theorem ebX4_next_b167 {z : Zt} {Q : Option Value → Me → Prop} (t1 : Int32) (M : Me) (h : ok (fpX4_next_b167 t1 M) (fun a => Q none a)) : Ev (wX, z) mtX4_next 2 41 167 [some (.ref 34)] [.int t1, .ref 34] M Q := by
  unfold fpX4_next_b167 at h
  refine e_putI fw_RX4_19 is_X34 dX4_next_167 ?_
  refine lv1 (P := fun M15 => Ev (wX, z) mtX4_next 2 41 170 [some (.ref 34)] [] M15 Q) h (fun M15 h => ?_)
  refine e_aload_n dX4_next_170 rfl ?_
  refine e_dup dX4_next_171 rfl ?_
  refine e_getI fa_RX4_25 is_X34 dX4_next_172 ?_
  refine e_iconst (1 : Int32) dX4_next_175 (by decide) ?_
  refine e_iadd dX4_next_176 ?_
  refine e_putI fw_RX4_25 is_X34 dX4_next_177 ?_
  refine lv1 (P := fun M16 => Ev (wX, z) mtX4_next 2 41 180 [some (.ref 34)] [] M16 Q) h (fun M16 h => ?_)
  have h := ok_some h
  exact e_vret rfl dX4_next_180 h
def XX4_next_89 (z : Zt) (Q : Option Value → Me → Prop) : (Me) → Prop := fun t => Ev (wX, z) mtX4_next 2 41 180 [none] [] t Q
def EX4_next_89 (z : Zt) (Q : Option Value → Me → Prop) : (Me) → Prop := fun s => Ev (wX, z) mtX4_next 2 41 89 [some (.ref 34)] [] s Q
def GX4_next_89 (z : Zt) (Q : Option Value → Me → Prop) : (Me) ⊕ (Me) → Prop := Sum.elim (EX4_next_89 z Q) (XX4_next_89 z Q)
def fpX4_next_l89s (M : Me) : Option ((Me) ⊕ (Me)) := (if (M.1 34 1) ≤ (M.1 34 4) then
 some (.inr M)
 else
 (fpX4_isLetter (M.1 34 4) M).bind fun v21 =>
 (if v21 = 0 then
 some (.inr M)
 else
 letv (wrM M 34 4 ((M.1 34 4) + (1 : Int32))) fun M23 =>
 some (.inl M23)))
def fpX4_next_l89 (s : Me) : Option ((Me) ⊕ (Me)) := fpX4_next_l89s s
set_option maxRecDepth 20000 in
theorem ebX4_next_l89s {z : Zt} {Q : Option Value → Me → Prop} (M : Me) (h : ok (fpX4_next_l89s M) (GX4_next_89 z Q)) : Ev (wX, z) mtX4_next 2 41 89 [some (.ref 34)] [] M Q := by
  unfold fpX4_next_l89s at h
  refine e_aload_n dX4_next_89 rfl ?_
  refine e_getI fa_RX4_25 is_X34 dX4_next_90 ?_
  refine e_aload_n dX4_next_93 rfl ?_
  refine e_getI fa_RX4_15 is_X34 dX4_next_94 ?_
  refine e_icmp_ge 180 dX4_next_97 (by decide) (fun c20 => ?_) (fun c20 => ?_)
  · have h := ok_t c20 h
    refine e_forget [none] (leL_n leL_0) ?_
    have h := ok_some h
    exact h
  · have h := ok_f c20 h
    refine e_aload_n dX4_next_100 rfl ?_
    refine e_aload_n dX4_next_101 rfl ?_
    refine e_getI fa_RX4_25 is_X34 dX4_next_102 ?_
    refine e_callV (f2 := 0) (l2 := 0) (ν := mtX4_isLetter) (as := [.int (M.1 34 4)]) cv_RX4_115 is_X34 kc_4 ⟨Nat.le_of_ble_eq_true rfl, Nat.le_of_ble_eq_true rfl⟩ rfl rfl (Nat.le_of_ble_eq_true rfl) dX4_next_105 ?_
    refine ctX4_isLetter (M.1 34 4) (ok_bnd h (fun v21 h => ?_))
    show Ev (wX, z) mtX4_next 2 41 108 [some (.ref 34)] [.int v21] M Q
    refine e_if_eq 180 dX4_next_108 (by decide) (fun c22 => ?_) (fun c22 => ?_)
    · have h := ok_t c22 h
      refine e_forget [none] (leL_n leL_0) ?_
      have h := ok_some h
      exact h
    · have h := ok_f c22 h
      refine e_aload_n dX4_next_111 rfl ?_
      refine e_dup dX4_next_112 rfl ?_
      refine e_getI fa_RX4_25 is_X34 dX4_next_113 ?_
      refine e_iconst (1 : Int32) dX4_next_116 (by decide) ?_
      refine e_iadd dX4_next_117 ?_
      refine e_putI fw_RX4_25 is_X34 dX4_next_118 ?_
      refine lv1 (P := fun M23 => Ev (wX, z) mtX4_next 2 41 121 [some (.ref 34)] [] M23 Q) h (fun M23 h => ?_)
      refine e_goto 89 dX4_next_121 (by decide) ?_
      refine e_forget [some (.ref 34)] (leL_s leL_0) ?_
      have h := ok_some h
      exact h
theorem elX4_next_l89 {z : Zt} {Q : Option Value → Me → Prop} (N : Nat) (s : Me) (h : ok (lp (fpX4_next_l89) N s) (XX4_next_89 z Q)) : EX4_next_89 z Q s :=
  lp_ind (fun s h => ebX4_next_l89s s h) N s h
def fpX4_next_b46 (M : Me) : Option (Me) := letv (wrM M 34 4 (M.1 34 3)) fun M7 =>
 (if (M7.1 34 3) < (M7.1 34 1) then
 (fpX4_isLetter (M7.1 34 3) M7).bind fun v9 =>
 (if v9 = 0 then
 (fpX4_isDigit (M7.1 34 3) M7).bind fun v11 =>
 (if v11 = 0 then
 (inb (M7.1 34 3) 120).bind fun k13 =>
 (if (M7.1 35 k13) = (59 : Int32) then
 fpX4_next_b167 (2 : Int32) M7
 else
 fpX4_next_b167 (4 : Int32) M7)
 else
 letv (wrM M7 34 2 (1 : Int32)) fun M17 =>
 (fpX4_nextNumber M17).bind fun q18 =>
 some q18)
 else
 letv (wrM M7 34 2 (0 : Int32)) fun M19 =>
 (lp (fpX4_next_l89) FU M19).bind fun r24 =>
 some r24)
 else
 letv (wrM M7 34 2 (3 : Int32)) fun M25 =>
 some M25)
set_option maxRecDepth 20000 in
theorem ebX4_next_b46 {z : Zt} {Q : Option Value → Me → Prop} (M : Me) (h : ok (fpX4_next_b46 M) (fun a => Q none a)) : Ev (wX, z) mtX4_next 2 41 46 [some (.ref 34)] [] M Q := by
  unfold fpX4_next_b46 at h
  refine e_aload_n dX4_next_46 rfl ?_
  refine e_aload_n dX4_next_47 rfl ?_
  refine e_getI fa_RX4_22 is_X34 dX4_next_48 ?_
  refine e_putI fw_RX4_25 is_X34 dX4_next_51 ?_
  refine lv1 (P := fun M7 => Ev (wX, z) mtX4_next 2 41 54 [some (.ref 34)] [] M7 Q) h (fun M7 h => ?_)
  refine e_aload_n dX4_next_54 rfl ?_
  refine e_getI fa_RX4_22 is_X34 dX4_next_55 ?_
  refine e_aload_n dX4_next_58 rfl ?_
  refine e_getI fa_RX4_15 is_X34 dX4_next_59 ?_
  refine e_icmp_lt 73 dX4_next_62 (by decide) (fun c8 => ?_) (fun c8 => ?_)
  · have h := ok_t c8 h
    refine e_aload_n dX4_next_73 rfl ?_
    refine e_aload_n dX4_next_74 rfl ?_
    refine e_getI fa_RX4_22 is_X34 dX4_next_75 ?_
    refine e_callV (f2 := 0) (l2 := 0) (ν := mtX4_isLetter) (as := [.int (M7.1 34 3)]) cv_RX4_115 is_X34 kc_4 ⟨Nat.le_of_ble_eq_true rfl, Nat.le_of_ble_eq_true rfl⟩ rfl rfl (Nat.le_of_ble_eq_true rfl) dX4_next_78 ?_
    refine ctX4_isLetter (M7.1 34 3) (ok_bnd h (fun v9 h => ?_))
    show Ev (wX, z) mtX4_next 2 41 81 [some (.ref 34)] [.int v9] M7 Q
    refine e_if_eq 124 dX4_next_81 (by decide) (fun c10 => ?_) (fun c10 => ?_)
    · have h := ok_t c10 h
      refine e_aload_n dX4_next_124 rfl ?_
      refine e_aload_n dX4_next_125 rfl ?_
      refine e_getI fa_RX4_22 is_X34 dX4_next_126 ?_
      refine e_callV (f2 := 0) (l2 := 0) (ν := mtX4_isDigit) (as := [.int (M7.1 34 3)]) cv_RX4_119 is_X34 kc_4 ⟨Nat.le_of_ble_eq_true rfl, Nat.le_of_ble_eq_true rfl⟩ rfl rfl (Nat.le_of_ble_eq_true rfl) dX4_next_129 ?_
      refine ctX4_isDigit (M7.1 34 3) (ok_bnd h (fun v11 h => ?_))
      show Ev (wX, z) mtX4_next 2 41 132 [some (.ref 34)] [.int v11] M7 Q
      refine e_if_eq 147 dX4_next_132 (by decide) (fun c12 => ?_) (fun c12 => ?_)
      · have h := ok_t c12 h
        refine e_aload_n dX4_next_147 rfl ?_
        refine e_aload_n dX4_next_148 rfl ?_
        refine e_getR fa_RX4_9 is_X34 rfl dX4_next_149 ?_
        refine e_aload_n dX4_next_152 rfl ?_
        refine e_getI fa_RX4_22 is_X34 dX4_next_153 ?_
        refine ok_inb h (fun k13 ek13 ik13 h => ?_)
        refine e_ialdK ia_X35 ik13 ek13 dX4_next_156 ?_
        refine e_bipush (59 : Int32) dX4_next_157 (by decide) ?_
        refine e_icmp_ne 166 dX4_next_159 (by decide) (fun c14 => ?_) (fun c14 => ?_)
        · have h := ok_f c14 h
          refine e_iconst (4 : Int32) dX4_next_166 (by decide) ?_
          refine e_forget [some (.ref 34)] (leL_s leL_0) ?_
          exact ebX4_next_b167 (4 : Int32) M7 h
        · have h := ok_t c14 h
          refine e_iconst (2 : Int32) dX4_next_162 (by decide) ?_
          refine e_goto 167 dX4_next_163 (by decide) ?_
          refine e_forget [some (.ref 34)] (leL_s leL_0) ?_
          exact ebX4_next_b167 (2 : Int32) M7 h
      · have h := ok_f c12 h
        refine e_aload_n dX4_next_135 rfl ?_
        refine e_iconst (1 : Int32) dX4_next_136 (by decide) ?_
        refine e_putI fw_RX4_19 is_X34 dX4_next_137 ?_
        refine lv1 (P := fun M17 => Ev (wX, z) mtX4_next 2 41 140 [some (.ref 34)] [] M17 Q) h (fun M17 h => ?_)
        refine e_aload_n dX4_next_140 rfl ?_
        refine e_callV (f2 := 1) (l2 := 21) (ν := mtX4_nextNumber) (as := []) cv_RX4_122 is_X34 kc_4 ⟨Nat.le_of_ble_eq_true rfl, Nat.le_of_ble_eq_true rfl⟩ rfl rfl (Nat.le_of_ble_eq_true rfl) dX4_next_141 ?_
        refine ctX4_nextNumber (ok_bnd h (fun q18 h => ?_))
        show Ev (wX, z) mtX4_next 2 41 144 [some (.ref 34)] [] q18 Q
        refine e_goto 180 dX4_next_144 (by decide) ?_
        have h := ok_some h
        exact e_vret rfl dX4_next_180 h
    · have h := ok_f c10 h
      refine e_aload_n dX4_next_84 rfl ?_
      refine e_iconst (0 : Int32) dX4_next_85 (by decide) ?_
      refine e_putI fw_RX4_19 is_X34 dX4_next_86 ?_
      refine lv1 (P := fun M19 => Ev (wX, z) mtX4_next 2 41 89 [some (.ref 34)] [] M19 Q) h (fun M19 h => ?_)
      refine e_forget [some (.ref 34)] (leL_s leL_0) ?_
      refine elX4_next_l89 FU M19 (ok_bnd h (fun r24 h => ?_))
      show Ev (wX, z) mtX4_next 2 41 180 [none] [] r24 Q
      have h := ok_some h
      exact e_vret rfl dX4_next_180 h
  · have h := ok_f c8 h
    refine e_aload_n dX4_next_65 rfl ?_
    refine e_iconst (3 : Int32) dX4_next_66 (by decide) ?_
    refine e_putI fw_RX4_19 is_X34 dX4_next_67 ?_
    refine lv1 (P := fun M25 => Ev (wX, z) mtX4_next 2 41 70 [some (.ref 34)] [] M25 Q) h (fun M25 h => ?_)
    refine e_goto 180 dX4_next_70 (by decide) ?_
    have h := ok_some h
    exact e_vret rfl dX4_next_180 h
def fpX4_next  (M : Me) : Option (Me) := letv (wrM M 34 3 (M.1 34 4)) fun M1 =>
 (lp (fpX4_next_l8) FU M1).bind fun r6 =>
 fpX4_next_b46 r6
set_option maxRecDepth 20000 in
theorem ctX4_next {z : Zt} {M : Me} {Q : Option Value → Me → Prop}   (h : ok (fpX4_next M) (fun a => Q none a)) : EvM (wX, z) mtX4_next 2 41 [.ref 34] M Q := by
  refine evm_of [some (.ref 34)] 0 (by decide +kernel) (Nat.le_of_ble_eq_true rfl) rfl ?_
  unfold fpX4_next at h
  refine e_aload_n dX4_next_0 rfl ?_
  refine e_aload_n dX4_next_1 rfl ?_
  refine e_getI fa_RX4_25 is_X34 dX4_next_2 ?_
  refine e_putI fw_RX4_22 is_X34 dX4_next_5 ?_
  refine lv1 (P := fun M1 => Ev (wX, z) mtX4_next 2 41 8 [some (.ref 34)] [] M1 Q) h (fun M1 h => ?_)
  refine e_forget [some (.ref 34)] (leL_s leL_0) ?_
  refine elX4_next_l8 FU M1 (ok_bnd h (fun r6 h => ?_))
  show Ev (wX, z) mtX4_next 2 41 46 [some (.ref 34)] [] r6 Q
  refine e_forget [some (.ref 34)] (leL_s leL_0) ?_
  exact ebX4_next_b46 r6 h
def fpX4_wordOf (a0 : Int32) : Option (Nat) := (if a0 = (1 : Int32) then
 some 1000
 else
 (if a0 = (2 : Int32) then
 some 1001
 else
 (if a0 = (3 : Int32) then
 some 1002
 else
 (if a0 = (4 : Int32) then
 some 1003
 else
 (if a0 = (5 : Int32) then
 some 1004
 else
 (if a0 = (6 : Int32) then
 some 1005
 else
 some 1006))))))
set_option maxRecDepth 20000 in
theorem ctX4_wordOf {z : Zt} {M : Me} {Q : Option Value → Me → Prop} (a0 : Int32)  (h : ok (fpX4_wordOf a0) (fun a => Q (some (.ref a)) M)) : EvM (wX, z) mtX4_wordOf 0 0 [.int a0] M Q := by
  refine evm_of [some (.int a0)] 0 (by decide +kernel) (Nat.le_of_ble_eq_true rfl) rfl ?_
  unfold fpX4_wordOf at h
  refine e_iload_n dX4_wordOf_0 rfl ?_
  by_cases c1 : a0 = (1 : Int32)
  · refine e_tswC (1 : Int32) 40 c1 dX4_wordOf_1 (by decide) (by decide) rfl (by decide) ?_
    have h := ok_t c1 h
    refine e_ldcS 0 (r' := 1000) rfl dX4_wordOf_40 rfl rfl ?_
    have h := ok_some h
    exact e_aret rfl dX4_wordOf_42 h
  · have h := ok_f c1 h
    by_cases c2 : a0 = (2 : Int32)
    · refine e_tswC (2 : Int32) 43 c2 dX4_wordOf_1 (by decide) (by decide) rfl (by decide) ?_
      have h := ok_t c2 h
      refine e_ldcS 1 (r' := 1001) rfl dX4_wordOf_43 rfl rfl ?_
      have h := ok_some h
      exact e_aret rfl dX4_wordOf_45 h
    · have h := ok_f c2 h
      by_cases c3 : a0 = (3 : Int32)
      · refine e_tswC (3 : Int32) 46 c3 dX4_wordOf_1 (by decide) (by decide) rfl (by decide) ?_
        have h := ok_t c3 h
        refine e_ldcS 2 (r' := 1002) rfl dX4_wordOf_46 rfl rfl ?_
        have h := ok_some h
        exact e_aret rfl dX4_wordOf_48 h
      · have h := ok_f c3 h
        by_cases c4 : a0 = (4 : Int32)
        · refine e_tswC (4 : Int32) 49 c4 dX4_wordOf_1 (by decide) (by decide) rfl (by decide) ?_
          have h := ok_t c4 h
          refine e_ldcS 3 (r' := 1003) rfl dX4_wordOf_49 rfl rfl ?_
          have h := ok_some h
          exact e_aret rfl dX4_wordOf_51 h
        · have h := ok_f c4 h
          by_cases c5 : a0 = (5 : Int32)
          · refine e_tswC (5 : Int32) 52 c5 dX4_wordOf_1 (by decide) (by decide) rfl (by decide) ?_
            have h := ok_t c5 h
            refine e_ldcS 4 (r' := 1004) rfl dX4_wordOf_52 rfl rfl ?_
            have h := ok_some h
            exact e_aret rfl dX4_wordOf_54 h
          · have h := ok_f c5 h
            by_cases c6 : a0 = (6 : Int32)
            · refine e_tswC (6 : Int32) 55 c6 dX4_wordOf_1 (by decide) (by decide) rfl (by decide) ?_
              have h := ok_t c6 h
              refine e_ldcS 5 (r' := 1005) rfl dX4_wordOf_55 rfl rfl ?_
              have h := ok_some h
              exact e_aret rfl dX4_wordOf_57 h
            · have h := ok_f c6 h
              refine e_tswD 58 dX4_wordOf_1 (by have q0 := lv_neT (a := 1) c1 rfl; have q1 := lv_neT (a := 2) c2 rfl; have q2 := lv_neT (a := 3) c3 rfl; have q3 := lv_neT (a := 4) c4 rfl; have q4 := lv_neT (a := 5) c5 rfl; have q5 := lv_neT (a := 6) c6 rfl; omega) (by decide) ?_
              refine e_ldcS 6 (r' := 1006) rfl dX4_wordOf_58 rfl rfl ?_
              have h := ok_some h
              exact e_aret rfl dX4_wordOf_60 h
theorem sr_word {a : Int32} {v : Nat} (h : fpX4_wordOf a = some v) : Sr v := by
  unfold fpX4_wordOf at h
  (repeat' split at h) <;> (cases h; first | exact sr_of 0 (by decide) | exact sr_of 1 (by decide) | exact sr_of 2 (by decide) | exact sr_of 3 (by decide) | exact sr_of 4 (by decide) | exact sr_of 5 (by decide) | exact sr_of 6 (by decide))
def XX4_isWord_27 (z : Zt) (a1 : Nat) (M : Me) (Q : Option Value → Me → Prop) : ((Unit) ⊕ (Int32)) → Prop := Sum.elim (fun t => Ev (wX, z) mtX4_isWord 4 85 62 [none, none, none] [] M Q) (fun v => Q (some (.int v)) M)
def EX4_isWord_27 (z : Zt) (a1 : Nat) (M : Me) (Q : Option Value → Me → Prop) : (Int32) → Prop := fun s => Ev (wX, z) mtX4_isWord 4 85 27 [some (.ref 34), some (.ref a1), some (.int s)] [] M Q
def GX4_isWord_27 (z : Zt) (a1 : Nat) (M : Me) (Q : Option Value → Me → Prop) : (Int32) ⊕ ((Unit) ⊕ (Int32)) → Prop := Sum.elim (EX4_isWord_27 z a1 M Q) (XX4_isWord_27 z a1 M Q)
def fpX4_isWord_l27s (a1 : Nat) (a2 : Int32) (M : Me) : Option ((Int32) ⊕ ((Unit) ⊕ (Int32))) := (if (jslen a1) ≤ a2 then
 some (.inr (.inl ()))
 else
 (inb ((M.1 34 3) + a2) 120).bind fun k4 =>
 (inb a2 (jsl a1)).bind fun k5 =>
 (if (M.1 35 k4) = (jschr a1 k5) then
 letv (a2 + (1 : Int32)) fun v7 =>
 some (.inl v7)
 else
 some (.inr (.inr (0 : Int32)))))
def fpX4_isWord_l27 (a1 : Nat) (M : Me) (s : Int32) : Option ((Int32) ⊕ ((Unit) ⊕ (Int32))) := fpX4_isWord_l27s a1 s M
set_option maxRecDepth 20000 in
theorem ebX4_isWord_l27s {z : Zt} {Q : Option Value → Me → Prop} (a1 : Nat) (ha1 : Sr a1) (a2 : Int32) (M : Me) (h : ok (fpX4_isWord_l27s a1 a2 M) (GX4_isWord_27 z a1 M Q)) : Ev (wX, z) mtX4_isWord 4 85 27 [some (.ref 34), some (.ref a1), some (.int a2)] [] M Q := by
  unfold fpX4_isWord_l27s at h
  refine e_iload_n dX4_isWord_27 rfl ?_
  refine e_aload_n dX4_isWord_28 rfl ?_
  refine e_callStr (f2 := 1) (l2 := 20) (ν := mtJ0_length_8abf5) (as := []) cv_RX4_107 ha1 ⟨Nat.le_of_ble_eq_true rfl, Nat.le_of_ble_eq_true rfl⟩ rfl rfl (Nat.le_of_ble_eq_true rfl) dX4_isWord_29 rfl ?_
  refine ctS_length ha1 ?_
  show Ev (wX, z) mtX4_isWord 4 85 32 [some (.ref 34), some (.ref a1), some (.int a2)] [.int (jslen a1), .int a2] M Q
  refine e_icmp_ge 62 dX4_isWord_32 (by decide) (fun c3 => ?_) (fun c3 => ?_)
  · have h := ok_t c3 h
    refine e_forget [none, none, none] (leL_n (leL_n (leL_n leL_0))) ?_
    have h := ok_some h
    exact h
  · have h := ok_f c3 h
    refine e_aload_n dX4_isWord_35 rfl ?_
    refine e_getR fa_RX4_9 is_X34 rfl dX4_isWord_36 ?_
    refine e_aload_n dX4_isWord_39 rfl ?_
    refine e_getI fa_RX4_22 is_X34 dX4_isWord_40 ?_
    refine e_iload_n dX4_isWord_43 rfl ?_
    refine e_iadd dX4_isWord_44 ?_
    refine ok_inb h (fun k4 ek4 ik4 h => ?_)
    refine e_ialdK ia_X35 ik4 ek4 dX4_isWord_45 ?_
    refine e_aload_n dX4_isWord_46 rfl ?_
    refine e_iload_n dX4_isWord_47 rfl ?_
    refine ok_inb h (fun k5 ek5 ik5 h => ?_)
    refine e_callStr (f2 := 3) (l2 := 64) (ν := mtJ0_charAt_5068e) (as := [.int a2]) cv_RX4_111 ha1 ⟨Nat.le_of_ble_eq_true rfl, Nat.le_of_ble_eq_true rfl⟩ rfl rfl (Nat.le_of_ble_eq_true rfl) dX4_isWord_48 rfl ?_
    refine ctS_charAt ha1 ik5 ek5 ?_
    show Ev (wX, z) mtX4_isWord 4 85 51 [some (.ref 34), some (.ref a1), some (.int a2)] [.int (jschr a1 k5), .int (M.1 35 k4)] M Q
    refine e_icmp_eq 56 dX4_isWord_51 (by decide) (fun c6 => ?_) (fun c6 => ?_)
    · have h := ok_t c6 h
      refine lv1e h (fun v7 ev7 h => ?_)
      refine e_iinc v7 dX4_isWord_56 rfl ev7 (by decide) rfl ?_
      refine e_goto 27 dX4_isWord_59 (by decide) ?_
      refine e_forget [some (.ref 34), some (.ref a1), some (.int v7)] (leL_s (leL_s (leL_s leL_0))) ?_
      have h := ok_some h
      exact h
    · have h := ok_f c6 h
      refine e_iconst (0 : Int32) dX4_isWord_54 (by decide) ?_
      have h := ok_some h
      exact e_zret rfl (Or.inl rfl) dX4_isWord_55 h
theorem elX4_isWord_l27 {z : Zt} {Q : Option Value → Me → Prop} (a1 : Nat) (ha1 : Sr a1) (M : Me) (N : Nat) (s : Int32) (h : ok (lp (fpX4_isWord_l27 a1 M) N s) (XX4_isWord_27 z a1 M Q)) : EX4_isWord_27 z a1 M Q s :=
  lp_ind (fun s h => ebX4_isWord_l27s a1 ha1 s M h) N s h
def fpX4_isWord (a1 : Nat) (M : Me) : Option (Int32) := (if (M.1 34 2) = 0 then
 (if ((M.1 34 4) - (M.1 34 3)) = (jslen a1) then
 (lp (fpX4_isWord_l27 a1 M) FU (0 : Int32)).bind fun r8 => Sum.elim (fun t9 =>
 some (1 : Int32)) (fun u10 => some u10) r8
 else
 some (0 : Int32))
 else
 some (0 : Int32))
set_option maxRecDepth 20000 in
theorem ctX4_isWord {z : Zt} {M : Me} {Q : Option Value → Me → Prop} (a1 : Nat) (ha1 : Sr a1) (h : ok (fpX4_isWord a1 M) (fun a => Q (some (.int a)) M)) : EvM (wX, z) mtX4_isWord 4 85 [.ref 34, .ref a1] M Q := by
  refine evm_of [some (.ref 34), some (.ref a1), none] 1 (by decide +kernel) (Nat.le_of_ble_eq_true rfl) rfl ?_
  unfold fpX4_isWord at h
  refine e_aload_n dX4_isWord_0 rfl ?_
  refine e_getI fa_RX4_19 is_X34 dX4_isWord_1 ?_
  refine e_if_ne 23 dX4_isWord_4 (by decide) (fun c1 => ?_) (fun c1 => ?_)
  · have h := ok_f c1 h
    refine e_iconst (0 : Int32) dX4_isWord_23 (by decide) ?_
    have h := ok_some h
    exact e_zret rfl (Or.inl rfl) dX4_isWord_24 h
  · have h := ok_t c1 h
    refine e_aload_n dX4_isWord_7 rfl ?_
    refine e_getI fa_RX4_25 is_X34 dX4_isWord_8 ?_
    refine e_aload_n dX4_isWord_11 rfl ?_
    refine e_getI fa_RX4_22 is_X34 dX4_isWord_12 ?_
    refine e_isub dX4_isWord_15 ?_
    refine e_aload_n dX4_isWord_16 rfl ?_
    refine e_callStr (f2 := 1) (l2 := 20) (ν := mtJ0_length_8abf5) (as := []) cv_RX4_107 ha1 ⟨Nat.le_of_ble_eq_true rfl, Nat.le_of_ble_eq_true rfl⟩ rfl rfl (Nat.le_of_ble_eq_true rfl) dX4_isWord_17 rfl ?_
    refine ctS_length ha1 ?_
    show Ev (wX, z) mtX4_isWord 4 85 20 [some (.ref 34), some (.ref a1), none] [.int (jslen a1), .int ((M.1 34 4) - (M.1 34 3))] M Q
    refine e_icmp_eq 25 dX4_isWord_20 (by decide) (fun c2 => ?_) (fun c2 => ?_)
    · have h := ok_t c2 h
      refine e_iconst (0 : Int32) dX4_isWord_25 (by decide) ?_
      refine e_istore_n dX4_isWord_26 (by decide) rfl ?_
      refine e_forget [some (.ref 34), some (.ref a1), some (.int (0 : Int32))] (leL_s (leL_s (leL_s leL_0))) ?_
      refine elX4_isWord_l27 a1 ha1 M FU (0 : Int32) (ok_bnd h (fun r8 h => ?_))
      rcases r8 with t9 | u10
      · show Ev (wX, z) mtX4_isWord 4 85 62 [none, none, none] [] M Q
        refine e_iconst (1 : Int32) dX4_isWord_62 (by decide) ?_
        have h := ok_some h
        exact e_zret rfl (Or.inr rfl) dX4_isWord_63 h
      · have h := ok_some h
        exact h
    · have h := ok_f c2 h
      refine e_iconst (0 : Int32) dX4_isWord_23 (by decide) ?_
      have h := ok_some h
      exact e_zret rfl (Or.inl rfl) dX4_isWord_24 h
def XX4_kindTold_2 (z : Zt) (M : Me) (Q : Option Value → Me → Prop) : ((Unit) ⊕ (Int32)) → Prop := Sum.elim (fun t => Ev (wX, z) mtX4_kindTold 5 107 27 [none, none] [] M Q) (fun v => Q (some (.int v)) M)
def EX4_kindTold_2 (z : Zt) (M : Me) (Q : Option Value → Me → Prop) : (Int32) → Prop := fun s => Ev (wX, z) mtX4_kindTold 5 107 2 [some (.ref 34), some (.int s)] [] M Q
def GX4_kindTold_2 (z : Zt) (M : Me) (Q : Option Value → Me → Prop) : (Int32) ⊕ ((Unit) ⊕ (Int32)) → Prop := Sum.elim (EX4_kindTold_2 z M Q) (XX4_kindTold_2 z M Q)
def fpX4_kindTold_l2s (a1 : Int32) (M : Me) : Option ((Int32) ⊕ ((Unit) ⊕ (Int32))) := (if (6 : Int32) < a1 then
 some (.inr (.inl ()))
 else
 (fpX4_wordOf a1).bind fun v2 =>
 (fpX4_isWord v2 M).bind fun v3 =>
 (if v3 = 0 then
 letv (a1 + (1 : Int32)) fun v5 =>
 some (.inl v5)
 else
 some (.inr (.inr a1))))
def fpX4_kindTold_l2 (M : Me) (s : Int32) : Option ((Int32) ⊕ ((Unit) ⊕ (Int32))) := fpX4_kindTold_l2s s M
set_option maxRecDepth 20000 in
theorem ebX4_kindTold_l2s {z : Zt} {Q : Option Value → Me → Prop} (a1 : Int32) (M : Me) (h : ok (fpX4_kindTold_l2s a1 M) (GX4_kindTold_2 z M Q)) : Ev (wX, z) mtX4_kindTold 5 107 2 [some (.ref 34), some (.int a1)] [] M Q := by
  unfold fpX4_kindTold_l2s at h
  refine e_iload_n dX4_kindTold_2 rfl ?_
  refine e_bipush (6 : Int32) dX4_kindTold_3 (by decide) ?_
  refine e_icmp_gt 27 dX4_kindTold_5 (by decide) (fun c1 => ?_) (fun c1 => ?_)
  · have h := ok_t c1 h
    refine e_forget [none, none] (leL_n (leL_n leL_0)) ?_
    have h := ok_some h
    exact h
  · have h := ok_f c1 h
    refine e_aload_n dX4_kindTold_8 rfl ?_
    refine e_iload_n dX4_kindTold_9 rfl ?_
    refine e_callS (f2 := 0) (l2 := 0) (ν := mtX4_wordOf) (as := [.int a1]) cs_RX4_89 ⟨Nat.le_of_ble_eq_true rfl, Nat.le_of_ble_eq_true rfl⟩ rfl rfl (Nat.le_of_ble_eq_true rfl) dX4_kindTold_10 ?_
    refine ctX4_wordOf a1 (ok_bndE h (fun v2 hv2 h => ?_))
    show Ev (wX, z) mtX4_kindTold 5 107 13 [some (.ref 34), some (.int a1)] [.ref v2, .ref 34] M Q
    refine e_callV (f2 := 4) (l2 := 85) (ν := mtX4_isWord) (as := [.ref v2]) cv_RX4_54 is_X34 kc_4 ⟨Nat.le_of_ble_eq_true rfl, Nat.le_of_ble_eq_true rfl⟩ rfl rfl (Nat.le_of_ble_eq_true rfl) dX4_kindTold_13 ?_
    refine ctX4_isWord v2 (sr_word hv2) (ok_bnd h (fun v3 h => ?_))
    show Ev (wX, z) mtX4_kindTold 5 107 16 [some (.ref 34), some (.int a1)] [.int v3] M Q
    refine e_if_eq 21 dX4_kindTold_16 (by decide) (fun c4 => ?_) (fun c4 => ?_)
    · have h := ok_t c4 h
      refine lv1e h (fun v5 ev5 h => ?_)
      refine e_iinc v5 dX4_kindTold_21 rfl ev5 (by decide) rfl ?_
      refine e_goto 2 dX4_kindTold_24 (by decide) ?_
      refine e_forget [some (.ref 34), some (.int v5)] (leL_s (leL_s leL_0)) ?_
      have h := ok_some h
      exact h
    · have h := ok_f c4 h
      refine e_iload_n dX4_kindTold_19 rfl ?_
      have h := ok_some h
      exact e_iret rfl dX4_kindTold_20 h
theorem elX4_kindTold_l2 {z : Zt} {Q : Option Value → Me → Prop} (M : Me) (N : Nat) (s : Int32) (h : ok (lp (fpX4_kindTold_l2 M) N s) (XX4_kindTold_2 z M Q)) : EX4_kindTold_2 z M Q s :=
  lp_ind (fun s h => ebX4_kindTold_l2s s M h) N s h
def fpX4_kindTold  (M : Me) : Option (Int32) := (lp (fpX4_kindTold_l2 M) FU (0 : Int32)).bind fun r6 => Sum.elim (fun t7 =>
 some (-1 : Int32)) (fun u8 => some u8) r6
set_option maxRecDepth 20000 in
theorem ctX4_kindTold {z : Zt} {M : Me} {Q : Option Value → Me → Prop}   (h : ok (fpX4_kindTold M) (fun a => Q (some (.int a)) M)) : EvM (wX, z) mtX4_kindTold 5 107 [.ref 34] M Q := by
  refine evm_of [some (.ref 34), none] 1 (by decide +kernel) (Nat.le_of_ble_eq_true rfl) rfl ?_
  unfold fpX4_kindTold at h
  refine e_iconst (0 : Int32) dX4_kindTold_0 (by decide) ?_
  refine e_istore_n dX4_kindTold_1 (by decide) rfl ?_
  refine e_forget [some (.ref 34), some (.int (0 : Int32))] (leL_s (leL_s leL_0)) ?_
  refine elX4_kindTold_l2 M FU (0 : Int32) (ok_bnd h (fun r6 h => ?_))
  rcases r6 with t7 | u8
  · show Ev (wX, z) mtX4_kindTold 5 107 27 [none, none] [] M Q
    refine e_iconst (-1 : Int32) dX4_kindTold_27 (by decide) ?_
    have h := ok_some h
    exact e_iret rfl dX4_kindTold_28 h
  · have h := ok_some h
    exact h
def fpX4_readNumber (a1 : Int32) (a2 : Int32) (M : Me) : Option (Int32 × Me) := (fpX4_next M).bind fun q1 =>
 (if (q1.1 34 2) = (1 : Int32) then
 (if (q1.1 34 5) < a1 then
 some ((0 : Int32), q1)
 else
 (if a2 < (q1.1 34 5) then
 some ((0 : Int32), q1)
 else
 some ((1 : Int32), q1)))
 else
 some ((0 : Int32), q1))
set_option maxRecDepth 20000 in
theorem ctX4_readNumber {z : Zt} {M : Me} {Q : Option Value → Me → Prop} (a1 : Int32) (a2 : Int32)  (h : ok (fpX4_readNumber a1 a2 M) (fun a => Q (some (.int a.1)) a.2)) : EvM (wX, z) mtX4_readNumber 3 61 [.ref 34, .int a1, .int a2] M Q := by
  refine evm_of [some (.ref 34), some (.int a1), some (.int a2)] 0 (by decide +kernel) (Nat.le_of_ble_eq_true rfl) rfl ?_
  unfold fpX4_readNumber at h
  refine e_aload_n dX4_readNumber_0 rfl ?_
  refine e_callV (f2 := 2) (l2 := 41) (ν := mtX4_next) (as := []) cv_RX4_31 is_X34 kc_4 ⟨Nat.le_of_ble_eq_true rfl, Nat.le_of_ble_eq_true rfl⟩ rfl rfl (Nat.le_of_ble_eq_true rfl) dX4_readNumber_1 ?_
  refine ctX4_next (ok_bnd h (fun q1 h => ?_))
  show Ev (wX, z) mtX4_readNumber 3 61 4 [some (.ref 34), some (.int a1), some (.int a2)] [] q1 Q
  refine e_aload_n dX4_readNumber_4 rfl ?_
  refine e_getI fa_RX4_19 is_X34 dX4_readNumber_5 ?_
  refine e_iconst (1 : Int32) dX4_readNumber_8 (by decide) ?_
  refine e_icmp_ne 32 dX4_readNumber_9 (by decide) (fun c2 => ?_) (fun c2 => ?_)
  · have h := ok_f c2 h
    refine e_iconst (0 : Int32) dX4_readNumber_32 (by decide) ?_
    have h := ok_some h
    exact e_zret rfl (Or.inl rfl) dX4_readNumber_33 h
  · have h := ok_t c2 h
    refine e_aload_n dX4_readNumber_12 rfl ?_
    refine e_getI fa_RX4_28 is_X34 dX4_readNumber_13 ?_
    refine e_iload_n dX4_readNumber_16 rfl ?_
    refine e_icmp_lt 32 dX4_readNumber_17 (by decide) (fun c3 => ?_) (fun c3 => ?_)
    · have h := ok_t c3 h
      refine e_iconst (0 : Int32) dX4_readNumber_32 (by decide) ?_
      have h := ok_some h
      exact e_zret rfl (Or.inl rfl) dX4_readNumber_33 h
    · have h := ok_f c3 h
      refine e_aload_n dX4_readNumber_20 rfl ?_
      refine e_getI fa_RX4_28 is_X34 dX4_readNumber_21 ?_
      refine e_iload_n dX4_readNumber_24 rfl ?_
      refine e_icmp_gt 32 dX4_readNumber_25 (by decide) (fun c4 => ?_) (fun c4 => ?_)
      · have h := ok_t c4 h
        refine e_iconst (0 : Int32) dX4_readNumber_32 (by decide) ?_
        have h := ok_some h
        exact e_zret rfl (Or.inl rfl) dX4_readNumber_33 h
      · have h := ok_f c4 h
        refine e_iconst (1 : Int32) dX4_readNumber_28 (by decide) ?_
        refine e_goto 33 dX4_readNumber_29 (by decide) ?_
        have h := ok_some h
        exact e_zret rfl (Or.inr rfl) dX4_readNumber_33 h
def fpX4_readPump_b103 (a1 : Nat) (a2 : Int32) (a3 : Int32) (a4 : Int32) (a5 : Int32) (M : Me) : Option (Int32 × Me) := (fpX2_add a1 a2 a3 a4 a5 M).bind fun q12 =>
 some ((1 : Int32), q12)
set_option maxRecDepth 20000 in
theorem ebX4_readPump_b103 {z : Zt} {Q : Option Value → Me → Prop} (a1 : Nat) (a2 : Int32) (a3 : Int32) (a4 : Int32) (a5 : Int32) (ha1 : Is (wX, z) a1 2) (M : Me) (h : ok (fpX4_readPump_b103 a1 a2 a3 a4 a5 M) (fun a => Q (some (.int a.1)) a.2)) : Ev (wX, z) mtX4_readPump 5 107 103 [none, some (.ref a1), some (.int a2), some (.int a3), some (.int a4), some (.int a5)] [] M Q := by
  unfold fpX4_readPump_b103 at h
  refine e_aload_n dX4_readPump_103 rfl ?_
  refine e_iload_n dX4_readPump_104 rfl ?_
  refine e_iload_n dX4_readPump_105 rfl ?_
  refine e_iload dX4_readPump_106 rfl ?_
  refine e_iload dX4_readPump_108 rfl ?_
  refine e_callV (f2 := 0) (l2 := 0) (ν := mtX2_add) (as := [.int a2, .int a3, .int a4, .int a5]) cv_RX4_85 ha1 kc_2 ⟨Nat.le_of_ble_eq_true rfl, Nat.le_of_ble_eq_true rfl⟩ rfl rfl (Nat.le_of_ble_eq_true rfl) dX4_readPump_110 ?_
  refine ctX2_add a1 a2 a3 a4 a5 ha1 (ok_bnd h (fun q12 h => ?_))
  show Ev (wX, z) mtX4_readPump 5 107 113 [none, some (.ref a1), some (.int a2), some (.int a3), some (.int a4), some (.int a5)] [] q12 Q
  refine e_iconst (1 : Int32) dX4_readPump_113 (by decide) ?_
  have h := ok_some h
  exact e_zret rfl (Or.inr rfl) dX4_readPump_114 h
def fpX4_readPump_b72 (a1 : Nat) (a2 : Int32) (a3 : Int32) (a4 : Int32) (a5 : Int32) (M : Me) : Option (Int32 × Me) := (fpX4_isWord 1009 M).bind fun v10 =>
 (if v10 = 0 then
 fpX4_readPump_b103 a1 a2 a3 a4 a5 M
 else
 (fpX4_readNumber (0 : Int32) (11 : Int32) M).bind fun q13 =>
 (if q13.1 = 0 then
 some ((0 : Int32), q13.2)
 else
 letv (q13.2.1 34 5) fun v15 =>
 (fpX4_next q13.2).bind fun q16 =>
 fpX4_readPump_b103 a1 a2 a3 a4 v15 q16))
set_option maxRecDepth 20000 in
theorem ebX4_readPump_b72 {z : Zt} {Q : Option Value → Me → Prop} (a1 : Nat) (a2 : Int32) (a3 : Int32) (a4 : Int32) (a5 : Int32) (ha1 : Is (wX, z) a1 2) (M : Me) (h : ok (fpX4_readPump_b72 a1 a2 a3 a4 a5 M) (fun a => Q (some (.int a.1)) a.2)) : Ev (wX, z) mtX4_readPump 5 107 72 [some (.ref 34), some (.ref a1), some (.int a2), some (.int a3), some (.int a4), some (.int a5)] [] M Q := by
  unfold fpX4_readPump_b72 at h
  refine e_aload_n dX4_readPump_72 rfl ?_
  refine e_ldcS 9 (r' := 1009) rfl dX4_readPump_73 rfl rfl ?_
  refine e_callV (f2 := 4) (l2 := 85) (ν := mtX4_isWord) (as := [.ref 1009]) cv_RX4_54 is_X34 kc_4 ⟨Nat.le_of_ble_eq_true rfl, Nat.le_of_ble_eq_true rfl⟩ rfl rfl (Nat.le_of_ble_eq_true rfl) dX4_readPump_75 ?_
  refine ctX4_isWord 1009 (sr_of 9 (by decide)) (ok_bnd h (fun v10 h => ?_))
  show Ev (wX, z) mtX4_readPump 5 107 78 [some (.ref 34), some (.ref a1), some (.int a2), some (.int a3), some (.int a4), some (.int a5)] [.int v10] M Q
  refine e_if_eq 103 dX4_readPump_78 (by decide) (fun c11 => ?_) (fun c11 => ?_)
  · have h := ok_t c11 h
    refine e_forget [none, some (.ref a1), some (.int a2), some (.int a3), some (.int a4), some (.int a5)] (leL_n (leL_s (leL_s (leL_s (leL_s (leL_s leL_0)))))) ?_
    exact ebX4_readPump_b103 a1 a2 a3 a4 a5 ha1 M h
  · have h := ok_f c11 h
    refine e_aload_n dX4_readPump_81 rfl ?_
    refine e_iconst (0 : Int32) dX4_readPump_82 (by decide) ?_
    refine e_bipush (11 : Int32) dX4_readPump_83 (by decide) ?_
    refine e_callV (f2 := 3) (l2 := 61) (ν := mtX4_readNumber) (as := [.int (0 : Int32), .int (11 : Int32)]) cv_RX4_61 is_X34 kc_4 ⟨Nat.le_of_ble_eq_true rfl, Nat.le_of_ble_eq_true rfl⟩ rfl rfl (Nat.le_of_ble_eq_true rfl) dX4_readPump_85 ?_
    refine ctX4_readNumber (0 : Int32) (11 : Int32) (ok_bnd h (fun q13 h => ?_))
    show Ev (wX, z) mtX4_readPump 5 107 88 [some (.ref 34), some (.ref a1), some (.int a2), some (.int a3), some (.int a4), some (.int a5)] [.int q13.1] q13.2 Q
    refine e_if_ne 93 dX4_readPump_88 (by decide) (fun c14 => ?_) (fun c14 => ?_)
    · have h := ok_f c14 h
      refine e_aload_n dX4_readPump_93 rfl ?_
      refine e_getI fa_RX4_28 is_X34 dX4_readPump_94 ?_
      refine lv1 (P := fun v15 => Ev (wX, z) mtX4_readPump 5 107 97 [some (.ref 34), some (.ref a1), some (.int a2), some (.int a3), some (.int a4), some (.int a5)] [.int v15] q13.2 Q) h (fun v15 h => ?_)
      refine e_istore dX4_readPump_97 (by decide) rfl ?_
      refine e_aload_n dX4_readPump_99 rfl ?_
      refine e_callV (f2 := 2) (l2 := 41) (ν := mtX4_next) (as := []) cv_RX4_31 is_X34 kc_4 ⟨Nat.le_of_ble_eq_true rfl, Nat.le_of_ble_eq_true rfl⟩ rfl rfl (Nat.le_of_ble_eq_true rfl) dX4_readPump_100 ?_
      refine ctX4_next (ok_bnd h (fun q16 h => ?_))
      show Ev (wX, z) mtX4_readPump 5 107 103 [some (.ref 34), some (.ref a1), some (.int a2), some (.int a3), some (.int a4), some (.int v15)] [] q16 Q
      refine e_forget [none, some (.ref a1), some (.int a2), some (.int a3), some (.int a4), some (.int v15)] (leL_n (leL_s (leL_s (leL_s (leL_s (leL_s leL_0)))))) ?_
      exact ebX4_readPump_b103 a1 a2 a3 a4 v15 ha1 q16 h
    · have h := ok_t c14 h
      refine e_iconst (0 : Int32) dX4_readPump_91 (by decide) ?_
      have h := ok_some h
      exact e_zret rfl (Or.inl rfl) dX4_readPump_92 h
def fpX4_readPump (a1 : Nat) (a2 : Int32) (M : Me) : Option (Int32 × Me) := (fpX4_next M).bind fun q1 =>
 (fpX4_isWord 1007 q1).bind fun v2 =>
 (if v2 = 0 then
 some ((0 : Int32), q1)
 else
 (fpX4_readNumber (0 : Int32) (99 : Int32) q1).bind fun q4 =>
 (if q4.1 = 0 then
 some ((0 : Int32), q4.2)
 else
 letv (q4.2.1 34 5) fun v6 =>
 (fpX4_next q4.2).bind fun q7 =>
 (fpX4_isWord 1008 q7).bind fun v8 =>
 (if v8 = 0 then
 fpX4_readPump_b72 a1 a2 v6 (9 : Int32) (0 : Int32) q7
 else
 (fpX4_readNumber (1 : Int32) (60 : Int32) q7).bind fun q17 =>
 (if q17.1 = 0 then
 some ((0 : Int32), q17.2)
 else
 letv (q17.2.1 34 5) fun v19 =>
 (fpX4_next q17.2).bind fun q20 =>
 fpX4_readPump_b72 a1 a2 v6 v19 (0 : Int32) q20))))
set_option maxRecDepth 20000 in
theorem ctX4_readPump {z : Zt} {M : Me} {Q : Option Value → Me → Prop} (a1 : Nat) (a2 : Int32) (ha1 : Is (wX, z) a1 2) (h : ok (fpX4_readPump a1 a2 M) (fun a => Q (some (.int a.1)) a.2)) : EvM (wX, z) mtX4_readPump 5 107 [.ref 34, .ref a1, .int a2] M Q := by
  refine evm_of [some (.ref 34), some (.ref a1), some (.int a2), none, none, none] 3 (by decide +kernel) (Nat.le_of_ble_eq_true rfl) rfl ?_
  unfold fpX4_readPump at h
  refine e_aload_n dX4_readPump_0 rfl ?_
  refine e_callV (f2 := 2) (l2 := 41) (ν := mtX4_next) (as := []) cv_RX4_31 is_X34 kc_4 ⟨Nat.le_of_ble_eq_true rfl, Nat.le_of_ble_eq_true rfl⟩ rfl rfl (Nat.le_of_ble_eq_true rfl) dX4_readPump_1 ?_
  refine ctX4_next (ok_bnd h (fun q1 h => ?_))
  show Ev (wX, z) mtX4_readPump 5 107 4 [some (.ref 34), some (.ref a1), some (.int a2), none, none, none] [] q1 Q
  refine e_aload_n dX4_readPump_4 rfl ?_
  refine e_ldcS 7 (r' := 1007) rfl dX4_readPump_5 rfl rfl ?_
  refine e_callV (f2 := 4) (l2 := 85) (ν := mtX4_isWord) (as := [.ref 1007]) cv_RX4_54 is_X34 kc_4 ⟨Nat.le_of_ble_eq_true rfl, Nat.le_of_ble_eq_true rfl⟩ rfl rfl (Nat.le_of_ble_eq_true rfl) dX4_readPump_7 ?_
  refine ctX4_isWord 1007 (sr_of 7 (by decide)) (ok_bnd h (fun v2 h => ?_))
  show Ev (wX, z) mtX4_readPump 5 107 10 [some (.ref 34), some (.ref a1), some (.int a2), none, none, none] [.int v2] q1 Q
  refine e_if_eq 23 dX4_readPump_10 (by decide) (fun c3 => ?_) (fun c3 => ?_)
  · have h := ok_t c3 h
    refine e_iconst (0 : Int32) dX4_readPump_23 (by decide) ?_
    have h := ok_some h
    exact e_zret rfl (Or.inl rfl) dX4_readPump_24 h
  · have h := ok_f c3 h
    refine e_aload_n dX4_readPump_13 rfl ?_
    refine e_iconst (0 : Int32) dX4_readPump_14 (by decide) ?_
    refine e_bipush (99 : Int32) dX4_readPump_15 (by decide) ?_
    refine e_callV (f2 := 3) (l2 := 61) (ν := mtX4_readNumber) (as := [.int (0 : Int32), .int (99 : Int32)]) cv_RX4_61 is_X34 kc_4 ⟨Nat.le_of_ble_eq_true rfl, Nat.le_of_ble_eq_true rfl⟩ rfl rfl (Nat.le_of_ble_eq_true rfl) dX4_readPump_17 ?_
    refine ctX4_readNumber (0 : Int32) (99 : Int32) (ok_bnd h (fun q4 h => ?_))
    show Ev (wX, z) mtX4_readPump 5 107 20 [some (.ref 34), some (.ref a1), some (.int a2), none, none, none] [.int q4.1] q4.2 Q
    refine e_if_ne 25 dX4_readPump_20 (by decide) (fun c5 => ?_) (fun c5 => ?_)
    · have h := ok_f c5 h
      refine e_aload_n dX4_readPump_25 rfl ?_
      refine e_getI fa_RX4_28 is_X34 dX4_readPump_26 ?_
      refine lv1 (P := fun v6 => Ev (wX, z) mtX4_readPump 5 107 29 [some (.ref 34), some (.ref a1), some (.int a2), none, none, none] [.int v6] q4.2 Q) h (fun v6 h => ?_)
      refine e_istore_n dX4_readPump_29 (by decide) rfl ?_
      refine e_bipush (9 : Int32) dX4_readPump_30 (by decide) ?_
      refine e_istore dX4_readPump_32 (by decide) rfl ?_
      refine e_iconst (0 : Int32) dX4_readPump_34 (by decide) ?_
      refine e_istore dX4_readPump_35 (by decide) rfl ?_
      refine e_aload_n dX4_readPump_37 rfl ?_
      refine e_callV (f2 := 2) (l2 := 41) (ν := mtX4_next) (as := []) cv_RX4_31 is_X34 kc_4 ⟨Nat.le_of_ble_eq_true rfl, Nat.le_of_ble_eq_true rfl⟩ rfl rfl (Nat.le_of_ble_eq_true rfl) dX4_readPump_38 ?_
      refine ctX4_next (ok_bnd h (fun q7 h => ?_))
      show Ev (wX, z) mtX4_readPump 5 107 41 [some (.ref 34), some (.ref a1), some (.int a2), some (.int v6), some (.int (9 : Int32)), some (.int (0 : Int32))] [] q7 Q
      refine e_aload_n dX4_readPump_41 rfl ?_
      refine e_ldcS 8 (r' := 1008) rfl dX4_readPump_42 rfl rfl ?_
      refine e_callV (f2 := 4) (l2 := 85) (ν := mtX4_isWord) (as := [.ref 1008]) cv_RX4_54 is_X34 kc_4 ⟨Nat.le_of_ble_eq_true rfl, Nat.le_of_ble_eq_true rfl⟩ rfl rfl (Nat.le_of_ble_eq_true rfl) dX4_readPump_44 ?_
      refine ctX4_isWord 1008 (sr_of 8 (by decide)) (ok_bnd h (fun v8 h => ?_))
      show Ev (wX, z) mtX4_readPump 5 107 47 [some (.ref 34), some (.ref a1), some (.int a2), some (.int v6), some (.int (9 : Int32)), some (.int (0 : Int32))] [.int v8] q7 Q
      refine e_if_eq 72 dX4_readPump_47 (by decide) (fun c9 => ?_) (fun c9 => ?_)
      · have h := ok_t c9 h
        refine e_forget [some (.ref 34), some (.ref a1), some (.int a2), some (.int v6), some (.int (9 : Int32)), some (.int (0 : Int32))] (leL_s (leL_s (leL_s (leL_s (leL_s (leL_s leL_0)))))) ?_
        exact ebX4_readPump_b72 a1 a2 v6 (9 : Int32) (0 : Int32) ha1 q7 h
      · have h := ok_f c9 h
        refine e_aload_n dX4_readPump_50 rfl ?_
        refine e_iconst (1 : Int32) dX4_readPump_51 (by decide) ?_
        refine e_bipush (60 : Int32) dX4_readPump_52 (by decide) ?_
        refine e_callV (f2 := 3) (l2 := 61) (ν := mtX4_readNumber) (as := [.int (1 : Int32), .int (60 : Int32)]) cv_RX4_61 is_X34 kc_4 ⟨Nat.le_of_ble_eq_true rfl, Nat.le_of_ble_eq_true rfl⟩ rfl rfl (Nat.le_of_ble_eq_true rfl) dX4_readPump_54 ?_
        refine ctX4_readNumber (1 : Int32) (60 : Int32) (ok_bnd h (fun q17 h => ?_))
        show Ev (wX, z) mtX4_readPump 5 107 57 [some (.ref 34), some (.ref a1), some (.int a2), some (.int v6), some (.int (9 : Int32)), some (.int (0 : Int32))] [.int q17.1] q17.2 Q
        refine e_if_ne 62 dX4_readPump_57 (by decide) (fun c18 => ?_) (fun c18 => ?_)
        · have h := ok_f c18 h
          refine e_aload_n dX4_readPump_62 rfl ?_
          refine e_getI fa_RX4_28 is_X34 dX4_readPump_63 ?_
          refine lv1 (P := fun v19 => Ev (wX, z) mtX4_readPump 5 107 66 [some (.ref 34), some (.ref a1), some (.int a2), some (.int v6), some (.int (9 : Int32)), some (.int (0 : Int32))] [.int v19] q17.2 Q) h (fun v19 h => ?_)
          refine e_istore dX4_readPump_66 (by decide) rfl ?_
          refine e_aload_n dX4_readPump_68 rfl ?_
          refine e_callV (f2 := 2) (l2 := 41) (ν := mtX4_next) (as := []) cv_RX4_31 is_X34 kc_4 ⟨Nat.le_of_ble_eq_true rfl, Nat.le_of_ble_eq_true rfl⟩ rfl rfl (Nat.le_of_ble_eq_true rfl) dX4_readPump_69 ?_
          refine ctX4_next (ok_bnd h (fun q20 h => ?_))
          show Ev (wX, z) mtX4_readPump 5 107 72 [some (.ref 34), some (.ref a1), some (.int a2), some (.int v6), some (.int v19), some (.int (0 : Int32))] [] q20 Q
          refine e_forget [some (.ref 34), some (.ref a1), some (.int a2), some (.int v6), some (.int v19), some (.int (0 : Int32))] (leL_s (leL_s (leL_s (leL_s (leL_s (leL_s leL_0)))))) ?_
          exact ebX4_readPump_b72 a1 a2 v6 v19 (0 : Int32) ha1 q20 h
        · have h := ok_t c18 h
          refine e_iconst (0 : Int32) dX4_readPump_60 (by decide) ?_
          have h := ok_some h
          exact e_zret rfl (Or.inl rfl) dX4_readPump_61 h
    · have h := ok_t c5 h
      refine e_iconst (0 : Int32) dX4_readPump_23 (by decide) ?_
      have h := ok_some h
      exact e_zret rfl (Or.inl rfl) dX4_readPump_24 h
def fpX4_readItem (a1 : Nat) (M : Me) : Option (Int32 × Me) := (fpX4_kindTold M).bind fun v1 =>
 (if v1 = (-1 : Int32) then
 (fpX4_isWord 1010 M).bind fun v3 =>
 (if v3 = 0 then
 (fpX4_isWord 1011 M).bind fun v5 =>
 (if v5 = 0 then
 (fpX4_isWord 1012 M).bind fun v7 =>
 (if v7 = 0 then
 (fpX4_isWord 1013 M).bind fun v9 =>
 (if v9 = 0 then
 some ((0 : Int32), M)
 else
 (fpX4_readNumber (0 : Int32) (9 : Int32) M).bind fun q11 =>
 (if q11.1 = 0 then
 some ((0 : Int32), q11.2)
 else
 letv (wrM q11.2 a1 8 (q11.2.1 34 5)) fun M13 =>
 (fpX4_next M13).bind fun q14 =>
 some ((1 : Int32), q14)))
 else
 (fpX4_readNumber (0 : Int32) (M.1 a1 6) M).bind fun q15 =>
 (if q15.1 = 0 then
 some ((0 : Int32), q15.2)
 else
 letv (wrM q15.2 a1 4 (q15.2.1 34 5)) fun M17 =>
 (fpX4_next M17).bind fun q18 =>
 some ((1 : Int32), q18)))
 else
 (fpX4_readNumber (0 : Int32) (99 : Int32) M).bind fun q19 =>
 (if q19.1 = 0 then
 some ((0 : Int32), q19.2)
 else
 letv (wrM q19.2 a1 7 (q19.2.1 34 5)) fun M21 =>
 (fpX4_next M21).bind fun q22 =>
 some ((1 : Int32), q22)))
 else
 (fpX4_readNumber (fpX2_leastRoom a1 M) (999 : Int32) M).bind fun q23 =>
 (if q23.1 = 0 then
 some ((0 : Int32), q23.2)
 else
 letv (wrM q23.2 a1 6 (q23.2.1 34 5)) fun M25 =>
 (fpX4_next M25).bind fun q26 =>
 some ((1 : Int32), q26)))
 else
 (if (fpX2_isFull a1 M) = 0 then
 (fpX4_readPump a1 v1 M).bind fun q28 =>
 (if q28.1 = 0 then
 some ((0 : Int32), q28.2)
 else
 some ((1 : Int32), q28.2))
 else
 some ((0 : Int32), M)))
set_option maxRecDepth 20000 in
theorem ctX4_readItem {z : Zt} {M : Me} {Q : Option Value → Me → Prop} (a1 : Nat) (ha1 : Is (wX, z) a1 2) (h : ok (fpX4_readItem a1 M) (fun a => Q (some (.int a.1)) a.2)) : EvM (wX, z) mtX4_readItem 6 132 [.ref 34, .ref a1] M Q := by
  refine evm_of [some (.ref 34), some (.ref a1), none] 1 (by decide +kernel) (Nat.le_of_ble_eq_true rfl) rfl ?_
  unfold fpX4_readItem at h
  refine e_aload_n dX4_readItem_0 rfl ?_
  refine e_callV (f2 := 5) (l2 := 107) (ν := mtX4_kindTold) (as := []) cv_RX4_38 is_X34 kc_4 ⟨Nat.le_of_ble_eq_true rfl, Nat.le_of_ble_eq_true rfl⟩ rfl rfl (Nat.le_of_ble_eq_true rfl) dX4_readItem_1 ?_
  refine ctX4_kindTold (ok_bnd h (fun v1 h => ?_))
  show Ev (wX, z) mtX4_readItem 6 132 4 [some (.ref 34), some (.ref a1), none] [.int v1] M Q
  refine e_istore_n dX4_readItem_4 (by decide) rfl ?_
  refine e_iload_n dX4_readItem_5 rfl ?_
  refine e_iconst (-1 : Int32) dX4_readItem_6 (by decide) ?_
  refine e_icmp_eq 32 dX4_readItem_7 (by decide) (fun c2 => ?_) (fun c2 => ?_)
  · have h := ok_t c2 h
    refine e_aload_n dX4_readItem_32 rfl ?_
    refine e_ldcS 10 (r' := 1010) rfl dX4_readItem_33 rfl rfl ?_
    refine e_callV (f2 := 4) (l2 := 85) (ν := mtX4_isWord) (as := [.ref 1010]) cv_RX4_54 is_X34 kc_4 ⟨Nat.le_of_ble_eq_true rfl, Nat.le_of_ble_eq_true rfl⟩ rfl rfl (Nat.le_of_ble_eq_true rfl) dX4_readItem_35 ?_
    refine ctX4_isWord 1010 (sr_of 10 (by decide)) (ok_bnd h (fun v3 h => ?_))
    show Ev (wX, z) mtX4_readItem 6 132 38 [some (.ref 34), some (.ref a1), some (.int v1)] [.int v3] M Q
    refine e_if_eq 68 dX4_readItem_38 (by decide) (fun c4 => ?_) (fun c4 => ?_)
    · have h := ok_t c4 h
      refine e_aload_n dX4_readItem_68 rfl ?_
      refine e_ldcS 11 (r' := 1011) rfl dX4_readItem_69 rfl rfl ?_
      refine e_callV (f2 := 4) (l2 := 85) (ν := mtX4_isWord) (as := [.ref 1011]) cv_RX4_54 is_X34 kc_4 ⟨Nat.le_of_ble_eq_true rfl, Nat.le_of_ble_eq_true rfl⟩ rfl rfl (Nat.le_of_ble_eq_true rfl) dX4_readItem_71 ?_
      refine ctX4_isWord 1011 (sr_of 11 (by decide)) (ok_bnd h (fun v5 h => ?_))
      show Ev (wX, z) mtX4_readItem 6 132 74 [some (.ref 34), some (.ref a1), some (.int v1)] [.int v5] M Q
      refine e_if_eq 100 dX4_readItem_74 (by decide) (fun c6 => ?_) (fun c6 => ?_)
      · have h := ok_t c6 h
        refine e_aload_n dX4_readItem_100 rfl ?_
        refine e_ldcS 12 (r' := 1012) rfl dX4_readItem_101 rfl rfl ?_
        refine e_callV (f2 := 4) (l2 := 85) (ν := mtX4_isWord) (as := [.ref 1012]) cv_RX4_54 is_X34 kc_4 ⟨Nat.le_of_ble_eq_true rfl, Nat.le_of_ble_eq_true rfl⟩ rfl rfl (Nat.le_of_ble_eq_true rfl) dX4_readItem_103 ?_
        refine ctX4_isWord 1012 (sr_of 12 (by decide)) (ok_bnd h (fun v7 h => ?_))
        show Ev (wX, z) mtX4_readItem 6 132 106 [some (.ref 34), some (.ref a1), some (.int v1)] [.int v7] M Q
        refine e_if_eq 134 dX4_readItem_106 (by decide) (fun c8 => ?_) (fun c8 => ?_)
        · have h := ok_t c8 h
          refine e_aload_n dX4_readItem_134 rfl ?_
          refine e_ldcS 13 (r' := 1013) rfl dX4_readItem_135 rfl rfl ?_
          refine e_callV (f2 := 4) (l2 := 85) (ν := mtX4_isWord) (as := [.ref 1013]) cv_RX4_54 is_X34 kc_4 ⟨Nat.le_of_ble_eq_true rfl, Nat.le_of_ble_eq_true rfl⟩ rfl rfl (Nat.le_of_ble_eq_true rfl) dX4_readItem_137 ?_
          refine ctX4_isWord 1013 (sr_of 13 (by decide)) (ok_bnd h (fun v9 h => ?_))
          show Ev (wX, z) mtX4_readItem 6 132 140 [some (.ref 34), some (.ref a1), some (.int v1)] [.int v9] M Q
          refine e_if_eq 166 dX4_readItem_140 (by decide) (fun c10 => ?_) (fun c10 => ?_)
          · have h := ok_t c10 h
            refine e_iconst (0 : Int32) dX4_readItem_166 (by decide) ?_
            have h := ok_some h
            exact e_zret rfl (Or.inl rfl) dX4_readItem_167 h
          · have h := ok_f c10 h
            refine e_aload_n dX4_readItem_143 rfl ?_
            refine e_iconst (0 : Int32) dX4_readItem_144 (by decide) ?_
            refine e_bipush (9 : Int32) dX4_readItem_145 (by decide) ?_
            refine e_callV (f2 := 3) (l2 := 61) (ν := mtX4_readNumber) (as := [.int (0 : Int32), .int (9 : Int32)]) cv_RX4_61 is_X34 kc_4 ⟨Nat.le_of_ble_eq_true rfl, Nat.le_of_ble_eq_true rfl⟩ rfl rfl (Nat.le_of_ble_eq_true rfl) dX4_readItem_147 ?_
            refine ctX4_readNumber (0 : Int32) (9 : Int32) (ok_bnd h (fun q11 h => ?_))
            show Ev (wX, z) mtX4_readItem 6 132 150 [some (.ref 34), some (.ref a1), some (.int v1)] [.int q11.1] q11.2 Q
            refine e_if_ne 155 dX4_readItem_150 (by decide) (fun c12 => ?_) (fun c12 => ?_)
            · have h := ok_f c12 h
              refine e_aload_n dX4_readItem_155 rfl ?_
              refine e_aload_n dX4_readItem_156 rfl ?_
              refine e_getI fa_RX4_28 is_X34 dX4_readItem_157 ?_
              refine e_putI fw_RX4_77 ha1 dX4_readItem_160 ?_
              refine lv1 (P := fun M13 => Ev (wX, z) mtX4_readItem 6 132 163 [some (.ref 34), some (.ref a1), some (.int v1)] [] M13 Q) h (fun M13 h => ?_)
              refine e_goto 168 dX4_readItem_163 (by decide) ?_
              refine e_aload_n dX4_readItem_168 rfl ?_
              refine e_callV (f2 := 2) (l2 := 41) (ν := mtX4_next) (as := []) cv_RX4_31 is_X34 kc_4 ⟨Nat.le_of_ble_eq_true rfl, Nat.le_of_ble_eq_true rfl⟩ rfl rfl (Nat.le_of_ble_eq_true rfl) dX4_readItem_169 ?_
              refine ctX4_next (ok_bnd h (fun q14 h => ?_))
              show Ev (wX, z) mtX4_readItem 6 132 172 [some (.ref 34), some (.ref a1), some (.int v1)] [] q14 Q
              refine e_iconst (1 : Int32) dX4_readItem_172 (by decide) ?_
              have h := ok_some h
              exact e_zret rfl (Or.inr rfl) dX4_readItem_173 h
            · have h := ok_t c12 h
              refine e_iconst (0 : Int32) dX4_readItem_153 (by decide) ?_
              have h := ok_some h
              exact e_zret rfl (Or.inl rfl) dX4_readItem_154 h
        · have h := ok_f c8 h
          refine e_aload_n dX4_readItem_109 rfl ?_
          refine e_iconst (0 : Int32) dX4_readItem_110 (by decide) ?_
          refine e_aload_n dX4_readItem_111 rfl ?_
          refine e_getI fa_RX4_65 ha1 dX4_readItem_112 ?_
          refine e_callV (f2 := 3) (l2 := 61) (ν := mtX4_readNumber) (as := [.int (0 : Int32), .int (M.1 a1 6)]) cv_RX4_61 is_X34 kc_4 ⟨Nat.le_of_ble_eq_true rfl, Nat.le_of_ble_eq_true rfl⟩ rfl rfl (Nat.le_of_ble_eq_true rfl) dX4_readItem_115 ?_
          refine ctX4_readNumber (0 : Int32) (M.1 a1 6) (ok_bnd h (fun q15 h => ?_))
          show Ev (wX, z) mtX4_readItem 6 132 118 [some (.ref 34), some (.ref a1), some (.int v1)] [.int q15.1] q15.2 Q
          refine e_if_ne 123 dX4_readItem_118 (by decide) (fun c16 => ?_) (fun c16 => ?_)
          · have h := ok_f c16 h
            refine e_aload_n dX4_readItem_123 rfl ?_
            refine e_aload_n dX4_readItem_124 rfl ?_
            refine e_getI fa_RX4_28 is_X34 dX4_readItem_125 ?_
            refine e_putI fw_RX4_73 ha1 dX4_readItem_128 ?_
            refine lv1 (P := fun M17 => Ev (wX, z) mtX4_readItem 6 132 131 [some (.ref 34), some (.ref a1), some (.int v1)] [] M17 Q) h (fun M17 h => ?_)
            refine e_goto 168 dX4_readItem_131 (by decide) ?_
            refine e_aload_n dX4_readItem_168 rfl ?_
            refine e_callV (f2 := 2) (l2 := 41) (ν := mtX4_next) (as := []) cv_RX4_31 is_X34 kc_4 ⟨Nat.le_of_ble_eq_true rfl, Nat.le_of_ble_eq_true rfl⟩ rfl rfl (Nat.le_of_ble_eq_true rfl) dX4_readItem_169 ?_
            refine ctX4_next (ok_bnd h (fun q18 h => ?_))
            show Ev (wX, z) mtX4_readItem 6 132 172 [some (.ref 34), some (.ref a1), some (.int v1)] [] q18 Q
            refine e_iconst (1 : Int32) dX4_readItem_172 (by decide) ?_
            have h := ok_some h
            exact e_zret rfl (Or.inr rfl) dX4_readItem_173 h
          · have h := ok_t c16 h
            refine e_iconst (0 : Int32) dX4_readItem_121 (by decide) ?_
            have h := ok_some h
            exact e_zret rfl (Or.inl rfl) dX4_readItem_122 h
      · have h := ok_f c6 h
        refine e_aload_n dX4_readItem_77 rfl ?_
        refine e_iconst (0 : Int32) dX4_readItem_78 (by decide) ?_
        refine e_bipush (99 : Int32) dX4_readItem_79 (by decide) ?_
        refine e_callV (f2 := 3) (l2 := 61) (ν := mtX4_readNumber) (as := [.int (0 : Int32), .int (99 : Int32)]) cv_RX4_61 is_X34 kc_4 ⟨Nat.le_of_ble_eq_true rfl, Nat.le_of_ble_eq_true rfl⟩ rfl rfl (Nat.le_of_ble_eq_true rfl) dX4_readItem_81 ?_
        refine ctX4_readNumber (0 : Int32) (99 : Int32) (ok_bnd h (fun q19 h => ?_))
        show Ev (wX, z) mtX4_readItem 6 132 84 [some (.ref 34), some (.ref a1), some (.int v1)] [.int q19.1] q19.2 Q
        refine e_if_ne 89 dX4_readItem_84 (by decide) (fun c20 => ?_) (fun c20 => ?_)
        · have h := ok_f c20 h
          refine e_aload_n dX4_readItem_89 rfl ?_
          refine e_aload_n dX4_readItem_90 rfl ?_
          refine e_getI fa_RX4_28 is_X34 dX4_readItem_91 ?_
          refine e_putI fw_RX4_69 ha1 dX4_readItem_94 ?_
          refine lv1 (P := fun M21 => Ev (wX, z) mtX4_readItem 6 132 97 [some (.ref 34), some (.ref a1), some (.int v1)] [] M21 Q) h (fun M21 h => ?_)
          refine e_goto 168 dX4_readItem_97 (by decide) ?_
          refine e_aload_n dX4_readItem_168 rfl ?_
          refine e_callV (f2 := 2) (l2 := 41) (ν := mtX4_next) (as := []) cv_RX4_31 is_X34 kc_4 ⟨Nat.le_of_ble_eq_true rfl, Nat.le_of_ble_eq_true rfl⟩ rfl rfl (Nat.le_of_ble_eq_true rfl) dX4_readItem_169 ?_
          refine ctX4_next (ok_bnd h (fun q22 h => ?_))
          show Ev (wX, z) mtX4_readItem 6 132 172 [some (.ref 34), some (.ref a1), some (.int v1)] [] q22 Q
          refine e_iconst (1 : Int32) dX4_readItem_172 (by decide) ?_
          have h := ok_some h
          exact e_zret rfl (Or.inr rfl) dX4_readItem_173 h
        · have h := ok_t c20 h
          refine e_iconst (0 : Int32) dX4_readItem_87 (by decide) ?_
          have h := ok_some h
          exact e_zret rfl (Or.inl rfl) dX4_readItem_88 h
    · have h := ok_f c4 h
      refine e_aload_n dX4_readItem_41 rfl ?_
      refine e_aload_n dX4_readItem_42 rfl ?_
      refine e_callV (f2 := 1) (l2 := 21) (ν := mtX2_leastRoom) (as := []) cv_RX4_58 ha1 kc_2 ⟨Nat.le_of_ble_eq_true rfl, Nat.le_of_ble_eq_true rfl⟩ rfl rfl (Nat.le_of_ble_eq_true rfl) dX4_readItem_43 ?_
      refine ctX2_leastRoom a1 ha1 ?_
      show Ev (wX, z) mtX4_readItem 6 132 46 [some (.ref 34), some (.ref a1), some (.int v1)] [.int (fpX2_leastRoom a1 M), .ref 34] M Q
      refine e_sipush (999 : Int32) dX4_readItem_46 (by decide) ?_
      refine e_callV (f2 := 3) (l2 := 61) (ν := mtX4_readNumber) (as := [.int (fpX2_leastRoom a1 M), .int (999 : Int32)]) cv_RX4_61 is_X34 kc_4 ⟨Nat.le_of_ble_eq_true rfl, Nat.le_of_ble_eq_true rfl⟩ rfl rfl (Nat.le_of_ble_eq_true rfl) dX4_readItem_49 ?_
      refine ctX4_readNumber (fpX2_leastRoom a1 M) (999 : Int32) (ok_bnd h (fun q23 h => ?_))
      show Ev (wX, z) mtX4_readItem 6 132 52 [some (.ref 34), some (.ref a1), some (.int v1)] [.int q23.1] q23.2 Q
      refine e_if_ne 57 dX4_readItem_52 (by decide) (fun c24 => ?_) (fun c24 => ?_)
      · have h := ok_f c24 h
        refine e_aload_n dX4_readItem_57 rfl ?_
        refine e_aload_n dX4_readItem_58 rfl ?_
        refine e_getI fa_RX4_28 is_X34 dX4_readItem_59 ?_
        refine e_putI fw_RX4_65 ha1 dX4_readItem_62 ?_
        refine lv1 (P := fun M25 => Ev (wX, z) mtX4_readItem 6 132 65 [some (.ref 34), some (.ref a1), some (.int v1)] [] M25 Q) h (fun M25 h => ?_)
        refine e_goto 168 dX4_readItem_65 (by decide) ?_
        refine e_aload_n dX4_readItem_168 rfl ?_
        refine e_callV (f2 := 2) (l2 := 41) (ν := mtX4_next) (as := []) cv_RX4_31 is_X34 kc_4 ⟨Nat.le_of_ble_eq_true rfl, Nat.le_of_ble_eq_true rfl⟩ rfl rfl (Nat.le_of_ble_eq_true rfl) dX4_readItem_169 ?_
        refine ctX4_next (ok_bnd h (fun q26 h => ?_))
        show Ev (wX, z) mtX4_readItem 6 132 172 [some (.ref 34), some (.ref a1), some (.int v1)] [] q26 Q
        refine e_iconst (1 : Int32) dX4_readItem_172 (by decide) ?_
        have h := ok_some h
        exact e_zret rfl (Or.inr rfl) dX4_readItem_173 h
      · have h := ok_t c24 h
        refine e_iconst (0 : Int32) dX4_readItem_55 (by decide) ?_
        have h := ok_some h
        exact e_zret rfl (Or.inl rfl) dX4_readItem_56 h
  · have h := ok_f c2 h
    refine e_aload_n dX4_readItem_10 rfl ?_
    refine e_callV (f2 := 0) (l2 := 0) (ν := mtX2_isFull) (as := []) cv_RX4_42 ha1 kc_2 ⟨Nat.le_of_ble_eq_true rfl, Nat.le_of_ble_eq_true rfl⟩ rfl rfl (Nat.le_of_ble_eq_true rfl) dX4_readItem_11 ?_
    refine ctX2_isFull a1 ha1 ?_
    show Ev (wX, z) mtX4_readItem 6 132 14 [some (.ref 34), some (.ref a1), some (.int v1)] [.int (fpX2_isFull a1 M)] M Q
    refine e_if_ne 30 dX4_readItem_14 (by decide) (fun c27 => ?_) (fun c27 => ?_)
    · have h := ok_f c27 h
      refine e_iconst (0 : Int32) dX4_readItem_30 (by decide) ?_
      have h := ok_some h
      exact e_zret rfl (Or.inl rfl) dX4_readItem_31 h
    · have h := ok_t c27 h
      refine e_aload_n dX4_readItem_17 rfl ?_
      refine e_aload_n dX4_readItem_18 rfl ?_
      refine e_iload_n dX4_readItem_19 rfl ?_
      refine e_callV (f2 := 5) (l2 := 107) (ν := mtX4_readPump) (as := [.ref a1, .int v1]) cv_RX4_48 is_X34 kc_4 ⟨Nat.le_of_ble_eq_true rfl, Nat.le_of_ble_eq_true rfl⟩ rfl rfl (Nat.le_of_ble_eq_true rfl) dX4_readItem_20 ?_
      refine ctX4_readPump a1 v1 ha1 (ok_bnd h (fun q28 h => ?_))
      show Ev (wX, z) mtX4_readItem 6 132 23 [some (.ref 34), some (.ref a1), some (.int v1)] [.int q28.1] q28.2 Q
      refine e_if_eq 30 dX4_readItem_23 (by decide) (fun c29 => ?_) (fun c29 => ?_)
      · have h := ok_t c29 h
        refine e_iconst (0 : Int32) dX4_readItem_30 (by decide) ?_
        have h := ok_some h
        exact e_zret rfl (Or.inl rfl) dX4_readItem_31 h
      · have h := ok_f c29 h
        refine e_iconst (1 : Int32) dX4_readItem_26 (by decide) ?_
        refine e_goto 31 dX4_readItem_27 (by decide) ?_
        have h := ok_some h
        exact e_zret rfl (Or.inr rfl) dX4_readItem_31 h
def XX4_readOnto_11 (z : Zt) (a1 : Nat) (Q : Option Value → Me → Prop) : ((Me) ⊕ (Int32 × Me)) → Prop := Sum.elim (fun t => Ev (wX, z) mtX4_readOnto 7 154 67 [some (.ref 34), none, none] [] t Q) (fun v => Q (some (.int v.1)) v.2)
def EX4_readOnto_11 (z : Zt) (a1 : Nat) (Q : Option Value → Me → Prop) : (Int32 × Me) → Prop := fun s => Ev (wX, z) mtX4_readOnto 7 154 11 [some (.ref 34), some (.ref a1), some (.int s.1)] [] s.2 Q
def GX4_readOnto_11 (z : Zt) (a1 : Nat) (Q : Option Value → Me → Prop) : (Int32 × Me) ⊕ ((Me) ⊕ (Int32 × Me)) → Prop := Sum.elim (EX4_readOnto_11 z a1 Q) (XX4_readOnto_11 z a1 Q)
def fpX4_readOnto_l11s (a1 : Nat) (a2 : Int32) (M : Me) : Option ((Int32 × Me) ⊕ ((Me) ⊕ (Int32 × Me))) := (if (120 : Int32) < a2 then
 some (.inr (.inl M))
 else
 (fpX4_readItem a1 M).bind fun q4 =>
 (if q4.1 = 0 then
 some (.inr (.inr (((-1 : Int32) - (q4.2.1 34 3)), q4.2)))
 else
 (if (q4.2.1 34 2) = (3 : Int32) then
 some (.inr (.inr (a2, q4.2)))
 else
 (if (q4.2.1 34 2) = (2 : Int32) then
 (fpX4_next q4.2).bind fun q8 =>
 letv (a2 + (1 : Int32)) fun v9 =>
 some (.inl (v9, q8))
 else
 some (.inr (.inr (((-1 : Int32) - (q4.2.1 34 3)), q4.2)))))))
def fpX4_readOnto_l11 (a1 : Nat) (s : Int32 × Me) : Option ((Int32 × Me) ⊕ ((Me) ⊕ (Int32 × Me))) := fpX4_readOnto_l11s a1 s.1 s.2
set_option maxRecDepth 20000 in
theorem ebX4_readOnto_l11s {z : Zt} {Q : Option Value → Me → Prop} (a1 : Nat) (ha1 : Is (wX, z) a1 2) (a2 : Int32) (M : Me) (h : ok (fpX4_readOnto_l11s a1 a2 M) (GX4_readOnto_11 z a1 Q)) : Ev (wX, z) mtX4_readOnto 7 154 11 [some (.ref 34), some (.ref a1), some (.int a2)] [] M Q := by
  unfold fpX4_readOnto_l11s at h
  refine e_iload_n dX4_readOnto_11 rfl ?_
  refine e_bipush (120 : Int32) dX4_readOnto_12 (by decide) ?_
  refine e_icmp_gt 67 dX4_readOnto_14 (by decide) (fun c3 => ?_) (fun c3 => ?_)
  · have h := ok_t c3 h
    refine e_forget [some (.ref 34), none, none] (leL_s (leL_n (leL_n leL_0))) ?_
    have h := ok_some h
    exact h
  · have h := ok_f c3 h
    refine e_aload_n dX4_readOnto_17 rfl ?_
    refine e_aload_n dX4_readOnto_18 rfl ?_
    refine e_callV (f2 := 6) (l2 := 132) (ν := mtX4_readItem) (as := [.ref a1]) cv_RX4_34 is_X34 kc_4 ⟨Nat.le_of_ble_eq_true rfl, Nat.le_of_ble_eq_true rfl⟩ rfl rfl (Nat.le_of_ble_eq_true rfl) dX4_readOnto_19 ?_
    refine ctX4_readItem a1 ha1 (ok_bnd h (fun q4 h => ?_))
    show Ev (wX, z) mtX4_readOnto 7 154 22 [some (.ref 34), some (.ref a1), some (.int a2)] [.int q4.1] q4.2 Q
    refine e_if_ne 32 dX4_readOnto_22 (by decide) (fun c5 => ?_) (fun c5 => ?_)
    · have h := ok_f c5 h
      refine e_aload_n dX4_readOnto_32 rfl ?_
      refine e_getI fa_RX4_19 is_X34 dX4_readOnto_33 ?_
      refine e_iconst (3 : Int32) dX4_readOnto_36 (by decide) ?_
      refine e_icmp_ne 42 dX4_readOnto_37 (by decide) (fun c6 => ?_) (fun c6 => ?_)
      · have h := ok_f c6 h
        refine e_aload_n dX4_readOnto_42 rfl ?_
        refine e_getI fa_RX4_19 is_X34 dX4_readOnto_43 ?_
        refine e_iconst (2 : Int32) dX4_readOnto_46 (by decide) ?_
        refine e_icmp_eq 57 dX4_readOnto_47 (by decide) (fun c7 => ?_) (fun c7 => ?_)
        · have h := ok_t c7 h
          refine e_aload_n dX4_readOnto_57 rfl ?_
          refine e_callV (f2 := 2) (l2 := 41) (ν := mtX4_next) (as := []) cv_RX4_31 is_X34 kc_4 ⟨Nat.le_of_ble_eq_true rfl, Nat.le_of_ble_eq_true rfl⟩ rfl rfl (Nat.le_of_ble_eq_true rfl) dX4_readOnto_58 ?_
          refine ctX4_next (ok_bnd h (fun q8 h => ?_))
          show Ev (wX, z) mtX4_readOnto 7 154 61 [some (.ref 34), some (.ref a1), some (.int a2)] [] q8 Q
          refine lv1e h (fun v9 ev9 h => ?_)
          refine e_iinc v9 dX4_readOnto_61 rfl ev9 (by decide) rfl ?_
          refine e_goto 11 dX4_readOnto_64 (by decide) ?_
          refine e_forget [some (.ref 34), some (.ref a1), some (.int v9)] (leL_s (leL_s (leL_s leL_0))) ?_
          have h := ok_some h
          exact h
        · have h := ok_f c7 h
          refine e_iconst (-1 : Int32) dX4_readOnto_50 (by decide) ?_
          refine e_aload_n dX4_readOnto_51 rfl ?_
          refine e_getI fa_RX4_22 is_X34 dX4_readOnto_52 ?_
          refine e_isub dX4_readOnto_55 ?_
          have h := ok_some h
          exact e_iret rfl dX4_readOnto_56 h
      · have h := ok_t c6 h
        refine e_iload_n dX4_readOnto_40 rfl ?_
        have h := ok_some h
        exact e_iret rfl dX4_readOnto_41 h
    · have h := ok_t c5 h
      refine e_iconst (-1 : Int32) dX4_readOnto_25 (by decide) ?_
      refine e_aload_n dX4_readOnto_26 rfl ?_
      refine e_getI fa_RX4_22 is_X34 dX4_readOnto_27 ?_
      refine e_isub dX4_readOnto_30 ?_
      have h := ok_some h
      exact e_iret rfl dX4_readOnto_31 h
theorem elX4_readOnto_l11 {z : Zt} {Q : Option Value → Me → Prop} (a1 : Nat) (ha1 : Is (wX, z) a1 2) (N : Nat) (s : Int32 × Me) (h : ok (lp (fpX4_readOnto_l11 a1) N s) (XX4_readOnto_11 z a1 Q)) : EX4_readOnto_11 z a1 Q s :=
  lp_ind (fun s h => ebX4_readOnto_l11s a1 ha1 s.1 s.2 h) N s h
def fpX4_readOnto (a1 : Nat) (M : Me) : Option (Int32 × Me) := letv (wrM M 34 4 (0 : Int32)) fun M1 =>
 (fpX4_next M1).bind fun q2 =>
 (lp (fpX4_readOnto_l11 a1) FU ((1 : Int32), q2)).bind fun r10 => Sum.elim (fun t11 =>
 some (((-1 : Int32) - (t11.1 34 3)), t11)) (fun u12 => some u12) r10
set_option maxRecDepth 20000 in
theorem ctX4_readOnto {z : Zt} {M : Me} {Q : Option Value → Me → Prop} (a1 : Nat) (ha1 : Is (wX, z) a1 2) (h : ok (fpX4_readOnto a1 M) (fun a => Q (some (.int a.1)) a.2)) : EvM (wX, z) mtX4_readOnto 7 154 [.ref 34, .ref a1] M Q := by
  refine evm_of [some (.ref 34), some (.ref a1), none] 1 (by decide +kernel) (Nat.le_of_ble_eq_true rfl) rfl ?_
  unfold fpX4_readOnto at h
  refine e_aload_n dX4_readOnto_0 rfl ?_
  refine e_iconst (0 : Int32) dX4_readOnto_1 (by decide) ?_
  refine e_putI fw_RX4_25 is_X34 dX4_readOnto_2 ?_
  refine lv1 (P := fun M1 => Ev (wX, z) mtX4_readOnto 7 154 5 [some (.ref 34), some (.ref a1), none] [] M1 Q) h (fun M1 h => ?_)
  refine e_aload_n dX4_readOnto_5 rfl ?_
  refine e_callV (f2 := 2) (l2 := 41) (ν := mtX4_next) (as := []) cv_RX4_31 is_X34 kc_4 ⟨Nat.le_of_ble_eq_true rfl, Nat.le_of_ble_eq_true rfl⟩ rfl rfl (Nat.le_of_ble_eq_true rfl) dX4_readOnto_6 ?_
  refine ctX4_next (ok_bnd h (fun q2 h => ?_))
  show Ev (wX, z) mtX4_readOnto 7 154 9 [some (.ref 34), some (.ref a1), none] [] q2 Q
  refine e_iconst (1 : Int32) dX4_readOnto_9 (by decide) ?_
  refine e_istore_n dX4_readOnto_10 (by decide) rfl ?_
  refine e_forget [some (.ref 34), some (.ref a1), some (.int (1 : Int32))] (leL_s (leL_s (leL_s leL_0))) ?_
  refine elX4_readOnto_l11 a1 ha1 FU ((1 : Int32), q2) (ok_bnd h (fun r10 h => ?_))
  rcases r10 with t11 | u12
  · show Ev (wX, z) mtX4_readOnto 7 154 67 [some (.ref 34), none, none] [] t11 Q
    refine e_iconst (-1 : Int32) dX4_readOnto_67 (by decide) ?_
    refine e_aload_n dX4_readOnto_68 rfl ?_
    refine e_getI fa_RX4_22 is_X34 dX4_readOnto_69 ?_
    refine e_isub dX4_readOnto_72 ?_
    have h := ok_some h
    exact e_iret rfl dX4_readOnto_73 h
  · have h := ok_some h
    exact h
def fpX5_outside (a0 : Int32) (a1 : Int32) (a2 : Int32) : Int32 := (if a0 < a1 then (1 : Int32) else (if a0 ≤ a2 then (0 : Int32) else (1 : Int32)))
theorem fpzX5_outside (a0 : Int32) (a1 : Int32) (a2 : Int32) : fpX5_outside a0 a1 a2 = 0 ∨ fpX5_outside a0 a1 a2 = 1 := by
  unfold fpX5_outside
  (repeat' split) <;> first | exact Or.inl rfl | exact Or.inr rfl
set_option maxRecDepth 20000 in
theorem ctX5_outside {z : Zt} {M : Me} {Q : Option Value → Me → Prop} (a0 : Int32) (a1 : Int32) (a2 : Int32)  (h : Q (some (.int (fpX5_outside a0 a1 a2))) M) : EvM (wX, z) mtX5_outside 0 0 [.int a0, .int a1, .int a2] M Q := by
  refine evm_of [some (.int a0), some (.int a1), some (.int a2)] 0 (by decide +kernel) (Nat.le_of_ble_eq_true rfl) rfl ?_
  refine e_iload_n dX5_outside_0 rfl ?_
  refine e_iload_n dX5_outside_1 rfl ?_
  refine e_icmp_lt 10 dX5_outside_2 (by decide) (fun c1 => ?_) (fun c1 => ?_)
  · refine e_iconst (1 : Int32) dX5_outside_10 (by decide) ?_
    refine e_goto 15 dX5_outside_11 (by decide) ?_
    have e0 : fpX5_outside a0 a1 a2 = (1 : Int32) := by
      unfold fpX5_outside
      rw [if_pos c1]
    rw [e0] at h
    exact e_zret rfl (Or.inr rfl) dX5_outside_15 h
  · refine e_iload_n dX5_outside_5 rfl ?_
    refine e_iload_n dX5_outside_6 rfl ?_
    refine e_icmp_le 14 dX5_outside_7 (by decide) (fun c2 => ?_) (fun c2 => ?_)
    · refine e_iconst (0 : Int32) dX5_outside_14 (by decide) ?_
      have e0 : fpX5_outside a0 a1 a2 = (0 : Int32) := by
        unfold fpX5_outside
        rw [if_neg c1, if_pos c2]
      rw [e0] at h
      exact e_zret rfl (Or.inl rfl) dX5_outside_15 h
    · refine e_iconst (1 : Int32) dX5_outside_10 (by decide) ?_
      refine e_goto 15 dX5_outside_11 (by decide) ?_
      have e0 : fpX5_outside a0 a1 a2 = (1 : Int32) := by
        unfold fpX5_outside
        rw [if_neg c1, if_neg c2]
      rw [e0] at h
      exact e_zret rfl (Or.inr rfl) dX5_outside_15 h
def fpX5_finding (a1 : Int32) (M : Me) : Option (Int32 × Me) := (inb a1 7).bind fun k1 =>
 letv (wrM M 45 k1 ((M.1 45 k1) + (1 : Int32))) fun M2 =>
 some (((-1000001 : Int32) - a1), M2)
set_option maxRecDepth 20000 in
theorem ctX5_finding {z : Zt} {M : Me} {Q : Option Value → Me → Prop} (a1 : Int32)  (h : ok (fpX5_finding a1 M) (fun a => Q (some (.int a.1)) a.2)) : EvM (wX, z) mtX5_finding 0 0 [.ref 0, .int a1] M Q := by
  refine evm_of [some (.ref 0), some (.int a1)] 0 (by decide +kernel) (Nat.le_of_ble_eq_true rfl) rfl ?_
  unfold fpX5_finding at h
  refine e_aload_n dX5_finding_0 rfl ?_
  refine e_getR fa_RX5_39 is_X0 rfl dX5_finding_1 ?_
  refine e_iload_n dX5_finding_4 rfl ?_
  refine e_dup2 dX5_finding_5 rfl rfl ?_
  refine ok_inb h (fun k1 ek1 ik1 h => ?_)
  refine e_ialdK ia_X45 ik1 ek1 dX5_finding_6 ?_
  refine e_iconst (1 : Int32) dX5_finding_7 (by decide) ?_
  refine e_iadd dX5_finding_8 ?_
  refine e_iastK ia_X45 ik1 ek1 dX5_finding_9 ?_
  refine lv1 (P := fun M2 => Ev (wX, z) mtX5_finding 0 0 10 [some (.ref 0), some (.int a1)] [] M2 Q) h (fun M2 h => ?_)
  refine e_ldcw wk_RX5_302 dX5_finding_10 ?_
  refine e_iload_n dX5_finding_13 rfl ?_
  refine e_isub dX5_finding_14 ?_
  have h := ok_some h
  exact e_iret rfl dX5_finding_15 h
def fpX5_pump (a1 : Int32) (a2 : Int32) (a3 : Int32) (M : Me) : Option (Int32 × Me) := (if (fpX5_outside a1 (0 : Int32) (6 : Int32)) = 0 then
 (if (fpX5_outside a2 (0 : Int32) (99 : Int32)) = 0 then
 (if (fpX5_outside a3 (1 : Int32) (60 : Int32)) = 0 then
 (if (fpX2_isFull 1 M) = 0 then
 (fpX2_add 1 a1 a2 a3 (0 : Int32) M).bind fun q7 =>
 some (((q7.1 1 2) - (1 : Int32)), q7)
 else
 (fpX5_finding (1 : Int32) M).bind fun q8 =>
 some (q8.1, q8.2))
 else
 (fpX5_finding (0 : Int32) M).bind fun q9 =>
 some (q9.1, q9.2))
 else
 (fpX5_finding (0 : Int32) M).bind fun q4 =>
 some (q4.1, q4.2))
 else
 (fpX5_finding (0 : Int32) M).bind fun q2 =>
 some (q2.1, q2.2))
set_option maxRecDepth 20000 in
theorem ctX5_pump {z : Zt} {M : Me} {Q : Option Value → Me → Prop} (a1 : Int32) (a2 : Int32) (a3 : Int32)  (h : ok (fpX5_pump a1 a2 a3 M) (fun a => Q (some (.int a.1)) a.2)) : EvM (wX, z) mtX5_pump 1 25 [.ref 0, .int a1, .int a2, .int a3] M Q := by
  refine evm_of [some (.ref 0), some (.int a1), some (.int a2), some (.int a3)] 0 (by decide +kernel) (Nat.le_of_ble_eq_true rfl) rfl ?_
  unfold fpX5_pump at h
  refine e_iload_n dX5_pump_0 rfl ?_
  refine e_iconst (0 : Int32) dX5_pump_1 (by decide) ?_
  refine e_bipush (6 : Int32) dX5_pump_2 (by decide) ?_
  refine e_callS (f2 := 0) (l2 := 0) (ν := mtX5_outside) (as := [.int a1, .int (0 : Int32), .int (6 : Int32)]) cs_RX5_51 ⟨Nat.le_of_ble_eq_true rfl, Nat.le_of_ble_eq_true rfl⟩ rfl rfl (Nat.le_of_ble_eq_true rfl) dX5_pump_4 ?_
  refine ctX5_outside a1 (0 : Int32) (6 : Int32) ?_
  show Ev (wX, z) mtX5_pump 1 25 7 [some (.ref 0), some (.int a1), some (.int a2), some (.int a3)] [.int (fpX5_outside a1 (0 : Int32) (6 : Int32))] M Q
  refine e_if_ne 30 dX5_pump_7 (by decide) (fun c1 => ?_) (fun c1 => ?_)
  · have h := ok_f c1 h
    refine e_aload_n dX5_pump_30 rfl ?_
    refine e_iconst (0 : Int32) dX5_pump_31 (by decide) ?_
    refine e_callV (f2 := 0) (l2 := 0) (ν := mtX5_finding) (as := [.int (0 : Int32)]) cv_RX5_55 is_X0 kc_1 ⟨Nat.le_of_ble_eq_true rfl, Nat.le_of_ble_eq_true rfl⟩ rfl rfl (Nat.le_of_ble_eq_true rfl) dX5_pump_32 ?_
    refine ctX5_finding (0 : Int32) (ok_bnd h (fun q2 h => ?_))
    show Ev (wX, z) mtX5_pump 1 25 35 [some (.ref 0), some (.int a1), some (.int a2), some (.int a3)] [.int q2.1] q2.2 Q
    have h := ok_some h
    exact e_iret rfl dX5_pump_35 h
  · have h := ok_t c1 h
    refine e_iload_n dX5_pump_10 rfl ?_
    refine e_iconst (0 : Int32) dX5_pump_11 (by decide) ?_
    refine e_bipush (99 : Int32) dX5_pump_12 (by decide) ?_
    refine e_callS (f2 := 0) (l2 := 0) (ν := mtX5_outside) (as := [.int a2, .int (0 : Int32), .int (99 : Int32)]) cs_RX5_51 ⟨Nat.le_of_ble_eq_true rfl, Nat.le_of_ble_eq_true rfl⟩ rfl rfl (Nat.le_of_ble_eq_true rfl) dX5_pump_14 ?_
    refine ctX5_outside a2 (0 : Int32) (99 : Int32) ?_
    show Ev (wX, z) mtX5_pump 1 25 17 [some (.ref 0), some (.int a1), some (.int a2), some (.int a3)] [.int (fpX5_outside a2 (0 : Int32) (99 : Int32))] M Q
    refine e_if_ne 30 dX5_pump_17 (by decide) (fun c3 => ?_) (fun c3 => ?_)
    · have h := ok_f c3 h
      refine e_aload_n dX5_pump_30 rfl ?_
      refine e_iconst (0 : Int32) dX5_pump_31 (by decide) ?_
      refine e_callV (f2 := 0) (l2 := 0) (ν := mtX5_finding) (as := [.int (0 : Int32)]) cv_RX5_55 is_X0 kc_1 ⟨Nat.le_of_ble_eq_true rfl, Nat.le_of_ble_eq_true rfl⟩ rfl rfl (Nat.le_of_ble_eq_true rfl) dX5_pump_32 ?_
      refine ctX5_finding (0 : Int32) (ok_bnd h (fun q4 h => ?_))
      show Ev (wX, z) mtX5_pump 1 25 35 [some (.ref 0), some (.int a1), some (.int a2), some (.int a3)] [.int q4.1] q4.2 Q
      have h := ok_some h
      exact e_iret rfl dX5_pump_35 h
    · have h := ok_t c3 h
      refine e_iload_n dX5_pump_20 rfl ?_
      refine e_iconst (1 : Int32) dX5_pump_21 (by decide) ?_
      refine e_bipush (60 : Int32) dX5_pump_22 (by decide) ?_
      refine e_callS (f2 := 0) (l2 := 0) (ν := mtX5_outside) (as := [.int a3, .int (1 : Int32), .int (60 : Int32)]) cs_RX5_51 ⟨Nat.le_of_ble_eq_true rfl, Nat.le_of_ble_eq_true rfl⟩ rfl rfl (Nat.le_of_ble_eq_true rfl) dX5_pump_24 ?_
      refine ctX5_outside a3 (1 : Int32) (60 : Int32) ?_
      show Ev (wX, z) mtX5_pump 1 25 27 [some (.ref 0), some (.int a1), some (.int a2), some (.int a3)] [.int (fpX5_outside a3 (1 : Int32) (60 : Int32))] M Q
      refine e_if_eq 36 dX5_pump_27 (by decide) (fun c5 => ?_) (fun c5 => ?_)
      · have h := ok_t c5 h
        refine e_aload_n dX5_pump_36 rfl ?_
        refine e_getR fa_RX5_10 is_X0 rfl dX5_pump_37 ?_
        refine e_callV (f2 := 0) (l2 := 0) (ν := mtX2_isFull) (as := []) cv_RX5_59 is_X1 kc_2 ⟨Nat.le_of_ble_eq_true rfl, Nat.le_of_ble_eq_true rfl⟩ rfl rfl (Nat.le_of_ble_eq_true rfl) dX5_pump_40 ?_
        refine ctX2_isFull 1 is_X1 ?_
        show Ev (wX, z) mtX5_pump 1 25 43 [some (.ref 0), some (.int a1), some (.int a2), some (.int a3)] [.int (fpX2_isFull 1 M)] M Q
        refine e_if_eq 52 dX5_pump_43 (by decide) (fun c6 => ?_) (fun c6 => ?_)
        · have h := ok_t c6 h
          refine e_aload_n dX5_pump_52 rfl ?_
          refine e_getR fa_RX5_10 is_X0 rfl dX5_pump_53 ?_
          refine e_iload_n dX5_pump_56 rfl ?_
          refine e_iload_n dX5_pump_57 rfl ?_
          refine e_iload_n dX5_pump_58 rfl ?_
          refine e_iconst (0 : Int32) dX5_pump_59 (by decide) ?_
          refine e_callV (f2 := 0) (l2 := 0) (ν := mtX2_add) (as := [.int a1, .int a2, .int a3, .int (0 : Int32)]) cv_RX5_63 is_X1 kc_2 ⟨Nat.le_of_ble_eq_true rfl, Nat.le_of_ble_eq_true rfl⟩ rfl rfl (Nat.le_of_ble_eq_true rfl) dX5_pump_60 ?_
          refine ctX2_add 1 a1 a2 a3 (0 : Int32) is_X1 (ok_bnd h (fun q7 h => ?_))
          show Ev (wX, z) mtX5_pump 1 25 63 [some (.ref 0), some (.int a1), some (.int a2), some (.int a3)] [] q7 Q
          refine e_aload_n dX5_pump_63 rfl ?_
          refine e_getR fa_RX5_10 is_X0 rfl dX5_pump_64 ?_
          refine e_getI fa_RX5_67 is_X1 dX5_pump_67 ?_
          refine e_iconst (1 : Int32) dX5_pump_70 (by decide) ?_
          refine e_isub dX5_pump_71 ?_
          have h := ok_some h
          exact e_iret rfl dX5_pump_72 h
        · have h := ok_f c6 h
          refine e_aload_n dX5_pump_46 rfl ?_
          refine e_iconst (1 : Int32) dX5_pump_47 (by decide) ?_
          refine e_callV (f2 := 0) (l2 := 0) (ν := mtX5_finding) (as := [.int (1 : Int32)]) cv_RX5_55 is_X0 kc_1 ⟨Nat.le_of_ble_eq_true rfl, Nat.le_of_ble_eq_true rfl⟩ rfl rfl (Nat.le_of_ble_eq_true rfl) dX5_pump_48 ?_
          refine ctX5_finding (1 : Int32) (ok_bnd h (fun q8 h => ?_))
          show Ev (wX, z) mtX5_pump 1 25 51 [some (.ref 0), some (.int a1), some (.int a2), some (.int a3)] [.int q8.1] q8.2 Q
          have h := ok_some h
          exact e_iret rfl dX5_pump_51 h
      · have h := ok_f c5 h
        refine e_aload_n dX5_pump_30 rfl ?_
        refine e_iconst (0 : Int32) dX5_pump_31 (by decide) ?_
        refine e_callV (f2 := 0) (l2 := 0) (ν := mtX5_finding) (as := [.int (0 : Int32)]) cv_RX5_55 is_X0 kc_1 ⟨Nat.le_of_ble_eq_true rfl, Nat.le_of_ble_eq_true rfl⟩ rfl rfl (Nat.le_of_ble_eq_true rfl) dX5_pump_32 ?_
        refine ctX5_finding (0 : Int32) (ok_bnd h (fun q9 h => ?_))
        show Ev (wX, z) mtX5_pump 1 25 35 [some (.ref 0), some (.int a1), some (.int a2), some (.int a3)] [.int q9.1] q9.2 Q
        have h := ok_some h
        exact e_iret rfl dX5_pump_35 h
def fpX5_of (a1 : Int32) (a2 : Int32) (M : Me) : Option (Int32 × Me) := (if (fpX2_has 1 a1 M) = 0 then
 (fpX5_finding (0 : Int32) M).bind fun q15 =>
 some (q15.1, q15.2)
 else
 (inb a1 8).bind fun k2 =>
 (if a2 = (0 : Int32) then
 some ((M.1 (1 + 3 + k2) 0), M)
 else
 (if a2 = (1 : Int32) then
 some ((M.1 (1 + 3 + k2) 1), M)
 else
 (if a2 = (2 : Int32) then
 some ((M.1 (1 + 3 + k2) 2), M)
 else
 (if a2 = (3 : Int32) then
 some ((M.1 (1 + 3 + k2) 3), M)
 else
 (if a2 = (4 : Int32) then
 some ((M.1 (1 + 3 + k2) 4), M)
 else
 (if a2 = (5 : Int32) then
 (if (M.1 (1 + 3 + k2) 5) = 0 then
 some ((0 : Int32), M)
 else
 some ((1 : Int32), M))
 else
 (if a2 = (6 : Int32) then
 (fpX2_yieldOf 1 a1 M).bind fun v11 =>
 some (v11, M)
 else
 (if a2 = (7 : Int32) then
 (fpX2_needOf 1 a1 M).bind fun v13 =>
 some (v13, M)
 else
 (fpX5_finding (0 : Int32) M).bind fun q14 =>
 some (q14.1, q14.2))))))))))
set_option maxRecDepth 20000 in
theorem ctX5_of {z : Zt} {M : Me} {Q : Option Value → Me → Prop} (a1 : Int32) (a2 : Int32)  (h : ok (fpX5_of a1 a2 M) (fun a => Q (some (.int a.1)) a.2)) : EvM (wX, z) mtX5_of 4 86 [.ref 0, .int a1, .int a2] M Q := by
  refine evm_of [some (.ref 0), some (.int a1), some (.int a2), none] 1 (by decide +kernel) (Nat.le_of_ble_eq_true rfl) rfl ?_
  unfold fpX5_of at h
  refine e_aload_n dX5_of_0 rfl ?_
  refine e_getR fa_RX5_10 is_X0 rfl dX5_of_1 ?_
  refine e_iload_n dX5_of_4 rfl ?_
  refine e_callV (f2 := 0) (l2 := 0) (ν := mtX2_has) (as := [.int a1]) cv_RX5_71 is_X1 kc_2 ⟨Nat.le_of_ble_eq_true rfl, Nat.le_of_ble_eq_true rfl⟩ rfl rfl (Nat.le_of_ble_eq_true rfl) dX5_of_5 ?_
  refine ctX2_has 1 a1 is_X1 ?_
  show Ev (wX, z) mtX5_of 4 86 8 [some (.ref 0), some (.int a1), some (.int a2), none] [.int (fpX2_has 1 a1 M)] M Q
  refine e_if_ne 17 dX5_of_8 (by decide) (fun c1 => ?_) (fun c1 => ?_)
  · have h := ok_f c1 h
    refine e_aload_n dX5_of_17 rfl ?_
    refine e_getR fa_RX5_10 is_X0 rfl dX5_of_18 ?_
    refine e_getR fa_RX5_75 is_X1 rfl dX5_of_21 ?_
    refine e_iload_n dX5_of_24 rfl ?_
    refine ok_inb h (fun k2 ek2 ik2 h => ?_)
    refine e_aaldK ra_X2 (r' := (1 + 3 + k2)) (Or.inl rfl) ik2 ek2 (by omega) dX5_of_25 ?_
    refine e_astore_n dX5_of_26 (by decide) rfl ?_
    refine e_iload_n dX5_of_27 rfl ?_
    by_cases c3 : a2 = (0 : Int32)
    · refine e_tswC (0 : Int32) 76 c3 dX5_of_28 (by decide) (by decide) rfl (by decide) ?_
      have h := ok_t c3 h
      refine e_aload_n dX5_of_76 rfl ?_
      refine e_getI fa_RX5_79 (pm_is is_X1 ik2 ek2) dX5_of_77 ?_
      have h := ok_some h
      exact e_iret rfl dX5_of_80 h
    · have h := ok_f c3 h
      by_cases c4 : a2 = (1 : Int32)
      · refine e_tswC (1 : Int32) 81 c4 dX5_of_28 (by decide) (by decide) rfl (by decide) ?_
        have h := ok_t c4 h
        refine e_aload_n dX5_of_81 rfl ?_
        refine e_getI fa_RX5_84 (pm_is is_X1 ik2 ek2) dX5_of_82 ?_
        have h := ok_some h
        exact e_iret rfl dX5_of_85 h
      · have h := ok_f c4 h
        by_cases c5 : a2 = (2 : Int32)
        · refine e_tswC (2 : Int32) 86 c5 dX5_of_28 (by decide) (by decide) rfl (by decide) ?_
          have h := ok_t c5 h
          refine e_aload_n dX5_of_86 rfl ?_
          refine e_getI fa_RX5_87 (pm_is is_X1 ik2 ek2) dX5_of_87 ?_
          have h := ok_some h
          exact e_iret rfl dX5_of_90 h
        · have h := ok_f c5 h
          by_cases c6 : a2 = (3 : Int32)
          · refine e_tswC (3 : Int32) 91 c6 dX5_of_28 (by decide) (by decide) rfl (by decide) ?_
            have h := ok_t c6 h
            refine e_aload_n dX5_of_91 rfl ?_
            refine e_getI fa_RX5_90 (pm_is is_X1 ik2 ek2) dX5_of_92 ?_
            have h := ok_some h
            exact e_iret rfl dX5_of_95 h
          · have h := ok_f c6 h
            by_cases c7 : a2 = (4 : Int32)
            · refine e_tswC (4 : Int32) 96 c7 dX5_of_28 (by decide) (by decide) rfl (by decide) ?_
              have h := ok_t c7 h
              refine e_aload_n dX5_of_96 rfl ?_
              refine e_getI fa_RX5_93 (pm_is is_X1 ik2 ek2) dX5_of_97 ?_
              have h := ok_some h
              exact e_iret rfl dX5_of_100 h
            · have h := ok_f c7 h
              by_cases c8 : a2 = (5 : Int32)
              · refine e_tswC (5 : Int32) 101 c8 dX5_of_28 (by decide) (by decide) rfl (by decide) ?_
                have h := ok_t c8 h
                refine e_aload_n dX5_of_101 rfl ?_
                refine e_getI fa_RX5_96 (pm_is is_X1 ik2 ek2) dX5_of_102 ?_
                refine e_if_eq 112 dX5_of_105 (by decide) (fun c9 => ?_) (fun c9 => ?_)
                · have h := ok_t c9 h
                  refine e_iconst (0 : Int32) dX5_of_112 (by decide) ?_
                  have h := ok_some h
                  exact e_iret rfl dX5_of_113 h
                · have h := ok_f c9 h
                  refine e_iconst (1 : Int32) dX5_of_108 (by decide) ?_
                  refine e_goto 113 dX5_of_109 (by decide) ?_
                  have h := ok_some h
                  exact e_iret rfl dX5_of_113 h
              · have h := ok_f c8 h
                by_cases c10 : a2 = (6 : Int32)
                · refine e_tswC (6 : Int32) 114 c10 dX5_of_28 (by decide) (by decide) rfl (by decide) ?_
                  have h := ok_t c10 h
                  refine e_aload_n dX5_of_114 rfl ?_
                  refine e_getR fa_RX5_10 is_X0 rfl dX5_of_115 ?_
                  refine e_iload_n dX5_of_118 rfl ?_
                  refine e_callV (f2 := 2) (l2 := 44) (ν := mtX2_yieldOf) (as := [.int a1]) cv_RX5_99 is_X1 kc_2 ⟨Nat.le_of_ble_eq_true rfl, Nat.le_of_ble_eq_true rfl⟩ rfl rfl (Nat.le_of_ble_eq_true rfl) dX5_of_119 ?_
                  refine ctX2_yieldOf 1 a1 is_X1 (ok_bnd h (fun v11 h => ?_))
                  show Ev (wX, z) mtX5_of 4 86 122 [some (.ref 0), some (.int a1), some (.int a2), some (.ref (1 + 3 + k2))] [.int v11] M Q
                  have h := ok_some h
                  exact e_iret rfl dX5_of_122 h
                · have h := ok_f c10 h
                  by_cases c12 : a2 = (7 : Int32)
                  · refine e_tswC (7 : Int32) 123 c12 dX5_of_28 (by decide) (by decide) rfl (by decide) ?_
                    have h := ok_t c12 h
                    refine e_aload_n dX5_of_123 rfl ?_
                    refine e_getR fa_RX5_10 is_X0 rfl dX5_of_124 ?_
                    refine e_iload_n dX5_of_127 rfl ?_
                    refine e_callV (f2 := 3) (l2 := 65) (ν := mtX2_needOf) (as := [.int a1]) cv_RX5_102 is_X1 kc_2 ⟨Nat.le_of_ble_eq_true rfl, Nat.le_of_ble_eq_true rfl⟩ rfl rfl (Nat.le_of_ble_eq_true rfl) dX5_of_128 ?_
                    refine ctX2_needOf 1 a1 is_X1 (ok_bnd h (fun v13 h => ?_))
                    show Ev (wX, z) mtX5_of 4 86 131 [some (.ref 0), some (.int a1), some (.int a2), some (.ref (1 + 3 + k2))] [.int v13] M Q
                    have h := ok_some h
                    exact e_iret rfl dX5_of_131 h
                  · have h := ok_f c12 h
                    refine e_tswD 132 dX5_of_28 (by have q0 := lv_neT (a := 0) c3 rfl; have q1 := lv_neT (a := 1) c4 rfl; have q2 := lv_neT (a := 2) c5 rfl; have q3 := lv_neT (a := 3) c6 rfl; have q4 := lv_neT (a := 4) c7 rfl; have q5 := lv_neT (a := 5) c8 rfl; have q6 := lv_neT (a := 6) c10 rfl; have q7 := lv_neT (a := 7) c12 rfl; omega) (by decide) ?_
                    refine e_aload_n dX5_of_132 rfl ?_
                    refine e_iconst (0 : Int32) dX5_of_133 (by decide) ?_
                    refine e_callV (f2 := 0) (l2 := 0) (ν := mtX5_finding) (as := [.int (0 : Int32)]) cv_RX5_55 is_X0 kc_1 ⟨Nat.le_of_ble_eq_true rfl, Nat.le_of_ble_eq_true rfl⟩ rfl rfl (Nat.le_of_ble_eq_true rfl) dX5_of_134 ?_
                    refine ctX5_finding (0 : Int32) (ok_bnd h (fun q14 h => ?_))
                    show Ev (wX, z) mtX5_of 4 86 137 [some (.ref 0), some (.int a1), some (.int a2), some (.ref (1 + 3 + k2))] [.int q14.1] q14.2 Q
                    have h := ok_some h
                    exact e_iret rfl dX5_of_137 h
  · have h := ok_t c1 h
    refine e_aload_n dX5_of_11 rfl ?_
    refine e_iconst (0 : Int32) dX5_of_12 (by decide) ?_
    refine e_callV (f2 := 0) (l2 := 0) (ν := mtX5_finding) (as := [.int (0 : Int32)]) cv_RX5_55 is_X0 kc_1 ⟨Nat.le_of_ble_eq_true rfl, Nat.le_of_ble_eq_true rfl⟩ rfl rfl (Nat.le_of_ble_eq_true rfl) dX5_of_13 ?_
    refine ctX5_finding (0 : Int32) (ok_bnd h (fun q15 h => ?_))
    show Ev (wX, z) mtX5_of 4 86 16 [some (.ref 0), some (.int a1), some (.int a2), none] [.int q15.1] q15.2 Q
    have h := ok_some h
    exact e_iret rfl dX5_of_16 h
def fpX5_leastTrait (a0 : Int32) : Int32 := (if a0 = (2 : Int32) then (1 : Int32) else (0 : Int32))
set_option maxRecDepth 20000 in
theorem ctX5_leastTrait {z : Zt} {M : Me} {Q : Option Value → Me → Prop} (a0 : Int32)  (h : Q (some (.int (fpX5_leastTrait a0))) M) : EvM (wX, z) mtX5_leastTrait 0 0 [.int a0] M Q := by
  refine evm_of [some (.int a0)] 0 (by decide +kernel) (Nat.le_of_ble_eq_true rfl) rfl ?_
  refine e_iload_n dX5_leastTrait_0 rfl ?_
  refine e_iconst (2 : Int32) dX5_leastTrait_1 (by decide) ?_
  refine e_icmp_ne 9 dX5_leastTrait_2 (by decide) (fun c1 => ?_) (fun c1 => ?_)
  · refine e_iconst (0 : Int32) dX5_leastTrait_9 (by decide) ?_
    have e0 : fpX5_leastTrait a0 = (0 : Int32) := by
      unfold fpX5_leastTrait
      rw [if_neg c1]
    rw [e0] at h
    exact e_iret rfl dX5_leastTrait_10 h
  · refine e_iconst (1 : Int32) dX5_leastTrait_5 (by decide) ?_
    refine e_goto 10 dX5_leastTrait_6 (by decide) ?_
    have e0 : fpX5_leastTrait a0 = (1 : Int32) := by
      unfold fpX5_leastTrait
      rw [if_pos c1]
    rw [e0] at h
    exact e_iret rfl dX5_leastTrait_10 h
def fpX5_mostTrait (a0 : Int32) : Int32 := (if a0 = (0 : Int32) then (6 : Int32) else (if a0 = (1 : Int32) then (99 : Int32) else (if a0 = (2 : Int32) then (60 : Int32) else (11 : Int32))))
set_option maxRecDepth 20000 in
theorem ctX5_mostTrait {z : Zt} {M : Me} {Q : Option Value → Me → Prop} (a0 : Int32)  (h : Q (some (.int (fpX5_mostTrait a0))) M) : EvM (wX, z) mtX5_mostTrait 0 0 [.int a0] M Q := by
  refine evm_of [some (.int a0)] 0 (by decide +kernel) (Nat.le_of_ble_eq_true rfl) rfl ?_
  refine e_iload_n dX5_mostTrait_0 rfl ?_
  by_cases c1 : a0 = (0 : Int32)
  · refine e_tswC (0 : Int32) 28 c1 dX5_mostTrait_1 (by decide) (by decide) rfl (by decide) ?_
    refine e_bipush (6 : Int32) dX5_mostTrait_28 (by decide) ?_
    have e0 : fpX5_mostTrait a0 = (6 : Int32) := by
      unfold fpX5_mostTrait
      rw [if_pos c1]
    rw [e0] at h
    exact e_iret rfl dX5_mostTrait_30 h
  · skip
    by_cases c2 : a0 = (1 : Int32)
    · refine e_tswC (1 : Int32) 31 c2 dX5_mostTrait_1 (by decide) (by decide) rfl (by decide) ?_
      refine e_bipush (99 : Int32) dX5_mostTrait_31 (by decide) ?_
      have e0 : fpX5_mostTrait a0 = (99 : Int32) := by
        unfold fpX5_mostTrait
        rw [if_neg c1, if_pos c2]
      rw [e0] at h
      exact e_iret rfl dX5_mostTrait_33 h
    · skip
      by_cases c3 : a0 = (2 : Int32)
      · refine e_tswC (2 : Int32) 34 c3 dX5_mostTrait_1 (by decide) (by decide) rfl (by decide) ?_
        refine e_bipush (60 : Int32) dX5_mostTrait_34 (by decide) ?_
        have e0 : fpX5_mostTrait a0 = (60 : Int32) := by
          unfold fpX5_mostTrait
          rw [if_neg c1, if_neg c2, if_pos c3]
        rw [e0] at h
        exact e_iret rfl dX5_mostTrait_36 h
      · skip
        refine e_tswD 37 dX5_mostTrait_1 (by have q0 := lv_neT (a := 0) c1 rfl; have q1 := lv_neT (a := 1) c2 rfl; have q2 := lv_neT (a := 2) c3 rfl; omega) (by decide) ?_
        refine e_bipush (11 : Int32) dX5_mostTrait_37 (by decide) ?_
        have e0 : fpX5_mostTrait a0 = (11 : Int32) := by
          unfold fpX5_mostTrait
          rw [if_neg c1, if_neg c2, if_neg c3]
        rw [e0] at h
        exact e_iret rfl dX5_mostTrait_39 h
def fpX5_change (a1 : Int32) (a2 : Int32) (a3 : Int32) (M : Me) : Option (Int32 × Me) := (if (fpX2_has 1 a1 M) = 0 then
 (fpX5_finding (0 : Int32) M).bind fun q2 =>
 some (q2.1, q2.2)
 else
 (if (fpX5_outside a2 (0 : Int32) (3 : Int32)) = 0 then
 (if (fpX5_outside a3 (fpX5_leastTrait a2) (fpX5_mostTrait a2)) = 0 then
 (inb a1 8).bind fun k6 =>
 (if a2 = 0 then
 letv (M.1 (1 + 3 + k6) 0) fun v16 =>
 letv (wrM M (1 + 3 + k6) 0 a3) fun M17 =>
 some (v16, M17)
 else
 (if a2 = (1 : Int32) then
 letv (M.1 (1 + 3 + k6) 1) fun v14 =>
 letv (wrM M (1 + 3 + k6) 1 a3) fun M15 =>
 some (v14, M15)
 else
 (if a2 = (2 : Int32) then
 letv (M.1 (1 + 3 + k6) 2) fun v12 =>
 letv (wrM M (1 + 3 + k6) 2 a3) fun M13 =>
 some (v12, M13)
 else
 letv (M.1 (1 + 3 + k6) 3) fun v10 =>
 letv (wrM M (1 + 3 + k6) 3 a3) fun M11 =>
 some (v10, M11))))
 else
 (fpX5_finding (0 : Int32) M).bind fun q18 =>
 some (q18.1, q18.2))
 else
 (fpX5_finding (0 : Int32) M).bind fun q4 =>
 some (q4.1, q4.2)))
set_option maxRecDepth 20000 in
theorem ctX5_change {z : Zt} {M : Me} {Q : Option Value → Me → Prop} (a1 : Int32) (a2 : Int32) (a3 : Int32)  (h : ok (fpX5_change a1 a2 a3 M) (fun a => Q (some (.int a.1)) a.2)) : EvM (wX, z) mtX5_change 1 22 [.ref 0, .int a1, .int a2, .int a3] M Q := by
  refine evm_of [some (.ref 0), some (.int a1), some (.int a2), some (.int a3), none, none] 2 (by decide +kernel) (Nat.le_of_ble_eq_true rfl) rfl ?_
  unfold fpX5_change at h
  refine e_aload_n dX5_change_0 rfl ?_
  refine e_getR fa_RX5_10 is_X0 rfl dX5_change_1 ?_
  refine e_iload_n dX5_change_4 rfl ?_
  refine e_callV (f2 := 0) (l2 := 0) (ν := mtX2_has) (as := [.int a1]) cv_RX5_71 is_X1 kc_2 ⟨Nat.le_of_ble_eq_true rfl, Nat.le_of_ble_eq_true rfl⟩ rfl rfl (Nat.le_of_ble_eq_true rfl) dX5_change_5 ?_
  refine ctX2_has 1 a1 is_X1 ?_
  show Ev (wX, z) mtX5_change 1 22 8 [some (.ref 0), some (.int a1), some (.int a2), some (.int a3), none, none] [.int (fpX2_has 1 a1 M)] M Q
  refine e_if_eq 35 dX5_change_8 (by decide) (fun c1 => ?_) (fun c1 => ?_)
  · have h := ok_t c1 h
    refine e_aload_n dX5_change_35 rfl ?_
    refine e_iconst (0 : Int32) dX5_change_36 (by decide) ?_
    refine e_callV (f2 := 0) (l2 := 0) (ν := mtX5_finding) (as := [.int (0 : Int32)]) cv_RX5_55 is_X0 kc_1 ⟨Nat.le_of_ble_eq_true rfl, Nat.le_of_ble_eq_true rfl⟩ rfl rfl (Nat.le_of_ble_eq_true rfl) dX5_change_37 ?_
    refine ctX5_finding (0 : Int32) (ok_bnd h (fun q2 h => ?_))
    show Ev (wX, z) mtX5_change 1 22 40 [some (.ref 0), some (.int a1), some (.int a2), some (.int a3), none, none] [.int q2.1] q2.2 Q
    have h := ok_some h
    exact e_iret rfl dX5_change_40 h
  · have h := ok_f c1 h
    refine e_iload_n dX5_change_11 rfl ?_
    refine e_iconst (0 : Int32) dX5_change_12 (by decide) ?_
    refine e_iconst (3 : Int32) dX5_change_13 (by decide) ?_
    refine e_callS (f2 := 0) (l2 := 0) (ν := mtX5_outside) (as := [.int a2, .int (0 : Int32), .int (3 : Int32)]) cs_RX5_51 ⟨Nat.le_of_ble_eq_true rfl, Nat.le_of_ble_eq_true rfl⟩ rfl rfl (Nat.le_of_ble_eq_true rfl) dX5_change_14 ?_
    refine ctX5_outside a2 (0 : Int32) (3 : Int32) ?_
    show Ev (wX, z) mtX5_change 1 22 17 [some (.ref 0), some (.int a1), some (.int a2), some (.int a3), none, none] [.int (fpX5_outside a2 (0 : Int32) (3 : Int32))] M Q
    refine e_if_ne 35 dX5_change_17 (by decide) (fun c3 => ?_) (fun c3 => ?_)
    · have h := ok_f c3 h
      refine e_aload_n dX5_change_35 rfl ?_
      refine e_iconst (0 : Int32) dX5_change_36 (by decide) ?_
      refine e_callV (f2 := 0) (l2 := 0) (ν := mtX5_finding) (as := [.int (0 : Int32)]) cv_RX5_55 is_X0 kc_1 ⟨Nat.le_of_ble_eq_true rfl, Nat.le_of_ble_eq_true rfl⟩ rfl rfl (Nat.le_of_ble_eq_true rfl) dX5_change_37 ?_
      refine ctX5_finding (0 : Int32) (ok_bnd h (fun q4 h => ?_))
      show Ev (wX, z) mtX5_change 1 22 40 [some (.ref 0), some (.int a1), some (.int a2), some (.int a3), none, none] [.int q4.1] q4.2 Q
      have h := ok_some h
      exact e_iret rfl dX5_change_40 h
    · have h := ok_t c3 h
      refine e_iload_n dX5_change_20 rfl ?_
      refine e_iload_n dX5_change_21 rfl ?_
      refine e_callS (f2 := 0) (l2 := 0) (ν := mtX5_leastTrait) (as := [.int a2]) cs_RX5_105 ⟨Nat.le_of_ble_eq_true rfl, Nat.le_of_ble_eq_true rfl⟩ rfl rfl (Nat.le_of_ble_eq_true rfl) dX5_change_22 ?_
      refine ctX5_leastTrait a2 ?_
      show Ev (wX, z) mtX5_change 1 22 25 [some (.ref 0), some (.int a1), some (.int a2), some (.int a3), none, none] [.int (fpX5_leastTrait a2), .int a3] M Q
      refine e_iload_n dX5_change_25 rfl ?_
      refine e_callS (f2 := 0) (l2 := 0) (ν := mtX5_mostTrait) (as := [.int a2]) cs_RX5_108 ⟨Nat.le_of_ble_eq_true rfl, Nat.le_of_ble_eq_true rfl⟩ rfl rfl (Nat.le_of_ble_eq_true rfl) dX5_change_26 ?_
      refine ctX5_mostTrait a2 ?_
      show Ev (wX, z) mtX5_change 1 22 29 [some (.ref 0), some (.int a1), some (.int a2), some (.int a3), none, none] [.int (fpX5_mostTrait a2), .int (fpX5_leastTrait a2), .int a3] M Q
      refine e_callS (f2 := 0) (l2 := 0) (ν := mtX5_outside) (as := [.int a3, .int (fpX5_leastTrait a2), .int (fpX5_mostTrait a2)]) cs_RX5_51 ⟨Nat.le_of_ble_eq_true rfl, Nat.le_of_ble_eq_true rfl⟩ rfl rfl (Nat.le_of_ble_eq_true rfl) dX5_change_29 ?_
      refine ctX5_outside a3 (fpX5_leastTrait a2) (fpX5_mostTrait a2) ?_
      show Ev (wX, z) mtX5_change 1 22 32 [some (.ref 0), some (.int a1), some (.int a2), some (.int a3), none, none] [.int (fpX5_outside a3 (fpX5_leastTrait a2) (fpX5_mostTrait a2))] M Q
      refine e_if_eq 41 dX5_change_32 (by decide) (fun c5 => ?_) (fun c5 => ?_)
      · have h := ok_t c5 h
        refine e_aload_n dX5_change_41 rfl ?_
        refine e_getR fa_RX5_10 is_X0 rfl dX5_change_42 ?_
        refine e_getR fa_RX5_75 is_X1 rfl dX5_change_45 ?_
        refine e_iload_n dX5_change_48 rfl ?_
        refine ok_inb h (fun k6 ek6 ik6 h => ?_)
        refine e_aaldK ra_X2 (r' := (1 + 3 + k6)) (Or.inl rfl) ik6 ek6 (by omega) dX5_change_49 ?_
        refine e_astore dX5_change_50 (by decide) rfl ?_
        refine e_iload_n dX5_change_52 rfl ?_
        refine e_if_ne 72 dX5_change_53 (by decide) (fun c7 => ?_) (fun c7 => ?_)
        · have h := ok_f c7 h
          refine e_iload_n dX5_change_72 rfl ?_
          refine e_iconst (1 : Int32) dX5_change_73 (by decide) ?_
          refine e_icmp_ne 93 dX5_change_74 (by decide) (fun c8 => ?_) (fun c8 => ?_)
          · have h := ok_f c8 h
            refine e_iload_n dX5_change_93 rfl ?_
            refine e_iconst (2 : Int32) dX5_change_94 (by decide) ?_
            refine e_icmp_ne 114 dX5_change_95 (by decide) (fun c9 => ?_) (fun c9 => ?_)
            · have h := ok_f c9 h
              refine e_aload dX5_change_114 rfl ?_
              refine e_getI fa_RX5_90 (pm_is is_X1 ik6 ek6) dX5_change_116 ?_
              refine lv1 (P := fun v10 => Ev (wX, z) mtX5_change 1 22 119 [some (.ref 0), some (.int a1), some (.int a2), some (.int a3), some (.ref (1 + 3 + k6)), none] [.int v10] M Q) h (fun v10 h => ?_)
              refine e_istore dX5_change_119 (by decide) rfl ?_
              refine e_aload dX5_change_121 rfl ?_
              refine e_iload_n dX5_change_123 rfl ?_
              refine e_putI fw_RX5_90 (pm_is is_X1 ik6 ek6) dX5_change_124 ?_
              refine lv1 (P := fun M11 => Ev (wX, z) mtX5_change 1 22 127 [some (.ref 0), some (.int a1), some (.int a2), some (.int a3), some (.ref (1 + 3 + k6)), some (.int v10)] [] M11 Q) h (fun M11 h => ?_)
              refine e_iload dX5_change_127 rfl ?_
              have h := ok_some h
              exact e_iret rfl dX5_change_129 h
            · have h := ok_t c9 h
              refine e_aload dX5_change_98 rfl ?_
              refine e_getI fa_RX5_87 (pm_is is_X1 ik6 ek6) dX5_change_100 ?_
              refine lv1 (P := fun v12 => Ev (wX, z) mtX5_change 1 22 103 [some (.ref 0), some (.int a1), some (.int a2), some (.int a3), some (.ref (1 + 3 + k6)), none] [.int v12] M Q) h (fun v12 h => ?_)
              refine e_istore dX5_change_103 (by decide) rfl ?_
              refine e_aload dX5_change_105 rfl ?_
              refine e_iload_n dX5_change_107 rfl ?_
              refine e_putI fw_RX5_87 (pm_is is_X1 ik6 ek6) dX5_change_108 ?_
              refine lv1 (P := fun M13 => Ev (wX, z) mtX5_change 1 22 111 [some (.ref 0), some (.int a1), some (.int a2), some (.int a3), some (.ref (1 + 3 + k6)), some (.int v12)] [] M13 Q) h (fun M13 h => ?_)
              refine e_goto 127 dX5_change_111 (by decide) ?_
              refine e_iload dX5_change_127 rfl ?_
              have h := ok_some h
              exact e_iret rfl dX5_change_129 h
          · have h := ok_t c8 h
            refine e_aload dX5_change_77 rfl ?_
            refine e_getI fa_RX5_84 (pm_is is_X1 ik6 ek6) dX5_change_79 ?_
            refine lv1 (P := fun v14 => Ev (wX, z) mtX5_change 1 22 82 [some (.ref 0), some (.int a1), some (.int a2), some (.int a3), some (.ref (1 + 3 + k6)), none] [.int v14] M Q) h (fun v14 h => ?_)
            refine e_istore dX5_change_82 (by decide) rfl ?_
            refine e_aload dX5_change_84 rfl ?_
            refine e_iload_n dX5_change_86 rfl ?_
            refine e_putI fw_RX5_84 (pm_is is_X1 ik6 ek6) dX5_change_87 ?_
            refine lv1 (P := fun M15 => Ev (wX, z) mtX5_change 1 22 90 [some (.ref 0), some (.int a1), some (.int a2), some (.int a3), some (.ref (1 + 3 + k6)), some (.int v14)] [] M15 Q) h (fun M15 h => ?_)
            refine e_goto 127 dX5_change_90 (by decide) ?_
            refine e_iload dX5_change_127 rfl ?_
            have h := ok_some h
            exact e_iret rfl dX5_change_129 h
        · have h := ok_t c7 h
          refine e_aload dX5_change_56 rfl ?_
          refine e_getI fa_RX5_79 (pm_is is_X1 ik6 ek6) dX5_change_58 ?_
          refine lv1 (P := fun v16 => Ev (wX, z) mtX5_change 1 22 61 [some (.ref 0), some (.int a1), some (.int a2), some (.int a3), some (.ref (1 + 3 + k6)), none] [.int v16] M Q) h (fun v16 h => ?_)
          refine e_istore dX5_change_61 (by decide) rfl ?_
          refine e_aload dX5_change_63 rfl ?_
          refine e_iload_n dX5_change_65 rfl ?_
          refine e_putI fw_RX5_79 (pm_is is_X1 ik6 ek6) dX5_change_66 ?_
          refine lv1 (P := fun M17 => Ev (wX, z) mtX5_change 1 22 69 [some (.ref 0), some (.int a1), some (.int a2), some (.int a3), some (.ref (1 + 3 + k6)), some (.int v16)] [] M17 Q) h (fun M17 h => ?_)
          refine e_goto 127 dX5_change_69 (by decide) ?_
          refine e_iload dX5_change_127 rfl ?_
          have h := ok_some h
          exact e_iret rfl dX5_change_129 h
      · have h := ok_f c5 h
        refine e_aload_n dX5_change_35 rfl ?_
        refine e_iconst (0 : Int32) dX5_change_36 (by decide) ?_
        refine e_callV (f2 := 0) (l2 := 0) (ν := mtX5_finding) (as := [.int (0 : Int32)]) cv_RX5_55 is_X0 kc_1 ⟨Nat.le_of_ble_eq_true rfl, Nat.le_of_ble_eq_true rfl⟩ rfl rfl (Nat.le_of_ble_eq_true rfl) dX5_change_37 ?_
        refine ctX5_finding (0 : Int32) (ok_bnd h (fun q18 h => ?_))
        show Ev (wX, z) mtX5_change 1 22 40 [some (.ref 0), some (.int a1), some (.int a2), some (.int a3), none, none] [.int q18.1] q18.2 Q
        have h := ok_some h
        exact e_iret rfl dX5_change_40 h
def fpX5_leastRule (a1 : Int32) (M : Me) : Int32 := (if a1 = 0 then (fpX2_leastRoom 1 M) else (0 : Int32))
set_option maxRecDepth 20000 in
theorem ctX5_leastRule {z : Zt} {M : Me} {Q : Option Value → Me → Prop} (a1 : Int32)  (h : Q (some (.int (fpX5_leastRule a1 M))) M) : EvM (wX, z) mtX5_leastRule 2 41 [.ref 0, .int a1] M Q := by
  refine evm_of [some (.ref 0), some (.int a1)] 0 (by decide +kernel) (Nat.le_of_ble_eq_true rfl) rfl ?_
  refine e_iload_n dX5_leastRule_0 rfl ?_
  refine e_if_ne 14 dX5_leastRule_1 (by decide) (fun c1 => ?_) (fun c1 => ?_)
  · refine e_iconst (0 : Int32) dX5_leastRule_14 (by decide) ?_
    have e0 : fpX5_leastRule a1 M = (0 : Int32) := by
      unfold fpX5_leastRule
      rw [if_neg c1]
    rw [e0] at h
    exact e_iret rfl dX5_leastRule_15 h
  · refine e_aload_n dX5_leastRule_4 rfl ?_
    refine e_getR fa_RX5_10 is_X0 rfl dX5_leastRule_5 ?_
    refine e_callV (f2 := 1) (l2 := 21) (ν := mtX2_leastRoom) (as := []) cv_RX5_129 is_X1 kc_2 ⟨Nat.le_of_ble_eq_true rfl, Nat.le_of_ble_eq_true rfl⟩ rfl rfl (Nat.le_of_ble_eq_true rfl) dX5_leastRule_8 ?_
    refine ctX2_leastRoom 1 is_X1 ?_
    show Ev (wX, z) mtX5_leastRule 2 41 11 [some (.ref 0), some (.int a1)] [.int (fpX2_leastRoom 1 M)] M Q
    refine e_goto 15 dX5_leastRule_11 (by decide) ?_
    have e0 : fpX5_leastRule a1 M = (fpX2_leastRoom 1 M) := by
      unfold fpX5_leastRule
      rw [if_pos c1]
    rw [e0] at h
    exact e_iret rfl dX5_leastRule_15 h
def fpX5_mostRule (a0 : Int32) : Int32 := (if a0 = (0 : Int32) then (999 : Int32) else (if a0 = (1 : Int32) then (99 : Int32) else (if a0 = (2 : Int32) then (9 : Int32) else (23 : Int32))))
set_option maxRecDepth 20000 in
theorem ctX5_mostRule {z : Zt} {M : Me} {Q : Option Value → Me → Prop} (a0 : Int32)  (h : Q (some (.int (fpX5_mostRule a0))) M) : EvM (wX, z) mtX5_mostRule 0 0 [.int a0] M Q := by
  refine evm_of [some (.int a0)] 0 (by decide +kernel) (Nat.le_of_ble_eq_true rfl) rfl ?_
  refine e_iload_n dX5_mostRule_0 rfl ?_
  by_cases c1 : a0 = (0 : Int32)
  · refine e_tswC (0 : Int32) 28 c1 dX5_mostRule_1 (by decide) (by decide) rfl (by decide) ?_
    refine e_sipush (999 : Int32) dX5_mostRule_28 (by decide) ?_
    have e0 : fpX5_mostRule a0 = (999 : Int32) := by
      unfold fpX5_mostRule
      rw [if_pos c1]
    rw [e0] at h
    exact e_iret rfl dX5_mostRule_31 h
  · skip
    by_cases c2 : a0 = (1 : Int32)
    · refine e_tswC (1 : Int32) 32 c2 dX5_mostRule_1 (by decide) (by decide) rfl (by decide) ?_
      refine e_bipush (99 : Int32) dX5_mostRule_32 (by decide) ?_
      have e0 : fpX5_mostRule a0 = (99 : Int32) := by
        unfold fpX5_mostRule
        rw [if_neg c1, if_pos c2]
      rw [e0] at h
      exact e_iret rfl dX5_mostRule_34 h
    · skip
      by_cases c3 : a0 = (2 : Int32)
      · refine e_tswC (2 : Int32) 35 c3 dX5_mostRule_1 (by decide) (by decide) rfl (by decide) ?_
        refine e_bipush (9 : Int32) dX5_mostRule_35 (by decide) ?_
        have e0 : fpX5_mostRule a0 = (9 : Int32) := by
          unfold fpX5_mostRule
          rw [if_neg c1, if_neg c2, if_pos c3]
        rw [e0] at h
        exact e_iret rfl dX5_mostRule_37 h
      · skip
        refine e_tswD 38 dX5_mostRule_1 (by have q0 := lv_neT (a := 0) c1 rfl; have q1 := lv_neT (a := 1) c2 rfl; have q2 := lv_neT (a := 2) c3 rfl; omega) (by decide) ?_
        refine e_bipush (23 : Int32) dX5_mostRule_38 (by decide) ?_
        have e0 : fpX5_mostRule a0 = (23 : Int32) := by
          unfold fpX5_mostRule
          rw [if_neg c1, if_neg c2, if_neg c3]
        rw [e0] at h
        exact e_iret rfl dX5_mostRule_40 h
def fpX5_rule (a1 : Int32) (a2 : Int32) (M : Me) : Option (Int32 × Me) := (if (fpX5_outside a1 (0 : Int32) (3 : Int32)) = 0 then
 (if (fpX5_outside a2 (fpX5_leastRule a1 M) (fpX5_mostRule a1)) = 0 then
 (if a1 = 0 then
 letv (M.1 1 6) fun v13 =>
 letv (wrM M 1 6 a2) fun M14 =>
 some (v13, M14)
 else
 (if a1 = (1 : Int32) then
 letv (M.1 1 7) fun v11 =>
 letv (wrM M 1 7 a2) fun M12 =>
 some (v11, M12)
 else
 (if a1 = (2 : Int32) then
 letv (M.1 1 8) fun v9 =>
 letv (wrM M 1 8 a2) fun M10 =>
 some (v9, M10)
 else
 letv (M.1 1 9) fun v7 =>
 letv (wrM M 1 9 a2) fun M8 =>
 some (v7, M8))))
 else
 (fpX5_finding (0 : Int32) M).bind fun q15 =>
 some (q15.1, q15.2))
 else
 (fpX5_finding (0 : Int32) M).bind fun q2 =>
 some (q2.1, q2.2))
set_option maxRecDepth 20000 in
theorem ctX5_rule {z : Zt} {M : Me} {Q : Option Value → Me → Prop} (a1 : Int32) (a2 : Int32)  (h : ok (fpX5_rule a1 a2 M) (fun a => Q (some (.int a.1)) a.2)) : EvM (wX, z) mtX5_rule 3 62 [.ref 0, .int a1, .int a2] M Q := by
  refine evm_of [some (.ref 0), some (.int a1), some (.int a2), none] 1 (by decide +kernel) (Nat.le_of_ble_eq_true rfl) rfl ?_
  unfold fpX5_rule at h
  refine e_iload_n dX5_rule_0 rfl ?_
  refine e_iconst (0 : Int32) dX5_rule_1 (by decide) ?_
  refine e_iconst (3 : Int32) dX5_rule_2 (by decide) ?_
  refine e_callS (f2 := 0) (l2 := 0) (ν := mtX5_outside) (as := [.int a1, .int (0 : Int32), .int (3 : Int32)]) cs_RX5_51 ⟨Nat.le_of_ble_eq_true rfl, Nat.le_of_ble_eq_true rfl⟩ rfl rfl (Nat.le_of_ble_eq_true rfl) dX5_rule_3 ?_
  refine ctX5_outside a1 (0 : Int32) (3 : Int32) ?_
  show Ev (wX, z) mtX5_rule 3 62 6 [some (.ref 0), some (.int a1), some (.int a2), none] [.int (fpX5_outside a1 (0 : Int32) (3 : Int32))] M Q
  refine e_if_ne 25 dX5_rule_6 (by decide) (fun c1 => ?_) (fun c1 => ?_)
  · have h := ok_f c1 h
    refine e_aload_n dX5_rule_25 rfl ?_
    refine e_iconst (0 : Int32) dX5_rule_26 (by decide) ?_
    refine e_callV (f2 := 0) (l2 := 0) (ν := mtX5_finding) (as := [.int (0 : Int32)]) cv_RX5_55 is_X0 kc_1 ⟨Nat.le_of_ble_eq_true rfl, Nat.le_of_ble_eq_true rfl⟩ rfl rfl (Nat.le_of_ble_eq_true rfl) dX5_rule_27 ?_
    refine ctX5_finding (0 : Int32) (ok_bnd h (fun q2 h => ?_))
    show Ev (wX, z) mtX5_rule 3 62 30 [some (.ref 0), some (.int a1), some (.int a2), none] [.int q2.1] q2.2 Q
    have h := ok_some h
    exact e_iret rfl dX5_rule_30 h
  · have h := ok_t c1 h
    refine e_iload_n dX5_rule_9 rfl ?_
    refine e_aload_n dX5_rule_10 rfl ?_
    refine e_iload_n dX5_rule_11 rfl ?_
    refine e_callV (f2 := 2) (l2 := 41) (ν := mtX5_leastRule) (as := [.int a1]) cv_RX5_111 is_X0 kc_1 ⟨Nat.le_of_ble_eq_true rfl, Nat.le_of_ble_eq_true rfl⟩ rfl rfl (Nat.le_of_ble_eq_true rfl) dX5_rule_12 ?_
    refine ctX5_leastRule a1 ?_
    show Ev (wX, z) mtX5_rule 3 62 15 [some (.ref 0), some (.int a1), some (.int a2), none] [.int (fpX5_leastRule a1 M), .int a2] M Q
    refine e_iload_n dX5_rule_15 rfl ?_
    refine e_callS (f2 := 0) (l2 := 0) (ν := mtX5_mostRule) (as := [.int a1]) cs_RX5_114 ⟨Nat.le_of_ble_eq_true rfl, Nat.le_of_ble_eq_true rfl⟩ rfl rfl (Nat.le_of_ble_eq_true rfl) dX5_rule_16 ?_
    refine ctX5_mostRule a1 ?_
    show Ev (wX, z) mtX5_rule 3 62 19 [some (.ref 0), some (.int a1), some (.int a2), none] [.int (fpX5_mostRule a1), .int (fpX5_leastRule a1 M), .int a2] M Q
    refine e_callS (f2 := 0) (l2 := 0) (ν := mtX5_outside) (as := [.int a2, .int (fpX5_leastRule a1 M), .int (fpX5_mostRule a1)]) cs_RX5_51 ⟨Nat.le_of_ble_eq_true rfl, Nat.le_of_ble_eq_true rfl⟩ rfl rfl (Nat.le_of_ble_eq_true rfl) dX5_rule_19 ?_
    refine ctX5_outside a2 (fpX5_leastRule a1 M) (fpX5_mostRule a1) ?_
    show Ev (wX, z) mtX5_rule 3 62 22 [some (.ref 0), some (.int a1), some (.int a2), none] [.int (fpX5_outside a2 (fpX5_leastRule a1 M) (fpX5_mostRule a1))] M Q
    refine e_if_eq 31 dX5_rule_22 (by decide) (fun c3 => ?_) (fun c3 => ?_)
    · have h := ok_t c3 h
      refine e_iload_n dX5_rule_31 rfl ?_
      refine e_if_ne 54 dX5_rule_32 (by decide) (fun c4 => ?_) (fun c4 => ?_)
      · have h := ok_f c4 h
        refine e_iload_n dX5_rule_54 rfl ?_
        refine e_iconst (1 : Int32) dX5_rule_55 (by decide) ?_
        refine e_icmp_ne 78 dX5_rule_56 (by decide) (fun c5 => ?_) (fun c5 => ?_)
        · have h := ok_f c5 h
          refine e_iload_n dX5_rule_78 rfl ?_
          refine e_iconst (2 : Int32) dX5_rule_79 (by decide) ?_
          refine e_icmp_ne 102 dX5_rule_80 (by decide) (fun c6 => ?_) (fun c6 => ?_)
          · have h := ok_f c6 h
            refine e_aload_n dX5_rule_102 rfl ?_
            refine e_getR fa_RX5_10 is_X0 rfl dX5_rule_103 ?_
            refine e_getI fa_RX5_126 is_X1 dX5_rule_106 ?_
            refine lv1 (P := fun v7 => Ev (wX, z) mtX5_rule 3 62 109 [some (.ref 0), some (.int a1), some (.int a2), none] [.int v7] M Q) h (fun v7 h => ?_)
            refine e_istore_n dX5_rule_109 (by decide) rfl ?_
            refine e_aload_n dX5_rule_110 rfl ?_
            refine e_getR fa_RX5_10 is_X0 rfl dX5_rule_111 ?_
            refine e_iload_n dX5_rule_114 rfl ?_
            refine e_putI fw_RX5_126 is_X1 dX5_rule_115 ?_
            refine lv1 (P := fun M8 => Ev (wX, z) mtX5_rule 3 62 118 [some (.ref 0), some (.int a1), some (.int a2), some (.int v7)] [] M8 Q) h (fun M8 h => ?_)
            refine e_iload_n dX5_rule_118 rfl ?_
            have h := ok_some h
            exact e_iret rfl dX5_rule_119 h
          · have h := ok_t c6 h
            refine e_aload_n dX5_rule_83 rfl ?_
            refine e_getR fa_RX5_10 is_X0 rfl dX5_rule_84 ?_
            refine e_getI fa_RX5_123 is_X1 dX5_rule_87 ?_
            refine lv1 (P := fun v9 => Ev (wX, z) mtX5_rule 3 62 90 [some (.ref 0), some (.int a1), some (.int a2), none] [.int v9] M Q) h (fun v9 h => ?_)
            refine e_istore_n dX5_rule_90 (by decide) rfl ?_
            refine e_aload_n dX5_rule_91 rfl ?_
            refine e_getR fa_RX5_10 is_X0 rfl dX5_rule_92 ?_
            refine e_iload_n dX5_rule_95 rfl ?_
            refine e_putI fw_RX5_123 is_X1 dX5_rule_96 ?_
            refine lv1 (P := fun M10 => Ev (wX, z) mtX5_rule 3 62 99 [some (.ref 0), some (.int a1), some (.int a2), some (.int v9)] [] M10 Q) h (fun M10 h => ?_)
            refine e_goto 118 dX5_rule_99 (by decide) ?_
            refine e_iload_n dX5_rule_118 rfl ?_
            have h := ok_some h
            exact e_iret rfl dX5_rule_119 h
        · have h := ok_t c5 h
          refine e_aload_n dX5_rule_59 rfl ?_
          refine e_getR fa_RX5_10 is_X0 rfl dX5_rule_60 ?_
          refine e_getI fa_RX5_120 is_X1 dX5_rule_63 ?_
          refine lv1 (P := fun v11 => Ev (wX, z) mtX5_rule 3 62 66 [some (.ref 0), some (.int a1), some (.int a2), none] [.int v11] M Q) h (fun v11 h => ?_)
          refine e_istore_n dX5_rule_66 (by decide) rfl ?_
          refine e_aload_n dX5_rule_67 rfl ?_
          refine e_getR fa_RX5_10 is_X0 rfl dX5_rule_68 ?_
          refine e_iload_n dX5_rule_71 rfl ?_
          refine e_putI fw_RX5_120 is_X1 dX5_rule_72 ?_
          refine lv1 (P := fun M12 => Ev (wX, z) mtX5_rule 3 62 75 [some (.ref 0), some (.int a1), some (.int a2), some (.int v11)] [] M12 Q) h (fun M12 h => ?_)
          refine e_goto 118 dX5_rule_75 (by decide) ?_
          refine e_iload_n dX5_rule_118 rfl ?_
          have h := ok_some h
          exact e_iret rfl dX5_rule_119 h
      · have h := ok_t c4 h
        refine e_aload_n dX5_rule_35 rfl ?_
        refine e_getR fa_RX5_10 is_X0 rfl dX5_rule_36 ?_
        refine e_getI fa_RX5_117 is_X1 dX5_rule_39 ?_
        refine lv1 (P := fun v13 => Ev (wX, z) mtX5_rule 3 62 42 [some (.ref 0), some (.int a1), some (.int a2), none] [.int v13] M Q) h (fun v13 h => ?_)
        refine e_istore_n dX5_rule_42 (by decide) rfl ?_
        refine e_aload_n dX5_rule_43 rfl ?_
        refine e_getR fa_RX5_10 is_X0 rfl dX5_rule_44 ?_
        refine e_iload_n dX5_rule_47 rfl ?_
        refine e_putI fw_RX5_117 is_X1 dX5_rule_48 ?_
        refine lv1 (P := fun M14 => Ev (wX, z) mtX5_rule 3 62 51 [some (.ref 0), some (.int a1), some (.int a2), some (.int v13)] [] M14 Q) h (fun M14 h => ?_)
        refine e_goto 118 dX5_rule_51 (by decide) ?_
        refine e_iload_n dX5_rule_118 rfl ?_
        have h := ok_some h
        exact e_iret rfl dX5_rule_119 h
    · have h := ok_f c3 h
      refine e_aload_n dX5_rule_25 rfl ?_
      refine e_iconst (0 : Int32) dX5_rule_26 (by decide) ?_
      refine e_callV (f2 := 0) (l2 := 0) (ν := mtX5_finding) (as := [.int (0 : Int32)]) cv_RX5_55 is_X0 kc_1 ⟨Nat.le_of_ble_eq_true rfl, Nat.le_of_ble_eq_true rfl⟩ rfl rfl (Nat.le_of_ble_eq_true rfl) dX5_rule_27 ?_
      refine ctX5_finding (0 : Int32) (ok_bnd h (fun q15 h => ?_))
      show Ev (wX, z) mtX5_rule 3 62 30 [some (.ref 0), some (.int a1), some (.int a2), none] [.int q15.1] q15.2 Q
      have h := ok_some h
      exact e_iret rfl dX5_rule_30 h
def fpX5_notCarried (a1 : Int32) (M : Me) : Int32 := (fpX5_outside a1 (0 : Int32) (M.1 1 6))
theorem fpzX5_notCarried (a1 : Int32) (M : Me) : fpX5_notCarried a1 M = 0 ∨ fpX5_notCarried a1 M = 1 := by
  unfold fpX5_notCarried
  (repeat' split) <;> first | exact Or.inl rfl | exact Or.inr rfl | apply fpzX5_outside
set_option maxRecDepth 20000 in
theorem ctX5_notCarried {z : Zt} {M : Me} {Q : Option Value → Me → Prop} (a1 : Int32)  (h : Q (some (.int (fpX5_notCarried a1 M))) M) : EvM (wX, z) mtX5_notCarried 1 22 [.ref 0, .int a1] M Q := by
  refine evm_of [some (.ref 0), some (.int a1)] 0 (by decide +kernel) (Nat.le_of_ble_eq_true rfl) rfl ?_
  refine e_iload_n dX5_notCarried_0 rfl ?_
  refine e_iconst (0 : Int32) dX5_notCarried_1 (by decide) ?_
  refine e_aload_n dX5_notCarried_2 rfl ?_
  refine e_getR fa_RX5_10 is_X0 rfl dX5_notCarried_3 ?_
  refine e_getI fa_RX5_117 is_X1 dX5_notCarried_6 ?_
  refine e_callS (f2 := 0) (l2 := 0) (ν := mtX5_outside) (as := [.int a1, .int (0 : Int32), .int (M.1 1 6)]) cs_RX5_51 ⟨Nat.le_of_ble_eq_true rfl, Nat.le_of_ble_eq_true rfl⟩ rfl rfl (Nat.le_of_ble_eq_true rfl) dX5_notCarried_9 ?_
  refine ctX5_outside a1 (0 : Int32) (M.1 1 6) ?_
  show Ev (wX, z) mtX5_notCarried 1 22 12 [some (.ref 0), some (.int a1)] [.int (fpX5_outside a1 (0 : Int32) (M.1 1 6))] M Q
  have e0 : fpX5_notCarried a1 M = (fpX5_outside a1 (0 : Int32) (M.1 1 6)) := rfl
  rw [e0] at h
  exact e_zret rfl (fpzX5_outside a1 (0 : Int32) (M.1 1 6)) dX5_notCarried_12 h
def fpX5_water (a1 : Int32) (M : Me) : Option (Int32 × Me) := (if (fpX5_notCarried a1 M) = 0 then
 letv (M.1 1 4) fun v2 =>
 letv (wrM M 1 4 a1) fun M3 =>
 some (v2, M3)
 else
 (fpX5_finding (0 : Int32) M).bind fun q4 =>
 some (q4.1, q4.2))
set_option maxRecDepth 20000 in
theorem ctX5_water {z : Zt} {M : Me} {Q : Option Value → Me → Prop} (a1 : Int32)  (h : ok (fpX5_water a1 M) (fun a => Q (some (.int a.1)) a.2)) : EvM (wX, z) mtX5_water 2 43 [.ref 0, .int a1] M Q := by
  refine evm_of [some (.ref 0), some (.int a1), none] 1 (by decide +kernel) (Nat.le_of_ble_eq_true rfl) rfl ?_
  unfold fpX5_water at h
  refine e_aload_n dX5_water_0 rfl ?_
  refine e_iload_n dX5_water_1 rfl ?_
  refine e_callV (f2 := 1) (l2 := 22) (ν := mtX5_notCarried) (as := [.int a1]) cv_RX5_133 is_X0 kc_1 ⟨Nat.le_of_ble_eq_true rfl, Nat.le_of_ble_eq_true rfl⟩ rfl rfl (Nat.le_of_ble_eq_true rfl) dX5_water_2 ?_
  refine ctX5_notCarried a1 ?_
  show Ev (wX, z) mtX5_water 2 43 5 [some (.ref 0), some (.int a1), none] [.int (fpX5_notCarried a1 M)] M Q
  refine e_if_eq 14 dX5_water_5 (by decide) (fun c1 => ?_) (fun c1 => ?_)
  · have h := ok_t c1 h
    refine e_aload_n dX5_water_14 rfl ?_
    refine e_getR fa_RX5_10 is_X0 rfl dX5_water_15 ?_
    refine e_getI fa_RX5_136 is_X1 dX5_water_18 ?_
    refine lv1 (P := fun v2 => Ev (wX, z) mtX5_water 2 43 21 [some (.ref 0), some (.int a1), none] [.int v2] M Q) h (fun v2 h => ?_)
    refine e_istore_n dX5_water_21 (by decide) rfl ?_
    refine e_aload_n dX5_water_22 rfl ?_
    refine e_getR fa_RX5_10 is_X0 rfl dX5_water_23 ?_
    refine e_iload_n dX5_water_26 rfl ?_
    refine e_putI fw_RX5_136 is_X1 dX5_water_27 ?_
    refine lv1 (P := fun M3 => Ev (wX, z) mtX5_water 2 43 30 [some (.ref 0), some (.int a1), some (.int v2)] [] M3 Q) h (fun M3 h => ?_)
    refine e_iload_n dX5_water_30 rfl ?_
    have h := ok_some h
    exact e_iret rfl dX5_water_31 h
  · have h := ok_f c1 h
    refine e_aload_n dX5_water_8 rfl ?_
    refine e_iconst (0 : Int32) dX5_water_9 (by decide) ?_
    refine e_callV (f2 := 0) (l2 := 0) (ν := mtX5_finding) (as := [.int (0 : Int32)]) cv_RX5_55 is_X0 kc_1 ⟨Nat.le_of_ble_eq_true rfl, Nat.le_of_ble_eq_true rfl⟩ rfl rfl (Nat.le_of_ble_eq_true rfl) dX5_water_10 ?_
    refine ctX5_finding (0 : Int32) (ok_bnd h (fun q4 h => ?_))
    show Ev (wX, z) mtX5_water 2 43 13 [some (.ref 0), some (.int a1), none] [.int q4.1] q4.2 Q
    have h := ok_some h
    exact e_iret rfl dX5_water_13 h
def fpX5_now (a1 : Int32) (M : Me) : Option (Int32 × Me) := (if a1 = (0 : Int32) then
 some ((M.1 1 3), M)
 else
 (if a1 = (1 : Int32) then
 some ((M.1 1 4), M)
 else
 (if a1 = (2 : Int32) then
 some ((M.1 1 5), M)
 else
 (if a1 = (3 : Int32) then
 some ((M.1 1 9), M)
 else
 (if a1 = (4 : Int32) then
 some ((M.1 1 10), M)
 else
 (if a1 = (5 : Int32) then
 some ((M.1 1 11), M)
 else
 (if a1 = (6 : Int32) then
 some ((M.1 1 12), M)
 else
 (fpX5_finding (0 : Int32) M).bind fun q8 =>
 some (q8.1, q8.2))))))))
set_option maxRecDepth 20000 in
theorem ctX5_now {z : Zt} {M : Me} {Q : Option Value → Me → Prop} (a1 : Int32)  (h : ok (fpX5_now a1 M) (fun a => Q (some (.int a.1)) a.2)) : EvM (wX, z) mtX5_now 1 21 [.ref 0, .int a1] M Q := by
  refine evm_of [some (.ref 0), some (.int a1)] 0 (by decide +kernel) (Nat.le_of_ble_eq_true rfl) rfl ?_
  unfold fpX5_now at h
  refine e_iload_n dX5_now_0 rfl ?_
  by_cases c1 : a1 = (0 : Int32)
  · refine e_tswC (0 : Int32) 44 c1 dX5_now_1 (by decide) (by decide) rfl (by decide) ?_
    have h := ok_t c1 h
    refine e_aload_n dX5_now_44 rfl ?_
    refine e_getR fa_RX5_10 is_X0 rfl dX5_now_45 ?_
    refine e_getI fa_RX5_139 is_X1 dX5_now_48 ?_
    have h := ok_some h
    exact e_iret rfl dX5_now_51 h
  · have h := ok_f c1 h
    by_cases c2 : a1 = (1 : Int32)
    · refine e_tswC (1 : Int32) 52 c2 dX5_now_1 (by decide) (by decide) rfl (by decide) ?_
      have h := ok_t c2 h
      refine e_aload_n dX5_now_52 rfl ?_
      refine e_getR fa_RX5_10 is_X0 rfl dX5_now_53 ?_
      refine e_getI fa_RX5_136 is_X1 dX5_now_56 ?_
      have h := ok_some h
      exact e_iret rfl dX5_now_59 h
    · have h := ok_f c2 h
      by_cases c3 : a1 = (2 : Int32)
      · refine e_tswC (2 : Int32) 60 c3 dX5_now_1 (by decide) (by decide) rfl (by decide) ?_
        have h := ok_t c3 h
        refine e_aload_n dX5_now_60 rfl ?_
        refine e_getR fa_RX5_10 is_X0 rfl dX5_now_61 ?_
        refine e_getI fa_RX5_142 is_X1 dX5_now_64 ?_
        have h := ok_some h
        exact e_iret rfl dX5_now_67 h
      · have h := ok_f c3 h
        by_cases c4 : a1 = (3 : Int32)
        · refine e_tswC (3 : Int32) 68 c4 dX5_now_1 (by decide) (by decide) rfl (by decide) ?_
          have h := ok_t c4 h
          refine e_aload_n dX5_now_68 rfl ?_
          refine e_getR fa_RX5_10 is_X0 rfl dX5_now_69 ?_
          refine e_getI fa_RX5_126 is_X1 dX5_now_72 ?_
          have h := ok_some h
          exact e_iret rfl dX5_now_75 h
        · have h := ok_f c4 h
          by_cases c5 : a1 = (4 : Int32)
          · refine e_tswC (4 : Int32) 76 c5 dX5_now_1 (by decide) (by decide) rfl (by decide) ?_
            have h := ok_t c5 h
            refine e_aload_n dX5_now_76 rfl ?_
            refine e_getR fa_RX5_10 is_X0 rfl dX5_now_77 ?_
            refine e_getI fa_RX5_145 is_X1 dX5_now_80 ?_
            have h := ok_some h
            exact e_iret rfl dX5_now_83 h
          · have h := ok_f c5 h
            by_cases c6 : a1 = (5 : Int32)
            · refine e_tswC (5 : Int32) 84 c6 dX5_now_1 (by decide) (by decide) rfl (by decide) ?_
              have h := ok_t c6 h
              refine e_aload_n dX5_now_84 rfl ?_
              refine e_getR fa_RX5_10 is_X0 rfl dX5_now_85 ?_
              refine e_getI fa_RX5_148 is_X1 dX5_now_88 ?_
              have h := ok_some h
              exact e_iret rfl dX5_now_91 h
            · have h := ok_f c6 h
              by_cases c7 : a1 = (6 : Int32)
              · refine e_tswC (6 : Int32) 92 c7 dX5_now_1 (by decide) (by decide) rfl (by decide) ?_
                have h := ok_t c7 h
                refine e_aload_n dX5_now_92 rfl ?_
                refine e_getR fa_RX5_10 is_X0 rfl dX5_now_93 ?_
                refine e_getI fa_RX5_151 is_X1 dX5_now_96 ?_
                have h := ok_some h
                exact e_iret rfl dX5_now_99 h
              · have h := ok_f c7 h
                refine e_tswD 100 dX5_now_1 (by have q0 := lv_neT (a := 0) c1 rfl; have q1 := lv_neT (a := 1) c2 rfl; have q2 := lv_neT (a := 2) c3 rfl; have q3 := lv_neT (a := 3) c4 rfl; have q4 := lv_neT (a := 4) c5 rfl; have q5 := lv_neT (a := 5) c6 rfl; have q6 := lv_neT (a := 6) c7 rfl; omega) (by decide) ?_
                refine e_aload_n dX5_now_100 rfl ?_
                refine e_iconst (0 : Int32) dX5_now_101 (by decide) ?_
                refine e_callV (f2 := 0) (l2 := 0) (ν := mtX5_finding) (as := [.int (0 : Int32)]) cv_RX5_55 is_X0 kc_1 ⟨Nat.le_of_ble_eq_true rfl, Nat.le_of_ble_eq_true rfl⟩ rfl rfl (Nat.le_of_ble_eq_true rfl) dX5_now_102 ?_
                refine ctX5_finding (0 : Int32) (ok_bnd h (fun q8 h => ?_))
                show Ev (wX, z) mtX5_now 1 21 105 [some (.ref 0), some (.int a1)] [.int q8.1] q8.2 Q
                have h := ok_some h
                exact e_iret rfl dX5_now_105 h
def fpX5_go_b65 (a1 : Int32) (a2 : Int32) (M : Me) : Option (Int32 × Me) := (fpX2_carryTo 1 a1 M).bind fun q4 =>
 (if a2 < (24 : Int32) then
 letv (wrM q4 1 9 a2) fun M6 =>
 some ((M6.1 1 4), M6)
 else
 (fpX2_beginDay 1 (a2 - (24 : Int32)) q4).bind fun q7 =>
 some ((q7.1 1 4), q7))
set_option maxRecDepth 20000 in
theorem ebX5_go_b65 {z : Zt} {Q : Option Value → Me → Prop} (a1 : Int32) (a2 : Int32) (M : Me) (h : ok (fpX5_go_b65 a1 a2 M) (fun a => Q (some (.int a.1)) a.2)) : Ev (wX, z) mtX5_go 3 64 65 [some (.ref 0), some (.int a1), some (.int a2)] [] M Q := by
  unfold fpX5_go_b65 at h
  refine e_aload_n dX5_go_65 rfl ?_
  refine e_getR fa_RX5_10 is_X0 rfl dX5_go_66 ?_
  refine e_iload_n dX5_go_69 rfl ?_
  refine e_callV (f2 := 2) (l2 := 42) (ν := mtX2_carryTo) (as := [.int a1]) cv_RX5_159 is_X1 kc_2 ⟨Nat.le_of_ble_eq_true rfl, Nat.le_of_ble_eq_true rfl⟩ rfl rfl (Nat.le_of_ble_eq_true rfl) dX5_go_70 ?_
  refine ctX2_carryTo 1 a1 is_X1 (ok_bnd h (fun q4 h => ?_))
  show Ev (wX, z) mtX5_go 3 64 73 [some (.ref 0), some (.int a1), some (.int a2)] [] q4 Q
  refine e_iload_n dX5_go_73 rfl ?_
  refine e_bipush (24 : Int32) dX5_go_74 (by decide) ?_
  refine e_icmp_lt 93 dX5_go_76 (by decide) (fun c5 => ?_) (fun c5 => ?_)
  · have h := ok_t c5 h
    refine e_aload_n dX5_go_93 rfl ?_
    refine e_getR fa_RX5_10 is_X0 rfl dX5_go_94 ?_
    refine e_iload_n dX5_go_97 rfl ?_
    refine e_putI fw_RX5_126 is_X1 dX5_go_98 ?_
    refine lv1 (P := fun M6 => Ev (wX, z) mtX5_go 3 64 101 [some (.ref 0), some (.int a1), some (.int a2)] [] M6 Q) h (fun M6 h => ?_)
    refine e_aload_n dX5_go_101 rfl ?_
    refine e_getR fa_RX5_10 is_X0 rfl dX5_go_102 ?_
    refine e_getI fa_RX5_136 is_X1 dX5_go_105 ?_
    have h := ok_some h
    exact e_iret rfl dX5_go_108 h
  · have h := ok_f c5 h
    refine e_aload_n dX5_go_79 rfl ?_
    refine e_getR fa_RX5_10 is_X0 rfl dX5_go_80 ?_
    refine e_iload_n dX5_go_83 rfl ?_
    refine e_bipush (24 : Int32) dX5_go_84 (by decide) ?_
    refine e_isub dX5_go_86 ?_
    refine e_callV (f2 := 0) (l2 := 0) (ν := mtX2_beginDay) (as := [.int (a2 - (24 : Int32))]) cv_RX5_163 is_X1 kc_2 ⟨Nat.le_of_ble_eq_true rfl, Nat.le_of_ble_eq_true rfl⟩ rfl rfl (Nat.le_of_ble_eq_true rfl) dX5_go_87 ?_
    refine ctX2_beginDay 1 (a2 - (24 : Int32)) is_X1 (ok_bnd h (fun q7 h => ?_))
    show Ev (wX, z) mtX5_go 3 64 90 [some (.ref 0), some (.int a1), some (.int a2)] [] q7 Q
    refine e_goto 101 dX5_go_90 (by decide) ?_
    refine e_aload_n dX5_go_101 rfl ?_
    refine e_getR fa_RX5_10 is_X0 rfl dX5_go_102 ?_
    refine e_getI fa_RX5_136 is_X1 dX5_go_105 ?_
    have h := ok_some h
    exact e_iret rfl dX5_go_108 h
def fpX5_go (a1 : Int32) (M : Me) : Option (Int32 × Me) := (if (fpX5_outside a1 (0 : Int32) (99 : Int32)) = 0 then
 letv ((M.1 1 9) + ((fpJ9_abs_0f7a4 ((M.1 1 3) - a1)) / (10 : Int32))) fun v2 =>
 (if v2 < (24 : Int32) then
 fpX5_go_b65 a1 v2 M
 else
 (if (M.1 1 10) < (999 : Int32) then
 fpX5_go_b65 a1 v2 M
 else
 (fpX5_finding (4 : Int32) M).bind fun q9 =>
 some (q9.1, q9.2)))
 else
 (fpX5_finding (0 : Int32) M).bind fun q10 =>
 some (q10.1, q10.2))
set_option maxRecDepth 20000 in
theorem ctX5_go {z : Zt} {M : Me} {Q : Option Value → Me → Prop} (a1 : Int32)  (h : ok (fpX5_go a1 M) (fun a => Q (some (.int a.1)) a.2)) : EvM (wX, z) mtX5_go 3 64 [.ref 0, .int a1] M Q := by
  refine evm_of [some (.ref 0), some (.int a1), none] 1 (by decide +kernel) (Nat.le_of_ble_eq_true rfl) rfl ?_
  unfold fpX5_go at h
  refine e_iload_n dX5_go_0 rfl ?_
  refine e_iconst (0 : Int32) dX5_go_1 (by decide) ?_
  refine e_bipush (99 : Int32) dX5_go_2 (by decide) ?_
  refine e_callS (f2 := 0) (l2 := 0) (ν := mtX5_outside) (as := [.int a1, .int (0 : Int32), .int (99 : Int32)]) cs_RX5_51 ⟨Nat.le_of_ble_eq_true rfl, Nat.le_of_ble_eq_true rfl⟩ rfl rfl (Nat.le_of_ble_eq_true rfl) dX5_go_4 ?_
  refine ctX5_outside a1 (0 : Int32) (99 : Int32) ?_
  show Ev (wX, z) mtX5_go 3 64 7 [some (.ref 0), some (.int a1), none] [.int (fpX5_outside a1 (0 : Int32) (99 : Int32))] M Q
  refine e_if_eq 16 dX5_go_7 (by decide) (fun c1 => ?_) (fun c1 => ?_)
  · have h := ok_t c1 h
    refine e_aload_n dX5_go_16 rfl ?_
    refine e_getR fa_RX5_10 is_X0 rfl dX5_go_17 ?_
    refine e_getI fa_RX5_126 is_X1 dX5_go_20 ?_
    refine e_aload_n dX5_go_23 rfl ?_
    refine e_getR fa_RX5_10 is_X0 rfl dX5_go_24 ?_
    refine e_getI fa_RX5_139 is_X1 dX5_go_27 ?_
    refine e_iload_n dX5_go_30 rfl ?_
    refine e_isub dX5_go_31 ?_
    refine e_callS (f2 := 0) (l2 := 0) (ν := mtJ9_abs_0f7a4) (as := [.int ((M.1 1 3) - a1)]) cs_RX5_154 ⟨Nat.le_of_ble_eq_true rfl, Nat.le_of_ble_eq_true rfl⟩ rfl rfl (Nat.le_of_ble_eq_true rfl) dX5_go_32 ?_
    refine ctJ9_abs_0f7a4 ((M.1 1 3) - a1) ?_
    show Ev (wX, z) mtX5_go 3 64 35 [some (.ref 0), some (.int a1), none] [.int (fpJ9_abs_0f7a4 ((M.1 1 3) - a1)), .int (M.1 1 9)] M Q
    refine e_bipush (10 : Int32) dX5_go_35 (by decide) ?_
    refine e_idiv dX5_go_37 (by decide) ?_
    refine e_iadd dX5_go_38 ?_
    refine lv1 (P := fun v2 => Ev (wX, z) mtX5_go 3 64 39 [some (.ref 0), some (.int a1), none] [.int v2] M Q) h (fun v2 h => ?_)
    refine e_istore_n dX5_go_39 (by decide) rfl ?_
    refine e_iload_n dX5_go_40 rfl ?_
    refine e_bipush (24 : Int32) dX5_go_41 (by decide) ?_
    refine e_icmp_lt 65 dX5_go_43 (by decide) (fun c3 => ?_) (fun c3 => ?_)
    · have h := ok_t c3 h
      refine e_forget [some (.ref 0), some (.int a1), some (.int v2)] (leL_s (leL_s (leL_s leL_0))) ?_
      exact ebX5_go_b65 a1 v2 M h
    · have h := ok_f c3 h
      refine e_aload_n dX5_go_46 rfl ?_
      refine e_getR fa_RX5_10 is_X0 rfl dX5_go_47 ?_
      refine e_getI fa_RX5_145 is_X1 dX5_go_50 ?_
      refine e_sipush (999 : Int32) dX5_go_53 (by decide) ?_
      refine e_icmp_lt 65 dX5_go_56 (by decide) (fun c8 => ?_) (fun c8 => ?_)
      · have h := ok_t c8 h
        refine e_forget [some (.ref 0), some (.int a1), some (.int v2)] (leL_s (leL_s (leL_s leL_0))) ?_
        exact ebX5_go_b65 a1 v2 M h
      · have h := ok_f c8 h
        refine e_aload_n dX5_go_59 rfl ?_
        refine e_iconst (4 : Int32) dX5_go_60 (by decide) ?_
        refine e_callV (f2 := 0) (l2 := 0) (ν := mtX5_finding) (as := [.int (4 : Int32)]) cv_RX5_55 is_X0 kc_1 ⟨Nat.le_of_ble_eq_true rfl, Nat.le_of_ble_eq_true rfl⟩ rfl rfl (Nat.le_of_ble_eq_true rfl) dX5_go_61 ?_
        refine ctX5_finding (4 : Int32) (ok_bnd h (fun q9 h => ?_))
        show Ev (wX, z) mtX5_go 3 64 64 [some (.ref 0), some (.int a1), some (.int v2)] [.int q9.1] q9.2 Q
        have h := ok_some h
        exact e_iret rfl dX5_go_64 h
  · have h := ok_f c1 h
    refine e_aload_n dX5_go_10 rfl ?_
    refine e_iconst (0 : Int32) dX5_go_11 (by decide) ?_
    refine e_callV (f2 := 0) (l2 := 0) (ν := mtX5_finding) (as := [.int (0 : Int32)]) cv_RX5_55 is_X0 kc_1 ⟨Nat.le_of_ble_eq_true rfl, Nat.le_of_ble_eq_true rfl⟩ rfl rfl (Nat.le_of_ble_eq_true rfl) dX5_go_12 ?_
    refine ctX5_finding (0 : Int32) (ok_bnd h (fun q10 h => ?_))
    show Ev (wX, z) mtX5_go 3 64 15 [some (.ref 0), some (.int a1), none] [.int q10.1] q10.2 Q
    have h := ok_some h
    exact e_iret rfl dX5_go_15 h
def fpX5_run (a1 : Int32) (M : Me) : Option (Int32 × Me) := (if (fpX2_has 1 a1 M) = 0 then
 (fpX5_finding (0 : Int32) M).bind fun q9 =>
 some (q9.1, q9.2)
 else
 (inb a1 8).bind fun k2 =>
 (if (M.1 (1 + 3 + k2) 1) = (M.1 1 3) then
 (fpX2_canRun 1 a1 M).bind fun v5 =>
 (if v5 = 0 then
 (fpX5_finding (4 : Int32) M).bind fun q8 =>
 some (q8.1, q8.2)
 else
 (fpX2_tryPump 1 a1 M).bind fun q7 =>
 some ((q7.1 1 4), q7))
 else
 (fpX5_finding (4 : Int32) M).bind fun q4 =>
 some (q4.1, q4.2)))
set_option maxRecDepth 20000 in
theorem ctX5_run {z : Zt} {M : Me} {Q : Option Value → Me → Prop} (a1 : Int32)  (h : ok (fpX5_run a1 M) (fun a => Q (some (.int a.1)) a.2)) : EvM (wX, z) mtX5_run 5 110 [.ref 0, .int a1] M Q := by
  refine evm_of [some (.ref 0), some (.int a1)] 0 (by decide +kernel) (Nat.le_of_ble_eq_true rfl) rfl ?_
  unfold fpX5_run at h
  refine e_aload_n dX5_run_0 rfl ?_
  refine e_getR fa_RX5_10 is_X0 rfl dX5_run_1 ?_
  refine e_iload_n dX5_run_4 rfl ?_
  refine e_callV (f2 := 0) (l2 := 0) (ν := mtX2_has) (as := [.int a1]) cv_RX5_71 is_X1 kc_2 ⟨Nat.le_of_ble_eq_true rfl, Nat.le_of_ble_eq_true rfl⟩ rfl rfl (Nat.le_of_ble_eq_true rfl) dX5_run_5 ?_
  refine ctX2_has 1 a1 is_X1 ?_
  show Ev (wX, z) mtX5_run 5 110 8 [some (.ref 0), some (.int a1)] [.int (fpX2_has 1 a1 M)] M Q
  refine e_if_ne 17 dX5_run_8 (by decide) (fun c1 => ?_) (fun c1 => ?_)
  · have h := ok_f c1 h
    refine e_aload_n dX5_run_17 rfl ?_
    refine e_getR fa_RX5_10 is_X0 rfl dX5_run_18 ?_
    refine e_getR fa_RX5_75 is_X1 rfl dX5_run_21 ?_
    refine e_iload_n dX5_run_24 rfl ?_
    refine ok_inb h (fun k2 ek2 ik2 h => ?_)
    refine e_aaldK ra_X2 (r' := (1 + 3 + k2)) (Or.inl rfl) ik2 ek2 (by omega) dX5_run_25 ?_
    refine e_getI fa_RX5_84 (pm_is is_X1 ik2 ek2) dX5_run_26 ?_
    refine e_aload_n dX5_run_29 rfl ?_
    refine e_getR fa_RX5_10 is_X0 rfl dX5_run_30 ?_
    refine e_getI fa_RX5_139 is_X1 dX5_run_33 ?_
    refine e_icmp_ne 50 dX5_run_36 (by decide) (fun c3 => ?_) (fun c3 => ?_)
    · have h := ok_f c3 h
      refine e_aload_n dX5_run_50 rfl ?_
      refine e_iconst (4 : Int32) dX5_run_51 (by decide) ?_
      refine e_callV (f2 := 0) (l2 := 0) (ν := mtX5_finding) (as := [.int (4 : Int32)]) cv_RX5_55 is_X0 kc_1 ⟨Nat.le_of_ble_eq_true rfl, Nat.le_of_ble_eq_true rfl⟩ rfl rfl (Nat.le_of_ble_eq_true rfl) dX5_run_52 ?_
      refine ctX5_finding (4 : Int32) (ok_bnd h (fun q4 h => ?_))
      show Ev (wX, z) mtX5_run 5 110 55 [some (.ref 0), some (.int a1)] [.int q4.1] q4.2 Q
      have h := ok_some h
      exact e_iret rfl dX5_run_55 h
    · have h := ok_t c3 h
      refine e_aload_n dX5_run_39 rfl ?_
      refine e_getR fa_RX5_10 is_X0 rfl dX5_run_40 ?_
      refine e_iload_n dX5_run_43 rfl ?_
      refine e_callV (f2 := 4) (l2 := 86) (ν := mtX2_canRun) (as := [.int a1]) cv_RX5_166 is_X1 kc_2 ⟨Nat.le_of_ble_eq_true rfl, Nat.le_of_ble_eq_true rfl⟩ rfl rfl (Nat.le_of_ble_eq_true rfl) dX5_run_44 ?_
      refine ctX2_canRun 1 a1 is_X1 (ok_bnd h (fun v5 h => ?_))
      show Ev (wX, z) mtX5_run 5 110 47 [some (.ref 0), some (.int a1)] [.int v5] M Q
      refine e_if_ne 56 dX5_run_47 (by decide) (fun c6 => ?_) (fun c6 => ?_)
      · have h := ok_f c6 h
        refine e_aload_n dX5_run_56 rfl ?_
        refine e_getR fa_RX5_10 is_X0 rfl dX5_run_57 ?_
        refine e_iload_n dX5_run_60 rfl ?_
        refine e_callV (f2 := 4) (l2 := 86) (ν := mtX2_tryPump) (as := [.int a1]) cv_RX5_169 is_X1 kc_2 ⟨Nat.le_of_ble_eq_true rfl, Nat.le_of_ble_eq_true rfl⟩ rfl rfl (Nat.le_of_ble_eq_true rfl) dX5_run_61 ?_
        refine ctX2_tryPump 1 a1 is_X1 (ok_bnd h (fun q7 h => ?_))
        show Ev (wX, z) mtX5_run 5 110 64 [some (.ref 0), some (.int a1)] [] q7 Q
        refine e_aload_n dX5_run_64 rfl ?_
        refine e_getR fa_RX5_10 is_X0 rfl dX5_run_65 ?_
        refine e_getI fa_RX5_136 is_X1 dX5_run_68 ?_
        have h := ok_some h
        exact e_iret rfl dX5_run_71 h
      · have h := ok_t c6 h
        refine e_aload_n dX5_run_50 rfl ?_
        refine e_iconst (4 : Int32) dX5_run_51 (by decide) ?_
        refine e_callV (f2 := 0) (l2 := 0) (ν := mtX5_finding) (as := [.int (4 : Int32)]) cv_RX5_55 is_X0 kc_1 ⟨Nat.le_of_ble_eq_true rfl, Nat.le_of_ble_eq_true rfl⟩ rfl rfl (Nat.le_of_ble_eq_true rfl) dX5_run_52 ?_
        refine ctX5_finding (4 : Int32) (ok_bnd h (fun q8 h => ?_))
        show Ev (wX, z) mtX5_run 5 110 55 [some (.ref 0), some (.int a1)] [.int q8.1] q8.2 Q
        have h := ok_some h
        exact e_iret rfl dX5_run_55 h
  · have h := ok_t c1 h
    refine e_aload_n dX5_run_11 rfl ?_
    refine e_iconst (0 : Int32) dX5_run_12 (by decide) ?_
    refine e_callV (f2 := 0) (l2 := 0) (ν := mtX5_finding) (as := [.int (0 : Int32)]) cv_RX5_55 is_X0 kc_1 ⟨Nat.le_of_ble_eq_true rfl, Nat.le_of_ble_eq_true rfl⟩ rfl rfl (Nat.le_of_ble_eq_true rfl) dX5_run_13 ?_
    refine ctX5_finding (0 : Int32) (ok_bnd h (fun q9 h => ?_))
    show Ev (wX, z) mtX5_run 5 110 16 [some (.ref 0), some (.int a1)] [.int q9.1] q9.2 Q
    have h := ok_some h
    exact e_iret rfl dX5_run_16 h
def fpX5_can (a1 : Int32) (M : Me) : Option (Int32 × Me) := (if (fpX2_has 1 a1 M) = 0 then
 (fpX5_finding (0 : Int32) M).bind fun q4 =>
 some (q4.1, q4.2)
 else
 (fpX2_canRun 1 a1 M).bind fun v2 =>
 (if v2 = 0 then
 some ((0 : Int32), M)
 else
 some ((1 : Int32), M)))
set_option maxRecDepth 20000 in
theorem ctX5_can {z : Zt} {M : Me} {Q : Option Value → Me → Prop} (a1 : Int32)  (h : ok (fpX5_can a1 M) (fun a => Q (some (.int a.1)) a.2)) : EvM (wX, z) mtX5_can 5 107 [.ref 0, .int a1] M Q := by
  refine evm_of [some (.ref 0), some (.int a1)] 0 (by decide +kernel) (Nat.le_of_ble_eq_true rfl) rfl ?_
  unfold fpX5_can at h
  refine e_aload_n dX5_can_0 rfl ?_
  refine e_getR fa_RX5_10 is_X0 rfl dX5_can_1 ?_
  refine e_iload_n dX5_can_4 rfl ?_
  refine e_callV (f2 := 0) (l2 := 0) (ν := mtX2_has) (as := [.int a1]) cv_RX5_71 is_X1 kc_2 ⟨Nat.le_of_ble_eq_true rfl, Nat.le_of_ble_eq_true rfl⟩ rfl rfl (Nat.le_of_ble_eq_true rfl) dX5_can_5 ?_
  refine ctX2_has 1 a1 is_X1 ?_
  show Ev (wX, z) mtX5_can 5 107 8 [some (.ref 0), some (.int a1)] [.int (fpX2_has 1 a1 M)] M Q
  refine e_if_ne 17 dX5_can_8 (by decide) (fun c1 => ?_) (fun c1 => ?_)
  · have h := ok_f c1 h
    refine e_aload_n dX5_can_17 rfl ?_
    refine e_getR fa_RX5_10 is_X0 rfl dX5_can_18 ?_
    refine e_iload_n dX5_can_21 rfl ?_
    refine e_callV (f2 := 4) (l2 := 86) (ν := mtX2_canRun) (as := [.int a1]) cv_RX5_166 is_X1 kc_2 ⟨Nat.le_of_ble_eq_true rfl, Nat.le_of_ble_eq_true rfl⟩ rfl rfl (Nat.le_of_ble_eq_true rfl) dX5_can_22 ?_
    refine ctX2_canRun 1 a1 is_X1 (ok_bnd h (fun v2 h => ?_))
    show Ev (wX, z) mtX5_can 5 107 25 [some (.ref 0), some (.int a1)] [.int v2] M Q
    refine e_if_eq 32 dX5_can_25 (by decide) (fun c3 => ?_) (fun c3 => ?_)
    · have h := ok_t c3 h
      refine e_iconst (0 : Int32) dX5_can_32 (by decide) ?_
      have h := ok_some h
      exact e_iret rfl dX5_can_33 h
    · have h := ok_f c3 h
      refine e_iconst (1 : Int32) dX5_can_28 (by decide) ?_
      refine e_goto 33 dX5_can_29 (by decide) ?_
      have h := ok_some h
      exact e_iret rfl dX5_can_33 h
  · have h := ok_t c1 h
    refine e_aload_n dX5_can_11 rfl ?_
    refine e_iconst (0 : Int32) dX5_can_12 (by decide) ?_
    refine e_callV (f2 := 0) (l2 := 0) (ν := mtX5_finding) (as := [.int (0 : Int32)]) cv_RX5_55 is_X0 kc_1 ⟨Nat.le_of_ble_eq_true rfl, Nat.le_of_ble_eq_true rfl⟩ rfl rfl (Nat.le_of_ble_eq_true rfl) dX5_can_13 ?_
    refine ctX5_finding (0 : Int32) (ok_bnd h (fun q4 h => ?_))
    show Ev (wX, z) mtX5_can 5 107 16 [some (.ref 0), some (.int a1)] [.int q4.1] q4.2 Q
    have h := ok_some h
    exact e_iret rfl dX5_can_16 h
def fpX5_pour  (M : Me) : Option (Int32 × Me) := (if (M.1 1 3) = 0 then
 letv (M.1 1 4) fun v2 =>
 letv (wrM M 1 5 ((M.1 1 5) + v2)) fun M3 =>
 letv (wrM M3 1 4 (0 : Int32)) fun M4 =>
 some (v2, M4)
 else
 (fpX5_finding (4 : Int32) M).bind fun q5 =>
 some (q5.1, q5.2))
set_option maxRecDepth 20000 in
theorem ctX5_pour {z : Zt} {M : Me} {Q : Option Value → Me → Prop}   (h : ok (fpX5_pour M) (fun a => Q (some (.int a.1)) a.2)) : EvM (wX, z) mtX5_pour 1 21 [.ref 0] M Q := by
  refine evm_of [some (.ref 0), none] 1 (by decide +kernel) (Nat.le_of_ble_eq_true rfl) rfl ?_
  unfold fpX5_pour at h
  refine e_aload_n dX5_pour_0 rfl ?_
  refine e_getR fa_RX5_10 is_X0 rfl dX5_pour_1 ?_
  refine e_getI fa_RX5_139 is_X1 dX5_pour_4 ?_
  refine e_if_eq 16 dX5_pour_7 (by decide) (fun c1 => ?_) (fun c1 => ?_)
  · have h := ok_t c1 h
    refine e_aload_n dX5_pour_16 rfl ?_
    refine e_getR fa_RX5_10 is_X0 rfl dX5_pour_17 ?_
    refine e_getI fa_RX5_136 is_X1 dX5_pour_20 ?_
    refine lv1 (P := fun v2 => Ev (wX, z) mtX5_pour 1 21 23 [some (.ref 0), none] [.int v2] M Q) h (fun v2 h => ?_)
    refine e_istore_n dX5_pour_23 (by decide) rfl ?_
    refine e_aload_n dX5_pour_24 rfl ?_
    refine e_getR fa_RX5_10 is_X0 rfl dX5_pour_25 ?_
    refine e_dup dX5_pour_28 rfl ?_
    refine e_getI fa_RX5_142 is_X1 dX5_pour_29 ?_
    refine e_iload_n dX5_pour_32 rfl ?_
    refine e_iadd dX5_pour_33 ?_
    refine e_putI fw_RX5_142 is_X1 dX5_pour_34 ?_
    refine lv1 (P := fun M3 => Ev (wX, z) mtX5_pour 1 21 37 [some (.ref 0), some (.int v2)] [] M3 Q) h (fun M3 h => ?_)
    refine e_aload_n dX5_pour_37 rfl ?_
    refine e_getR fa_RX5_10 is_X0 rfl dX5_pour_38 ?_
    refine e_iconst (0 : Int32) dX5_pour_41 (by decide) ?_
    refine e_putI fw_RX5_136 is_X1 dX5_pour_42 ?_
    refine lv1 (P := fun M4 => Ev (wX, z) mtX5_pour 1 21 45 [some (.ref 0), some (.int v2)] [] M4 Q) h (fun M4 h => ?_)
    refine e_iload_n dX5_pour_45 rfl ?_
    have h := ok_some h
    exact e_iret rfl dX5_pour_46 h
  · have h := ok_f c1 h
    refine e_aload_n dX5_pour_10 rfl ?_
    refine e_iconst (4 : Int32) dX5_pour_11 (by decide) ?_
    refine e_callV (f2 := 0) (l2 := 0) (ν := mtX5_finding) (as := [.int (4 : Int32)]) cv_RX5_55 is_X0 kc_1 ⟨Nat.le_of_ble_eq_true rfl, Nat.le_of_ble_eq_true rfl⟩ rfl rfl (Nat.le_of_ble_eq_true rfl) dX5_pour_12 ?_
    refine ctX5_finding (4 : Int32) (ok_bnd h (fun q5 h => ?_))
    show Ev (wX, z) mtX5_pour 1 21 15 [some (.ref 0), none] [.int q5.1] q5.2 Q
    have h := ok_some h
    exact e_iret rfl dX5_pour_15 h
def fpX5_fill (a1 : Int32) (M : Me) : Option (Int32 × Me) := (if (fpX5_outside a1 (1 : Int32) (999 : Int32)) = 0 then
 (if (M.1 1 3) = 0 then
 (if (M.1 1 5) < a1 then
 (fpX5_finding (4 : Int32) M).bind fun q5 =>
 some (q5.1, q5.2)
 else
 (if ((M.1 1 4) + a1) ≤ (M.1 1 6) then
 letv (wrM M 1 5 ((M.1 1 5) - a1)) fun M7 =>
 letv (wrM M7 1 4 ((M7.1 1 4) + a1)) fun M8 =>
 some ((M8.1 1 4), M8)
 else
 (fpX5_finding (4 : Int32) M).bind fun q9 =>
 some (q9.1, q9.2)))
 else
 (fpX5_finding (4 : Int32) M).bind fun q3 =>
 some (q3.1, q3.2))
 else
 (fpX5_finding (0 : Int32) M).bind fun q10 =>
 some (q10.1, q10.2))
set_option maxRecDepth 20000 in
theorem ctX5_fill {z : Zt} {M : Me} {Q : Option Value → Me → Prop} (a1 : Int32)  (h : ok (fpX5_fill a1 M) (fun a => Q (some (.int a.1)) a.2)) : EvM (wX, z) mtX5_fill 1 22 [.ref 0, .int a1] M Q := by
  refine evm_of [some (.ref 0), some (.int a1)] 0 (by decide +kernel) (Nat.le_of_ble_eq_true rfl) rfl ?_
  unfold fpX5_fill at h
  refine e_iload_n dX5_fill_0 rfl ?_
  refine e_iconst (1 : Int32) dX5_fill_1 (by decide) ?_
  refine e_sipush (999 : Int32) dX5_fill_2 (by decide) ?_
  refine e_callS (f2 := 0) (l2 := 0) (ν := mtX5_outside) (as := [.int a1, .int (1 : Int32), .int (999 : Int32)]) cs_RX5_51 ⟨Nat.le_of_ble_eq_true rfl, Nat.le_of_ble_eq_true rfl⟩ rfl rfl (Nat.le_of_ble_eq_true rfl) dX5_fill_5 ?_
  refine ctX5_outside a1 (1 : Int32) (999 : Int32) ?_
  show Ev (wX, z) mtX5_fill 1 22 8 [some (.ref 0), some (.int a1)] [.int (fpX5_outside a1 (1 : Int32) (999 : Int32))] M Q
  refine e_if_eq 17 dX5_fill_8 (by decide) (fun c1 => ?_) (fun c1 => ?_)
  · have h := ok_t c1 h
    refine e_aload_n dX5_fill_17 rfl ?_
    refine e_getR fa_RX5_10 is_X0 rfl dX5_fill_18 ?_
    refine e_getI fa_RX5_139 is_X1 dX5_fill_21 ?_
    refine e_if_ne 57 dX5_fill_24 (by decide) (fun c2 => ?_) (fun c2 => ?_)
    · have h := ok_f c2 h
      refine e_aload_n dX5_fill_57 rfl ?_
      refine e_iconst (4 : Int32) dX5_fill_58 (by decide) ?_
      refine e_callV (f2 := 0) (l2 := 0) (ν := mtX5_finding) (as := [.int (4 : Int32)]) cv_RX5_55 is_X0 kc_1 ⟨Nat.le_of_ble_eq_true rfl, Nat.le_of_ble_eq_true rfl⟩ rfl rfl (Nat.le_of_ble_eq_true rfl) dX5_fill_59 ?_
      refine ctX5_finding (4 : Int32) (ok_bnd h (fun q3 h => ?_))
      show Ev (wX, z) mtX5_fill 1 22 62 [some (.ref 0), some (.int a1)] [.int q3.1] q3.2 Q
      have h := ok_some h
      exact e_iret rfl dX5_fill_62 h
    · have h := ok_t c2 h
      refine e_aload_n dX5_fill_27 rfl ?_
      refine e_getR fa_RX5_10 is_X0 rfl dX5_fill_28 ?_
      refine e_getI fa_RX5_142 is_X1 dX5_fill_31 ?_
      refine e_iload_n dX5_fill_34 rfl ?_
      refine e_icmp_lt 57 dX5_fill_35 (by decide) (fun c4 => ?_) (fun c4 => ?_)
      · have h := ok_t c4 h
        refine e_aload_n dX5_fill_57 rfl ?_
        refine e_iconst (4 : Int32) dX5_fill_58 (by decide) ?_
        refine e_callV (f2 := 0) (l2 := 0) (ν := mtX5_finding) (as := [.int (4 : Int32)]) cv_RX5_55 is_X0 kc_1 ⟨Nat.le_of_ble_eq_true rfl, Nat.le_of_ble_eq_true rfl⟩ rfl rfl (Nat.le_of_ble_eq_true rfl) dX5_fill_59 ?_
        refine ctX5_finding (4 : Int32) (ok_bnd h (fun q5 h => ?_))
        show Ev (wX, z) mtX5_fill 1 22 62 [some (.ref 0), some (.int a1)] [.int q5.1] q5.2 Q
        have h := ok_some h
        exact e_iret rfl dX5_fill_62 h
      · have h := ok_f c4 h
        refine e_aload_n dX5_fill_38 rfl ?_
        refine e_getR fa_RX5_10 is_X0 rfl dX5_fill_39 ?_
        refine e_getI fa_RX5_136 is_X1 dX5_fill_42 ?_
        refine e_iload_n dX5_fill_45 rfl ?_
        refine e_iadd dX5_fill_46 ?_
        refine e_aload_n dX5_fill_47 rfl ?_
        refine e_getR fa_RX5_10 is_X0 rfl dX5_fill_48 ?_
        refine e_getI fa_RX5_117 is_X1 dX5_fill_51 ?_
        refine e_icmp_le 63 dX5_fill_54 (by decide) (fun c6 => ?_) (fun c6 => ?_)
        · have h := ok_t c6 h
          refine e_aload_n dX5_fill_63 rfl ?_
          refine e_getR fa_RX5_10 is_X0 rfl dX5_fill_64 ?_
          refine e_dup dX5_fill_67 rfl ?_
          refine e_getI fa_RX5_142 is_X1 dX5_fill_68 ?_
          refine e_iload_n dX5_fill_71 rfl ?_
          refine e_isub dX5_fill_72 ?_
          refine e_putI fw_RX5_142 is_X1 dX5_fill_73 ?_
          refine lv1 (P := fun M7 => Ev (wX, z) mtX5_fill 1 22 76 [some (.ref 0), some (.int a1)] [] M7 Q) h (fun M7 h => ?_)
          refine e_aload_n dX5_fill_76 rfl ?_
          refine e_getR fa_RX5_10 is_X0 rfl dX5_fill_77 ?_
          refine e_dup dX5_fill_80 rfl ?_
          refine e_getI fa_RX5_136 is_X1 dX5_fill_81 ?_
          refine e_iload_n dX5_fill_84 rfl ?_
          refine e_iadd dX5_fill_85 ?_
          refine e_putI fw_RX5_136 is_X1 dX5_fill_86 ?_
          refine lv1 (P := fun M8 => Ev (wX, z) mtX5_fill 1 22 89 [some (.ref 0), some (.int a1)] [] M8 Q) h (fun M8 h => ?_)
          refine e_aload_n dX5_fill_89 rfl ?_
          refine e_getR fa_RX5_10 is_X0 rfl dX5_fill_90 ?_
          refine e_getI fa_RX5_136 is_X1 dX5_fill_93 ?_
          have h := ok_some h
          exact e_iret rfl dX5_fill_96 h
        · have h := ok_f c6 h
          refine e_aload_n dX5_fill_57 rfl ?_
          refine e_iconst (4 : Int32) dX5_fill_58 (by decide) ?_
          refine e_callV (f2 := 0) (l2 := 0) (ν := mtX5_finding) (as := [.int (4 : Int32)]) cv_RX5_55 is_X0 kc_1 ⟨Nat.le_of_ble_eq_true rfl, Nat.le_of_ble_eq_true rfl⟩ rfl rfl (Nat.le_of_ble_eq_true rfl) dX5_fill_59 ?_
          refine ctX5_finding (4 : Int32) (ok_bnd h (fun q9 h => ?_))
          show Ev (wX, z) mtX5_fill 1 22 62 [some (.ref 0), some (.int a1)] [.int q9.1] q9.2 Q
          have h := ok_some h
          exact e_iret rfl dX5_fill_62 h
  · have h := ok_f c1 h
    refine e_aload_n dX5_fill_11 rfl ?_
    refine e_iconst (0 : Int32) dX5_fill_12 (by decide) ?_
    refine e_callV (f2 := 0) (l2 := 0) (ν := mtX5_finding) (as := [.int (0 : Int32)]) cv_RX5_55 is_X0 kc_1 ⟨Nat.le_of_ble_eq_true rfl, Nat.le_of_ble_eq_true rfl⟩ rfl rfl (Nat.le_of_ble_eq_true rfl) dX5_fill_13 ?_
    refine ctX5_finding (0 : Int32) (ok_bnd h (fun q10 h => ?_))
    show Ev (wX, z) mtX5_fill 1 22 16 [some (.ref 0), some (.int a1)] [.int q10.1] q10.2 Q
    have h := ok_some h
    exact e_iret rfl dX5_fill_16 h
