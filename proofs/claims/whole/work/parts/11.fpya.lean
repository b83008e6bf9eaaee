def fpX6_in (a0 : Int64) (a2 : Int64) (a4 : Int64) : Int32 := (if (lg_cmp a0 a2) < 0 then (0 : Int32) else (if 0 < (lg_cmp a0 a4) then (0 : Int32) else (1 : Int32)))
theorem fpzX6_in (a0 : Int64) (a2 : Int64) (a4 : Int64) : fpX6_in a0 a2 a4 = 0 ∨ fpX6_in a0 a2 a4 = 1 := by
  unfold fpX6_in
  (repeat' split) <;> first | exact Or.inl rfl | exact Or.inr rfl
set_option maxRecDepth 20000 in
theorem ctX6_in {z : Zt} {M : Me} {Q : Option Value → Me → Prop} (a0 : Int64) (a2 : Int64) (a4 : Int64)  (h : Q (some (.int (fpX6_in a0 a2 a4))) M) : EvM (wY, z) mtX6_in 0 0 [.long a0, .long a2, .long a4] M Q := by
  refine evm_of [some (.long a0), none, some (.long a2), none, some (.long a4), none] 0 (by decide +kernel) (Nat.le_of_ble_eq_true rfl) rfl ?_
  refine e_lload_n dX6_in_0 rfl ?_
  refine e_lload_n dX6_in_1 rfl ?_
  refine e_lcmp dX6_in_2 ?_
  refine e_if_lt 17 dX6_in_3 (by decide) (fun c1 => ?_) (fun c1 => ?_)
  · refine e_iconst (0 : Int32) dX6_in_17 (by decide) ?_
    have e0 : fpX6_in a0 a2 a4 = (0 : Int32) := by
      unfold fpX6_in
      rw [if_pos c1]
    rw [e0] at h
    exact e_zret rfl (Or.inl rfl) dX6_in_18 h
  · refine e_lload_n dX6_in_6 rfl ?_
    refine e_lload dX6_in_7 rfl ?_
    refine e_lcmp dX6_in_9 ?_
    refine e_if_gt 17 dX6_in_10 (by decide) (fun c2 => ?_) (fun c2 => ?_)
    · refine e_iconst (0 : Int32) dX6_in_17 (by decide) ?_
      have e0 : fpX6_in a0 a2 a4 = (0 : Int32) := by
        unfold fpX6_in
        rw [if_neg c1, if_pos c2]
      rw [e0] at h
      exact e_zret rfl (Or.inl rfl) dX6_in_18 h
    · refine e_iconst (1 : Int32) dX6_in_13 (by decide) ?_
      refine e_goto 18 dX6_in_14 (by decide) ?_
      have e0 : fpX6_in a0 a2 a4 = (1 : Int32) := by
        unfold fpX6_in
        rw [if_neg c1, if_neg c2]
      rw [e0] at h
      exact e_zret rfl (Or.inr rfl) dX6_in_18 h
def fpX6_finds (a1 : Int32) (M : Me) : Option (Int32 × Me) := letv ((-1000001 : Int32) - a1) fun v1 =>
 (inb v1 7).bind fun k2 =>
 letv (wrM M 4 k2 ((M.1 4 k2) + (1 : Int32))) fun M3 =>
 some (a1, M3)
set_option maxRecDepth 20000 in
theorem ctX6_finds {z : Zt} {M : Me} {Q : Option Value → Me → Prop} (a1 : Int32)  (h : ok (fpX6_finds a1 M) (fun a => Q (some (.int a.1)) a.2)) : EvM (wY, z) mtX6_finds 0 0 [.ref 0, .int a1] M Q := by
  refine evm_of [some (.ref 0), some (.int a1)] 0 (by decide +kernel) (Nat.le_of_ble_eq_true rfl) rfl ?_
  unfold fpX6_finds at h
  refine e_aload_n dX6_finds_0 rfl ?_
  refine e_getR fa_RX6_19 is_Y0 rfl dX6_finds_1 ?_
  refine e_ldc wk_RX6_55 dX6_finds_4 ?_
  refine e_iload_n dX6_finds_6 rfl ?_
  refine e_isub dX6_finds_7 ?_
  refine lv1 (P := fun v1 => Ev (wY, z) mtX6_finds 0 0 8 [some (.ref 0), some (.int a1)] [.int v1, .ref 4] M Q) h (fun v1 h => ?_)
  refine e_dup2 dX6_finds_8 rfl rfl ?_
  refine ok_inb h (fun k2 ek2 ik2 h => ?_)
  refine e_ialdK ia_Y4 ik2 ek2 dX6_finds_9 ?_
  refine e_iconst (1 : Int32) dX6_finds_10 (by decide) ?_
  refine e_iadd dX6_finds_11 ?_
  refine e_iastK ia_Y4 ik2 ek2 dX6_finds_12 ?_
  refine lv1 (P := fun M3 => Ev (wY, z) mtX6_finds 0 0 13 [some (.ref 0), some (.int a1)] [] M3 Q) h (fun M3 h => ?_)
  refine e_iload_n dX6_finds_13 rfl ?_
  have h := ok_some h
  exact e_iret rfl dX6_finds_14 h
def fpX6_isMile (a0 : Int32) : Int32 := (fpX6_in (a0.toInt64) (0 : Int64) (99 : Int64))
theorem fpzX6_isMile (a0 : Int32) : fpX6_isMile a0 = 0 ∨ fpX6_isMile a0 = 1 := by
  unfold fpX6_isMile
  (repeat' split) <;> first | exact Or.inl rfl | exact Or.inr rfl | apply fpzX6_in
set_option maxRecDepth 20000 in
theorem ctX6_isMile {z : Zt} {M : Me} {Q : Option Value → Me → Prop} (a0 : Int32)  (h : Q (some (.int (fpX6_isMile a0))) M) : EvM (wY, z) mtX6_isMile 1 25 [.int a0] M Q := by
  refine evm_of [some (.int a0)] 0 (by decide +kernel) (Nat.le_of_ble_eq_true rfl) rfl ?_
  refine e_iload_n dX6_isMile_0 rfl ?_
  refine e_i2l dX6_isMile_1 ?_
  refine e_lconst (0 : Int64) dX6_isMile_2 (by decide) ?_
  refine e_ldc2 wk_RX6_56 dX6_isMile_3 ?_
  refine e_callS (f2 := 0) (l2 := 0) (ν := mtX6_in) (as := [.long (a0.toInt64), .long (0 : Int64), .long (99 : Int64)]) cs_RX6_58 ⟨Nat.le_of_ble_eq_true rfl, Nat.le_of_ble_eq_true rfl⟩ rfl rfl (Nat.le_of_ble_eq_true rfl) dX6_isMile_6 ?_
  refine ctX6_in (a0.toInt64) (0 : Int64) (99 : Int64) ?_
  show Ev (wY, z) mtX6_isMile 1 25 9 [some (.int a0)] [.int (fpX6_in (a0.toInt64) (0 : Int64) (99 : Int64))] M Q
  have e0 : fpX6_isMile a0 = (fpX6_in (a0.toInt64) (0 : Int64) (99 : Int64)) := rfl
  rw [e0] at h
  exact e_zret rfl (fpzX6_in (a0.toInt64) (0 : Int64) (99 : Int64)) dX6_isMile_9 h
def fpX6_isPump (a1 : Int32) (M : Me) : Int32 := (fpX6_in (a1.toInt64) (0 : Int64) (((M.1 1 0) - (1 : Int32)).toInt64))
theorem fpzX6_isPump (a1 : Int32) (M : Me) : fpX6_isPump a1 M = 0 ∨ fpX6_isPump a1 M = 1 := by
  unfold fpX6_isPump
  (repeat' split) <;> first | exact Or.inl rfl | exact Or.inr rfl | apply fpzX6_in
set_option maxRecDepth 20000 in
theorem ctX6_isPump {z : Zt} {M : Me} {Q : Option Value → Me → Prop} (a1 : Int32)  (h : Q (some (.int (fpX6_isPump a1 M))) M) : EvM (wY, z) mtX6_isPump 1 25 [.ref 0, .int a1] M Q := by
  refine evm_of [some (.ref 0), some (.int a1)] 0 (by decide +kernel) (Nat.le_of_ble_eq_true rfl) rfl ?_
  refine e_iload_n dX6_isPump_0 rfl ?_
  refine e_i2l dX6_isPump_1 ?_
  refine e_lconst (0 : Int64) dX6_isPump_2 (by decide) ?_
  refine e_aload_n dX6_isPump_3 rfl ?_
  refine e_getR fa_RX6_7 is_Y0 rfl dX6_isPump_4 ?_
  refine e_iconst (0 : Int32) dX6_isPump_7 (by decide) ?_
  refine e_ialdK ia_Y1 (by unfold vp_in; decide) (q := 0) (by decide) dX6_isPump_8 ?_
  refine e_iconst (1 : Int32) dX6_isPump_9 (by decide) ?_
  refine e_isub dX6_isPump_10 ?_
  refine e_i2l dX6_isPump_11 ?_
  refine e_callS (f2 := 0) (l2 := 0) (ν := mtX6_in) (as := [.long (a1.toInt64), .long (0 : Int64), .long (((M.1 1 0) - (1 : Int32)).toInt64)]) cs_RX6_58 ⟨Nat.le_of_ble_eq_true rfl, Nat.le_of_ble_eq_true rfl⟩ rfl rfl (Nat.le_of_ble_eq_true rfl) dX6_isPump_12 ?_
  refine ctX6_in (a1.toInt64) (0 : Int64) (((M.1 1 0) - (1 : Int32)).toInt64) ?_
  show Ev (wY, z) mtX6_isPump 1 25 15 [some (.ref 0), some (.int a1)] [.int (fpX6_in (a1.toInt64) (0 : Int64) (((M.1 1 0) - (1 : Int32)).toInt64))] M Q
  have e0 : fpX6_isPump a1 M = (fpX6_in (a1.toInt64) (0 : Int64) (((M.1 1 0) - (1 : Int32)).toInt64)) := rfl
  rw [e0] at h
  exact e_zret rfl (fpzX6_in (a1.toInt64) (0 : Int64) (((M.1 1 0) - (1 : Int32)).toInt64)) dX6_isPump_15 h
def fpX6_isWater (a1 : Int32) (M : Me) : Int32 := (fpX6_in (a1.toInt64) (0 : Int64) ((M.1 1 2).toInt64))
theorem fpzX6_isWater (a1 : Int32) (M : Me) : fpX6_isWater a1 M = 0 ∨ fpX6_isWater a1 M = 1 := by
  unfold fpX6_isWater
  (repeat' split) <;> first | exact Or.inl rfl | exact Or.inr rfl | apply fpzX6_in
set_option maxRecDepth 20000 in
theorem ctX6_isWater {z : Zt} {M : Me} {Q : Option Value → Me → Prop} (a1 : Int32)  (h : Q (some (.int (fpX6_isWater a1 M))) M) : EvM (wY, z) mtX6_isWater 1 25 [.ref 0, .int a1] M Q := by
  refine evm_of [some (.ref 0), some (.int a1)] 0 (by decide +kernel) (Nat.le_of_ble_eq_true rfl) rfl ?_
  refine e_iload_n dX6_isWater_0 rfl ?_
  refine e_i2l dX6_isWater_1 ?_
  refine e_lconst (0 : Int64) dX6_isWater_2 (by decide) ?_
  refine e_aload_n dX6_isWater_3 rfl ?_
  refine e_getR fa_RX6_7 is_Y0 rfl dX6_isWater_4 ?_
  refine e_iconst (2 : Int32) dX6_isWater_7 (by decide) ?_
  refine e_ialdK ia_Y1 (by unfold vp_in; decide) (q := 2) (by decide) dX6_isWater_8 ?_
  refine e_i2l dX6_isWater_9 ?_
  refine e_callS (f2 := 0) (l2 := 0) (ν := mtX6_in) (as := [.long (a1.toInt64), .long (0 : Int64), .long ((M.1 1 2).toInt64)]) cs_RX6_58 ⟨Nat.le_of_ble_eq_true rfl, Nat.le_of_ble_eq_true rfl⟩ rfl rfl (Nat.le_of_ble_eq_true rfl) dX6_isWater_10 ?_
  refine ctX6_in (a1.toInt64) (0 : Int64) ((M.1 1 2).toInt64) ?_
  show Ev (wY, z) mtX6_isWater 1 25 13 [some (.ref 0), some (.int a1)] [.int (fpX6_in (a1.toInt64) (0 : Int64) ((M.1 1 2).toInt64))] M Q
  have e0 : fpX6_isWater a1 M = (fpX6_in (a1.toInt64) (0 : Int64) ((M.1 1 2).toInt64)) := rfl
  rw [e0] at h
  exact e_zret rfl (fpzX6_in (a1.toInt64) (0 : Int64) ((M.1 1 2).toInt64)) dX6_isWater_13 h
def fpX6_has (a0 : Int32) (a1 : Int32) : Int32 := (if ((a0 >>> (a1 &&& 31)) &&& (1 : Int32)) = (1 : Int32) then (1 : Int32) else (0 : Int32))
theorem fpzX6_has (a0 : Int32) (a1 : Int32) : fpX6_has a0 a1 = 0 ∨ fpX6_has a0 a1 = 1 := by
  unfold fpX6_has
  (repeat' split) <;> first | exact Or.inl rfl | exact Or.inr rfl
set_option maxRecDepth 20000 in
theorem ctX6_has {z : Zt} {M : Me} {Q : Option Value → Me → Prop} (a0 : Int32) (a1 : Int32)  (h : Q (some (.int (fpX6_has a0 a1))) M) : EvM (wY, z) mtX6_has 0 0 [.int a0, .int a1] M Q := by
  refine evm_of [some (.int a0), some (.int a1)] 0 (by decide +kernel) (Nat.le_of_ble_eq_true rfl) rfl ?_
  refine e_iload_n dX6_has_0 rfl ?_
  refine e_iload_n dX6_has_1 rfl ?_
  refine e_ishr dX6_has_2 ?_
  refine e_iconst (1 : Int32) dX6_has_3 (by decide) ?_
  refine e_iand dX6_has_4 ?_
  refine e_iconst (1 : Int32) dX6_has_5 (by decide) ?_
  refine e_icmp_ne 13 dX6_has_6 (by decide) (fun c1 => ?_) (fun c1 => ?_)
  · refine e_iconst (0 : Int32) dX6_has_13 (by decide) ?_
    have e0 : fpX6_has a0 a1 = (0 : Int32) := by
      unfold fpX6_has
      rw [if_neg c1]
    rw [e0] at h
    exact e_zret rfl (Or.inl rfl) dX6_has_14 h
  · refine e_iconst (1 : Int32) dX6_has_9 (by decide) ?_
    refine e_goto 14 dX6_has_10 (by decide) ?_
    have e0 : fpX6_has a0 a1 = (1 : Int32) := by
      unfold fpX6_has
      rw [if_pos c1]
    rw [e0] at h
    exact e_zret rfl (Or.inr rfl) dX6_has_14 h
def XX6_ones_4 (z : Zt) (M : Me) (Q : Option Value → Me → Prop) : (Int32) → Prop := fun t => Ev (wY, z) mtX6_ones 0 0 20 [none, some (.int t), none] [] M Q
def EX6_ones_4 (z : Zt) (M : Me) (Q : Option Value → Me → Prop) : (Int32 × Int32) → Prop := fun s => Ev (wY, z) mtX6_ones 0 0 4 [none, some (.int s.1), some (.int s.2)] [] M Q
def GX6_ones_4 (z : Zt) (M : Me) (Q : Option Value → Me → Prop) : (Int32 × Int32) ⊕ (Int32) → Prop := Sum.elim (EX6_ones_4 z M Q) (XX6_ones_4 z M Q)
def fpX6_ones_l4s (a1 : Int32) (a2 : Int32) : Option ((Int32 × Int32) ⊕ (Int32)) := (if a2 = 0 then
 some (.inr a1)
 else
 letv (a1 + (1 : Int32)) fun v2 =>
 letv (a2 &&& (a2 - (1 : Int32))) fun v3 =>
 some (.inl (v2, v3)))
def fpX6_ones_l4 (s : Int32 × Int32) : Option ((Int32 × Int32) ⊕ (Int32)) := fpX6_ones_l4s s.1 s.2
set_option maxRecDepth 20000 in
theorem ebX6_ones_l4s {z : Zt} {Q : Option Value → Me → Prop} (a1 : Int32) (a2 : Int32) (M : Me) (h : ok (fpX6_ones_l4s a1 a2) (GX6_ones_4 z M Q)) : Ev (wY, z) mtX6_ones 0 0 4 [none, some (.int a1), some (.int a2)] [] M Q := by
  unfold fpX6_ones_l4s at h
  refine e_iload_n dX6_ones_4 rfl ?_
  refine e_if_eq 20 dX6_ones_5 (by decide) (fun c1 => ?_) (fun c1 => ?_)
  · have h := ok_t c1 h
    refine e_forget [none, some (.int a1), none] (leL_n (leL_s (leL_n leL_0))) ?_
    have h := ok_some h
    exact h
  · have h := ok_f c1 h
    refine lv1e h (fun v2 ev2 h => ?_)
    refine e_iinc v2 dX6_ones_8 rfl ev2 (by decide) rfl ?_
    refine e_iload_n dX6_ones_11 rfl ?_
    refine e_iload_n dX6_ones_12 rfl ?_
    refine e_iconst (1 : Int32) dX6_ones_13 (by decide) ?_
    refine e_isub dX6_ones_14 ?_
    refine e_iand dX6_ones_15 ?_
    refine lv1 (P := fun v3 => Ev (wY, z) mtX6_ones 0 0 16 [none, some (.int v2), some (.int a2)] [.int v3] M Q) h (fun v3 h => ?_)
    refine e_istore_n dX6_ones_16 (by decide) rfl ?_
    refine e_goto 4 dX6_ones_17 (by decide) ?_
    refine e_forget [none, some (.int v2), some (.int v3)] (leL_n (leL_s (leL_s leL_0))) ?_
    have h := ok_some h
    exact h
theorem elX6_ones_l4 {z : Zt} {Q : Option Value → Me → Prop} (M : Me) (N : Nat) (s : Int32 × Int32) (h : ok (lp (fpX6_ones_l4) N s) (XX6_ones_4 z M Q)) : EX6_ones_4 z M Q s :=
  lp_ind (fun s h => ebX6_ones_l4s s.1 s.2 M h) N s h
def fpX6_ones (a0 : Int32) : Option (Int32) := (lp (fpX6_ones_l4) FU ((0 : Int32), a0)).bind fun r4 =>
 some r4
set_option maxRecDepth 20000 in
theorem ctX6_ones {z : Zt} {M : Me} {Q : Option Value → Me → Prop} (a0 : Int32)  (h : ok (fpX6_ones a0) (fun a => Q (some (.int a)) M)) : EvM (wY, z) mtX6_ones 0 0 [.int a0] M Q := by
  refine evm_of [some (.int a0), none, none] 2 (by decide +kernel) (Nat.le_of_ble_eq_true rfl) rfl ?_
  unfold fpX6_ones at h
  refine e_iconst (0 : Int32) dX6_ones_0 (by decide) ?_
  refine e_istore_n dX6_ones_1 (by decide) rfl ?_
  refine e_iload_n dX6_ones_2 rfl ?_
  refine e_istore_n dX6_ones_3 (by decide) rfl ?_
  refine e_forget [none, some (.int (0 : Int32)), some (.int a0)] (leL_n (leL_s (leL_s leL_0))) ?_
  refine elX6_ones_l4 M FU ((0 : Int32), a0) (ok_bnd h (fun r4 h => ?_))
  show Ev (wY, z) mtX6_ones 0 0 20 [none, some (.int r4), none] [] M Q
  refine e_iload_n dX6_ones_20 rfl ?_
  have h := ok_some h
  exact e_iret rfl dX6_ones_21 h
def fpX6_draw  (M : Me) : Option (Int32 × Me) := letv (wrM M 1 1 (((M.1 1 1) * (1103515245 : Int32)) + (12345 : Int32))) fun M1 =>
 some ((jushr (M1.1 1 1) (8 : Int32)), M1)
set_option maxRecDepth 20000 in
theorem ctX6_draw {z : Zt} {M : Me} {Q : Option Value → Me → Prop}   (h : ok (fpX6_draw M) (fun a => Q (some (.int a.1)) a.2)) : EvM (wY, z) mtX6_draw 0 0 [.ref 0] M Q := by
  refine evm_of [some (.ref 0)] 0 (by decide +kernel) (Nat.le_of_ble_eq_true rfl) rfl ?_
  unfold fpX6_draw at h
  refine e_aload_n dX6_draw_0 rfl ?_
  refine e_getR fa_RX6_7 is_Y0 rfl dX6_draw_1 ?_
  refine e_iconst (1 : Int32) dX6_draw_4 (by decide) ?_
  refine e_aload_n dX6_draw_5 rfl ?_
  refine e_getR fa_RX6_7 is_Y0 rfl dX6_draw_6 ?_
  refine e_iconst (1 : Int32) dX6_draw_9 (by decide) ?_
  refine e_ialdK ia_Y1 (by unfold vp_in; decide) (q := 1) (by decide) dX6_draw_10 ?_
  refine e_ldc wk_RX6_62 dX6_draw_11 ?_
  refine e_imul dX6_draw_13 ?_
  refine e_sipush (12345 : Int32) dX6_draw_14 (by decide) ?_
  refine e_iadd dX6_draw_17 ?_
  refine e_iastK ia_Y1 (by unfold vp_in; decide) (q := 1) (by decide) dX6_draw_18 ?_
  refine lv1 (P := fun M1 => Ev (wY, z) mtX6_draw 0 0 19 [some (.ref 0)] [] M1 Q) h (fun M1 h => ?_)
  refine e_aload_n dX6_draw_19 rfl ?_
  refine e_getR fa_RX6_7 is_Y0 rfl dX6_draw_20 ?_
  refine e_iconst (1 : Int32) dX6_draw_23 (by decide) ?_
  refine e_ialdK ia_Y1 (by unfold vp_in; decide) (q := 1) (by decide) dX6_draw_24 ?_
  refine e_bipush (8 : Int32) dX6_draw_25 (by decide) ?_
  refine e_iushr dX6_draw_27 ?_
  have h := ok_some h
  exact e_iret rfl dX6_draw_28 h
def XX6_puts_2 (z : Zt) (Q : Option Value → Me → Prop) : (Me) → Prop := fun t => Ev (wY, z) mtX6_puts 0 0 26 [none, none] [] t Q
def EX6_puts_2 (z : Zt) (Q : Option Value → Me → Prop) : (Int32 × Me) → Prop := fun s => Ev (wY, z) mtX6_puts 0 0 2 [some (.ref 0), some (.int s.1)] [] s.2 Q
def GX6_puts_2 (z : Zt) (Q : Option Value → Me → Prop) : (Int32 × Me) ⊕ (Me) → Prop := Sum.elim (EX6_puts_2 z Q) (XX6_puts_2 z Q)
def fpX6_puts_l2s (a1 : Int32) (M : Me) : Option ((Int32 × Me) ⊕ (Me)) := (if (70 : Int32) ≤ a1 then
 some (.inr M)
 else
 (inb a1 70).bind fun k2 =>
 letv (wrM M 3 k2 (M.1 1 k2)) fun M3 =>
 letv (a1 + (1 : Int32)) fun v4 =>
 some (.inl (v4, M3)))
def fpX6_puts_l2 (s : Int32 × Me) : Option ((Int32 × Me) ⊕ (Me)) := fpX6_puts_l2s s.1 s.2
set_option maxRecDepth 20000 in
theorem ebX6_puts_l2s {z : Zt} {Q : Option Value → Me → Prop} (a1 : Int32) (M : Me) (h : ok (fpX6_puts_l2s a1 M) (GX6_puts_2 z Q)) : Ev (wY, z) mtX6_puts 0 0 2 [some (.ref 0), some (.int a1)] [] M Q := by
  unfold fpX6_puts_l2s at h
  refine e_iload_n dX6_puts_2 rfl ?_
  refine e_bipush (70 : Int32) dX6_puts_3 (by decide) ?_
  refine e_icmp_ge 26 dX6_puts_5 (by decide) (fun c1 => ?_) (fun c1 => ?_)
  · have h := ok_t c1 h
    refine e_forget [none, none] (leL_n (leL_n leL_0)) ?_
    have h := ok_some h
    exact h
  · have h := ok_f c1 h
    refine e_aload_n dX6_puts_8 rfl ?_
    refine e_getR fa_RX6_16 is_Y0 rfl dX6_puts_9 ?_
    refine e_iload_n dX6_puts_12 rfl ?_
    refine e_aload_n dX6_puts_13 rfl ?_
    refine e_getR fa_RX6_7 is_Y0 rfl dX6_puts_14 ?_
    refine e_iload_n dX6_puts_17 rfl ?_
    refine ok_inb h (fun k2 ek2 ik2 h => ?_)
    refine e_ialdK ia_Y1 ik2 ek2 dX6_puts_18 ?_
    refine e_iastK ia_Y3 ik2 ek2 dX6_puts_19 ?_
    refine lv1 (P := fun M3 => Ev (wY, z) mtX6_puts 0 0 20 [some (.ref 0), some (.int a1)] [] M3 Q) h (fun M3 h => ?_)
    refine lv1e h (fun v4 ev4 h => ?_)
    refine e_iinc v4 dX6_puts_20 rfl ev4 (by decide) rfl ?_
    refine e_goto 2 dX6_puts_23 (by decide) ?_
    refine e_forget [some (.ref 0), some (.int v4)] (leL_s (leL_s leL_0)) ?_
    have h := ok_some h
    exact h
theorem elX6_puts_l2 {z : Zt} {Q : Option Value → Me → Prop} (N : Nat) (s : Int32 × Me) (h : ok (lp (fpX6_puts_l2) N s) (XX6_puts_2 z Q)) : EX6_puts_2 z Q s :=
  lp_ind (fun s h => ebX6_puts_l2s s.1 s.2 h) N s h
def fpX6_puts  (M : Me) : Option (Me) := (lp (fpX6_puts_l2) FU ((0 : Int32), M)).bind fun r5 =>
 some r5
set_option maxRecDepth 20000 in
theorem ctX6_puts {z : Zt} {M : Me} {Q : Option Value → Me → Prop}   (h : ok (fpX6_puts M) (fun a => Q none a)) : EvM (wY, z) mtX6_puts 0 0 [.ref 0] M Q := by
  refine evm_of [some (.ref 0), none] 1 (by decide +kernel) (Nat.le_of_ble_eq_true rfl) rfl ?_
  unfold fpX6_puts at h
  refine e_iconst (0 : Int32) dX6_puts_0 (by decide) ?_
  refine e_istore_n dX6_puts_1 (by decide) rfl ?_
  refine e_forget [some (.ref 0), some (.int (0 : Int32))] (leL_s (leL_s leL_0)) ?_
  refine elX6_puts_l2 FU ((0 : Int32), M) (ok_bnd h (fun r5 h => ?_))
  show Ev (wY, z) mtX6_puts 0 0 26 [none, none] [] r5 Q
  have h := ok_some h
  exact e_vret rfl dX6_puts_26 h
def XX6_putsBack_2 (z : Zt) (Q : Option Value → Me → Prop) : (Me) → Prop := fun t => Ev (wY, z) mtX6_putsBack 0 0 26 [none, none] [] t Q
def EX6_putsBack_2 (z : Zt) (Q : Option Value → Me → Prop) : (Int32 × Me) → Prop := fun s => Ev (wY, z) mtX6_putsBack 0 0 2 [some (.ref 0), some (.int s.1)] [] s.2 Q
def GX6_putsBack_2 (z : Zt) (Q : Option Value → Me → Prop) : (Int32 × Me) ⊕ (Me) → Prop := Sum.elim (EX6_putsBack_2 z Q) (XX6_putsBack_2 z Q)
def fpX6_putsBack_l2s (a1 : Int32) (M : Me) : Option ((Int32 × Me) ⊕ (Me)) := (if (70 : Int32) ≤ a1 then
 some (.inr M)
 else
 (inb a1 70).bind fun k2 =>
 letv (wrM M 1 k2 (M.1 3 k2)) fun M3 =>
 letv (a1 + (1 : Int32)) fun v4 =>
 some (.inl (v4, M3)))
def fpX6_putsBack_l2 (s : Int32 × Me) : Option ((Int32 × Me) ⊕ (Me)) := fpX6_putsBack_l2s s.1 s.2
set_option maxRecDepth 20000 in
theorem ebX6_putsBack_l2s {z : Zt} {Q : Option Value → Me → Prop} (a1 : Int32) (M : Me) (h : ok (fpX6_putsBack_l2s a1 M) (GX6_putsBack_2 z Q)) : Ev (wY, z) mtX6_putsBack 0 0 2 [some (.ref 0), some (.int a1)] [] M Q := by
  unfold fpX6_putsBack_l2s at h
  refine e_iload_n dX6_putsBack_2 rfl ?_
  refine e_bipush (70 : Int32) dX6_putsBack_3 (by decide) ?_
  refine e_icmp_ge 26 dX6_putsBack_5 (by decide) (fun c1 => ?_) (fun c1 => ?_)
  · have h := ok_t c1 h
    refine e_forget [none, none] (leL_n (leL_n leL_0)) ?_
    have h := ok_some h
    exact h
  · have h := ok_f c1 h
    refine e_aload_n dX6_putsBack_8 rfl ?_
    refine e_getR fa_RX6_7 is_Y0 rfl dX6_putsBack_9 ?_
    refine e_iload_n dX6_putsBack_12 rfl ?_
    refine e_aload_n dX6_putsBack_13 rfl ?_
    refine e_getR fa_RX6_16 is_Y0 rfl dX6_putsBack_14 ?_
    refine e_iload_n dX6_putsBack_17 rfl ?_
    refine ok_inb h (fun k2 ek2 ik2 h => ?_)
    refine e_ialdK ia_Y3 ik2 ek2 dX6_putsBack_18 ?_
    refine e_iastK ia_Y1 ik2 ek2 dX6_putsBack_19 ?_
    refine lv1 (P := fun M3 => Ev (wY, z) mtX6_putsBack 0 0 20 [some (.ref 0), some (.int a1)] [] M3 Q) h (fun M3 h => ?_)
    refine lv1e h (fun v4 ev4 h => ?_)
    refine e_iinc v4 dX6_putsBack_20 rfl ev4 (by decide) rfl ?_
    refine e_goto 2 dX6_putsBack_23 (by decide) ?_
    refine e_forget [some (.ref 0), some (.int v4)] (leL_s (leL_s leL_0)) ?_
    have h := ok_some h
    exact h
theorem elX6_putsBack_l2 {z : Zt} {Q : Option Value → Me → Prop} (N : Nat) (s : Int32 × Me) (h : ok (lp (fpX6_putsBack_l2) N s) (XX6_putsBack_2 z Q)) : EX6_putsBack_2 z Q s :=
  lp_ind (fun s h => ebX6_putsBack_l2s s.1 s.2 h) N s h
def fpX6_putsBack  (M : Me) : Option (Me) := (lp (fpX6_putsBack_l2) FU ((0 : Int32), M)).bind fun r5 =>
 some r5
set_option maxRecDepth 20000 in
theorem ctX6_putsBack {z : Zt} {M : Me} {Q : Option Value → Me → Prop}   (h : ok (fpX6_putsBack M) (fun a => Q none a)) : EvM (wY, z) mtX6_putsBack 0 0 [.ref 0] M Q := by
  refine evm_of [some (.ref 0), none] 1 (by decide +kernel) (Nat.le_of_ble_eq_true rfl) rfl ?_
  unfold fpX6_putsBack at h
  refine e_iconst (0 : Int32) dX6_putsBack_0 (by decide) ?_
  refine e_istore_n dX6_putsBack_1 (by decide) rfl ?_
  refine e_forget [some (.ref 0), some (.int (0 : Int32))] (leL_s (leL_s leL_0)) ?_
  refine elX6_putsBack_l2 FU ((0 : Int32), M) (ok_bnd h (fun r5 h => ?_))
  show Ev (wY, z) mtX6_putsBack 0 0 26 [none, none] [] r5 Q
  have h := ok_some h
  exact e_vret rfl dX6_putsBack_26 h
def fpX6_at (a0 : Int32) (a1 : Int32) : Int32 := (((12 : Int32) + ((6 : Int32) * a0)) + a1)
set_option maxRecDepth 20000 in
theorem ctX6_at {z : Zt} {M : Me} {Q : Option Value → Me → Prop} (a0 : Int32) (a1 : Int32)  (h : Q (some (.int (fpX6_at a0 a1))) M) : EvM (wY, z) mtX6_at 0 0 [.int a0, .int a1] M Q := by
  refine evm_of [some (.int a0), some (.int a1)] 0 (by decide +kernel) (Nat.le_of_ble_eq_true rfl) rfl ?_
  refine e_bipush (12 : Int32) dX6_at_0 (by decide) ?_
  refine e_bipush (6 : Int32) dX6_at_2 (by decide) ?_
  refine e_iload_n dX6_at_4 rfl ?_
  refine e_imul dX6_at_5 ?_
  refine e_iadd dX6_at_6 ?_
  refine e_iload_n dX6_at_7 rfl ?_
  refine e_iadd dX6_at_8 ?_
  have e0 : fpX6_at a0 a1 = (((12 : Int32) + ((6 : Int32) * a0)) + a1) := rfl
  rw [e0] at h
  exact e_iret rfl dX6_at_9 h
def fpX6_its (a1 : Int32) (a2 : Int32) (M : Me) : Option (Int32) := (inb (fpX6_at a1 a2) 70).bind fun k1 =>
 some (M.1 1 k1)
set_option maxRecDepth 20000 in
theorem ctX6_its {z : Zt} {M : Me} {Q : Option Value → Me → Prop} (a1 : Int32) (a2 : Int32)  (h : ok (fpX6_its a1 a2 M) (fun a => Q (some (.int a)) M)) : EvM (wY, z) mtX6_its 1 21 [.ref 0, .int a1, .int a2] M Q := by
  refine evm_of [some (.ref 0), some (.int a1), some (.int a2)] 0 (by decide +kernel) (Nat.le_of_ble_eq_true rfl) rfl ?_
  unfold fpX6_its at h
  refine e_aload_n dX6_its_0 rfl ?_
  refine e_getR fa_RX6_7 is_Y0 rfl dX6_its_1 ?_
  refine e_iload_n dX6_its_4 rfl ?_
  refine e_iload_n dX6_its_5 rfl ?_
  refine e_callS (f2 := 0) (l2 := 0) (ν := mtX6_at) (as := [.int a1, .int a2]) cs_RX6_63 ⟨Nat.le_of_ble_eq_true rfl, Nat.le_of_ble_eq_true rfl⟩ rfl rfl (Nat.le_of_ble_eq_true rfl) dX6_its_6 ?_
  refine ctX6_at a1 a2 ?_
  show Ev (wY, z) mtX6_its 1 21 9 [some (.ref 0), some (.int a1), some (.int a2)] [.int (fpX6_at a1 a2), .ref 1] M Q
  refine ok_inb h (fun k1 ek1 ik1 h => ?_)
  refine e_ialdK ia_Y1 ik1 ek1 dX6_its_9 ?_
  have h := ok_some h
  exact e_iret rfl dX6_its_10 h
def fpX6_isPart (a0 : Int32) (a1 : Int32) : Int32 := (if a0 = (0 : Int32) then (fpX6_in (a1.toInt64) (0 : Int64) (6 : Int64)) else (if a0 = (1 : Int32) then (fpX6_isMile a1) else (if a0 = (2 : Int32) then (fpX6_in (a1.toInt64) (1 : Int64) (60 : Int64)) else (if a0 = (3 : Int32) then (if (fpX6_in (a1.toInt64) (0 : Int64) (11 : Int64)) = 0 then (0 : Int32) else (1 : Int32)) else (0 : Int32)))))
theorem fpzX6_isPart (a0 : Int32) (a1 : Int32) : fpX6_isPart a0 a1 = 0 ∨ fpX6_isPart a0 a1 = 1 := by
  unfold fpX6_isPart
  (repeat' split) <;> first | exact Or.inl rfl | exact Or.inr rfl | apply fpzX6_in | apply fpzX6_isMile
set_option maxRecDepth 20000 in
theorem ctX6_isPart {z : Zt} {M : Me} {Q : Option Value → Me → Prop} (a0 : Int32) (a1 : Int32)  (h : Q (some (.int (fpX6_isPart a0 a1))) M) : EvM (wY, z) mtX6_isPart 2 45 [.int a0, .int a1] M Q := by
  refine evm_of [some (.int a0), some (.int a1)] 0 (by decide +kernel) (Nat.le_of_ble_eq_true rfl) rfl ?_
  refine e_iload_n dX6_isPart_0 rfl ?_
  by_cases c1 : a0 = (0 : Int32)
  · refine e_tswC (0 : Int32) 28 c1 dX6_isPart_1 (by decide) (by decide) rfl (by decide) ?_
    refine e_iload_n dX6_isPart_28 rfl ?_
    refine e_i2l dX6_isPart_29 ?_
    refine e_lconst (0 : Int64) dX6_isPart_30 (by decide) ?_
    refine e_ldc2 wk_RX6_67 dX6_isPart_31 ?_
    refine e_callS (f2 := 0) (l2 := 0) (ν := mtX6_in) (as := [.long (a1.toInt64), .long (0 : Int64), .long (6 : Int64)]) cs_RX6_58 ⟨Nat.le_of_ble_eq_true rfl, Nat.le_of_ble_eq_true rfl⟩ rfl rfl (Nat.le_of_ble_eq_true rfl) dX6_isPart_34 ?_
    refine ctX6_in (a1.toInt64) (0 : Int64) (6 : Int64) ?_
    show Ev (wY, z) mtX6_isPart 2 45 37 [some (.int a0), some (.int a1)] [.int (fpX6_in (a1.toInt64) (0 : Int64) (6 : Int64))] M Q
    have e0 : fpX6_isPart a0 a1 = (fpX6_in (a1.toInt64) (0 : Int64) (6 : Int64)) := by
      unfold fpX6_isPart
      rw [if_pos c1]
    rw [e0] at h
    exact e_zret rfl (fpzX6_in (a1.toInt64) (0 : Int64) (6 : Int64)) dX6_isPart_37 h
  · skip
    by_cases c2 : a0 = (1 : Int32)
    · refine e_tswC (1 : Int32) 38 c2 dX6_isPart_1 (by decide) (by decide) rfl (by decide) ?_
      refine e_iload_n dX6_isPart_38 rfl ?_
      refine e_callS (f2 := 1) (l2 := 25) (ν := mtX6_isMile) (as := [.int a1]) cs_RX6_69 ⟨Nat.le_of_ble_eq_true rfl, Nat.le_of_ble_eq_true rfl⟩ rfl rfl (Nat.le_of_ble_eq_true rfl) dX6_isPart_39 ?_
      refine ctX6_isMile a1 ?_
      show Ev (wY, z) mtX6_isPart 2 45 42 [some (.int a0), some (.int a1)] [.int (fpX6_isMile a1)] M Q
      have e0 : fpX6_isPart a0 a1 = (fpX6_isMile a1) := by
        unfold fpX6_isPart
        rw [if_neg c1, if_pos c2]
      rw [e0] at h
      exact e_zret rfl (fpzX6_isMile a1) dX6_isPart_42 h
    · skip
      by_cases c3 : a0 = (2 : Int32)
      · refine e_tswC (2 : Int32) 43 c3 dX6_isPart_1 (by decide) (by decide) rfl (by decide) ?_
        refine e_iload_n dX6_isPart_43 rfl ?_
        refine e_i2l dX6_isPart_44 ?_
        refine e_lconst (1 : Int64) dX6_isPart_45 (by decide) ?_
        refine e_ldc2 wk_RX6_73 dX6_isPart_46 ?_
        refine e_callS (f2 := 0) (l2 := 0) (ν := mtX6_in) (as := [.long (a1.toInt64), .long (1 : Int64), .long (60 : Int64)]) cs_RX6_58 ⟨Nat.le_of_ble_eq_true rfl, Nat.le_of_ble_eq_true rfl⟩ rfl rfl (Nat.le_of_ble_eq_true rfl) dX6_isPart_49 ?_
        refine ctX6_in (a1.toInt64) (1 : Int64) (60 : Int64) ?_
        show Ev (wY, z) mtX6_isPart 2 45 52 [some (.int a0), some (.int a1)] [.int (fpX6_in (a1.toInt64) (1 : Int64) (60 : Int64))] M Q
        have e0 : fpX6_isPart a0 a1 = (fpX6_in (a1.toInt64) (1 : Int64) (60 : Int64)) := by
          unfold fpX6_isPart
          rw [if_neg c1, if_neg c2, if_pos c3]
        rw [e0] at h
        exact e_zret rfl (fpzX6_in (a1.toInt64) (1 : Int64) (60 : Int64)) dX6_isPart_52 h
      · skip
        refine e_tswD 53 dX6_isPart_1 (by have q0 := lv_neT (a := 0) c1 rfl; have q1 := lv_neT (a := 1) c2 rfl; have q2 := lv_neT (a := 2) c3 rfl; omega) (by decide) ?_
        refine e_iload_n dX6_isPart_53 rfl ?_
        refine e_iconst (3 : Int32) dX6_isPart_54 (by decide) ?_
        refine e_icmp_ne 74 dX6_isPart_55 (by decide) (fun c4 => ?_) (fun c4 => ?_)
        · refine e_iconst (0 : Int32) dX6_isPart_74 (by decide) ?_
          have e0 : fpX6_isPart a0 a1 = (0 : Int32) := by
            unfold fpX6_isPart
            rw [if_neg c1, if_neg c2, if_neg c3, if_neg c4]
          rw [e0] at h
          exact e_zret rfl (Or.inl rfl) dX6_isPart_75 h
        · refine e_iload_n dX6_isPart_58 rfl ?_
          refine e_i2l dX6_isPart_59 ?_
          refine e_lconst (0 : Int64) dX6_isPart_60 (by decide) ?_
          refine e_ldc2 wk_RX6_75 dX6_isPart_61 ?_
          refine e_callS (f2 := 0) (l2 := 0) (ν := mtX6_in) (as := [.long (a1.toInt64), .long (0 : Int64), .long (11 : Int64)]) cs_RX6_58 ⟨Nat.le_of_ble_eq_true rfl, Nat.le_of_ble_eq_true rfl⟩ rfl rfl (Nat.le_of_ble_eq_true rfl) dX6_isPart_64 ?_
          refine ctX6_in (a1.toInt64) (0 : Int64) (11 : Int64) ?_
          show Ev (wY, z) mtX6_isPart 2 45 67 [some (.int a0), some (.int a1)] [.int (fpX6_in (a1.toInt64) (0 : Int64) (11 : Int64))] M Q
          refine e_if_eq 74 dX6_isPart_67 (by decide) (fun c5 => ?_) (fun c5 => ?_)
          · refine e_iconst (0 : Int32) dX6_isPart_74 (by decide) ?_
            have e0 : fpX6_isPart a0 a1 = (0 : Int32) := by
              unfold fpX6_isPart
              rw [if_neg c1, if_neg c2, if_neg c3, if_pos c4, if_pos c5]
            rw [e0] at h
            exact e_zret rfl (Or.inl rfl) dX6_isPart_75 h
          · refine e_iconst (1 : Int32) dX6_isPart_70 (by decide) ?_
            refine e_goto 75 dX6_isPart_71 (by decide) ?_
            have e0 : fpX6_isPart a0 a1 = (1 : Int32) := by
              unfold fpX6_isPart
              rw [if_neg c1, if_neg c2, if_neg c3, if_pos c4, if_neg c5]
            rw [e0] at h
            exact e_zret rfl (Or.inr rfl) dX6_isPart_75 h
def fpX6_newPump (a1 : Int32) (a2 : Int32) (a3 : Int32) (a4 : Int32) (M : Me) : Option (Int32 × Me) := letv (M.1 1 0) fun v1 =>
 (inb (fpX6_at v1 (0 : Int32)) 70).bind fun k2 =>
 letv (wrM M 1 k2 a1) fun M3 =>
 (inb (fpX6_at v1 (1 : Int32)) 70).bind fun k4 =>
 letv (wrM M3 1 k4 a2) fun M5 =>
 (inb (fpX6_at v1 (2 : Int32)) 70).bind fun k6 =>
 letv (wrM M5 1 k6 a3) fun M7 =>
 (inb (fpX6_at v1 (3 : Int32)) 70).bind fun k8 =>
 letv (wrM M7 1 k8 a4) fun M9 =>
 (inb (fpX6_at v1 (4 : Int32)) 70).bind fun k10 =>
 letv (wrM M9 1 k10 (0 : Int32)) fun M11 =>
 (inb (fpX6_at v1 (5 : Int32)) 70).bind fun k12 =>
 letv (wrM M11 1 k12 (0 : Int32)) fun M13 =>
 letv (wrM M13 1 0 ((M13.1 1 0) + (1 : Int32))) fun M14 =>
 some (v1, M14)
set_option maxRecDepth 20000 in
theorem ctX6_newPump {z : Zt} {M : Me} {Q : Option Value → Me → Prop} (a1 : Int32) (a2 : Int32) (a3 : Int32) (a4 : Int32)  (h : ok (fpX6_newPump a1 a2 a3 a4 M) (fun a => Q (some (.int a.1)) a.2)) : EvM (wY, z) mtX6_newPump 1 21 [.ref 0, .int a1, .int a2, .int a3, .int a4] M Q := by
  refine evm_of [some (.ref 0), some (.int a1), some (.int a2), some (.int a3), some (.int a4), none] 1 (by decide +kernel) (Nat.le_of_ble_eq_true rfl) rfl ?_
  unfold fpX6_newPump at h
  refine e_aload_n dX6_newPump_0 rfl ?_
  refine e_getR fa_RX6_7 is_Y0 rfl dX6_newPump_1 ?_
  refine e_iconst (0 : Int32) dX6_newPump_4 (by decide) ?_
  refine e_ialdK ia_Y1 (by unfold vp_in; decide) (q := 0) (by decide) dX6_newPump_5 ?_
  refine lv1 (P := fun v1 => Ev (wY, z) mtX6_newPump 1 21 6 [some (.ref 0), some (.int a1), some (.int a2), some (.int a3), some (.int a4), none] [.int v1] M Q) h (fun v1 h => ?_)
  refine e_istore dX6_newPump_6 (by decide) rfl ?_
  refine e_aload_n dX6_newPump_8 rfl ?_
  refine e_getR fa_RX6_7 is_Y0 rfl dX6_newPump_9 ?_
  refine e_iload dX6_newPump_12 rfl ?_
  refine e_iconst (0 : Int32) dX6_newPump_14 (by decide) ?_
  refine e_callS (f2 := 0) (l2 := 0) (ν := mtX6_at) (as := [.int v1, .int (0 : Int32)]) cs_RX6_63 ⟨Nat.le_of_ble_eq_true rfl, Nat.le_of_ble_eq_true rfl⟩ rfl rfl (Nat.le_of_ble_eq_true rfl) dX6_newPump_15 ?_
  refine ctX6_at v1 (0 : Int32) ?_
  show Ev (wY, z) mtX6_newPump 1 21 18 [some (.ref 0), some (.int a1), some (.int a2), some (.int a3), some (.int a4), some (.int v1)] [.int (fpX6_at v1 (0 : Int32)), .ref 1] M Q
  refine e_iload_n dX6_newPump_18 rfl ?_
  refine ok_inb h (fun k2 ek2 ik2 h => ?_)
  refine e_iastK ia_Y1 ik2 ek2 dX6_newPump_19 ?_
  refine lv1 (P := fun M3 => Ev (wY, z) mtX6_newPump 1 21 20 [some (.ref 0), some (.int a1), some (.int a2), some (.int a3), some (.int a4), some (.int v1)] [] M3 Q) h (fun M3 h => ?_)
  refine e_aload_n dX6_newPump_20 rfl ?_
  refine e_getR fa_RX6_7 is_Y0 rfl dX6_newPump_21 ?_
  refine e_iload dX6_newPump_24 rfl ?_
  refine e_iconst (1 : Int32) dX6_newPump_26 (by decide) ?_
  refine e_callS (f2 := 0) (l2 := 0) (ν := mtX6_at) (as := [.int v1, .int (1 : Int32)]) cs_RX6_63 ⟨Nat.le_of_ble_eq_true rfl, Nat.le_of_ble_eq_true rfl⟩ rfl rfl (Nat.le_of_ble_eq_true rfl) dX6_newPump_27 ?_
  refine ctX6_at v1 (1 : Int32) ?_
  show Ev (wY, z) mtX6_newPump 1 21 30 [some (.ref 0), some (.int a1), some (.int a2), some (.int a3), some (.int a4), some (.int v1)] [.int (fpX6_at v1 (1 : Int32)), .ref 1] M3 Q
  refine e_iload_n dX6_newPump_30 rfl ?_
  refine ok_inb h (fun k4 ek4 ik4 h => ?_)
  refine e_iastK ia_Y1 ik4 ek4 dX6_newPump_31 ?_
  refine lv1 (P := fun M5 => Ev (wY, z) mtX6_newPump 1 21 32 [some (.ref 0), some (.int a1), some (.int a2), some (.int a3), some (.int a4), some (.int v1)] [] M5 Q) h (fun M5 h => ?_)
  refine e_aload_n dX6_newPump_32 rfl ?_
  refine e_getR fa_RX6_7 is_Y0 rfl dX6_newPump_33 ?_
  refine e_iload dX6_newPump_36 rfl ?_
  refine e_iconst (2 : Int32) dX6_newPump_38 (by decide) ?_
  refine e_callS (f2 := 0) (l2 := 0) (ν := mtX6_at) (as := [.int v1, .int (2 : Int32)]) cs_RX6_63 ⟨Nat.le_of_ble_eq_true rfl, Nat.le_of_ble_eq_true rfl⟩ rfl rfl (Nat.le_of_ble_eq_true rfl) dX6_newPump_39 ?_
  refine ctX6_at v1 (2 : Int32) ?_
  show Ev (wY, z) mtX6_newPump 1 21 42 [some (.ref 0), some (.int a1), some (.int a2), some (.int a3), some (.int a4), some (.int v1)] [.int (fpX6_at v1 (2 : Int32)), .ref 1] M5 Q
  refine e_iload_n dX6_newPump_42 rfl ?_
  refine ok_inb h (fun k6 ek6 ik6 h => ?_)
  refine e_iastK ia_Y1 ik6 ek6 dX6_newPump_43 ?_
  refine lv1 (P := fun M7 => Ev (wY, z) mtX6_newPump 1 21 44 [some (.ref 0), some (.int a1), some (.int a2), some (.int a3), some (.int a4), some (.int v1)] [] M7 Q) h (fun M7 h => ?_)
  refine e_aload_n dX6_newPump_44 rfl ?_
  refine e_getR fa_RX6_7 is_Y0 rfl dX6_newPump_45 ?_
  refine e_iload dX6_newPump_48 rfl ?_
  refine e_iconst (3 : Int32) dX6_newPump_50 (by decide) ?_
  refine e_callS (f2 := 0) (l2 := 0) (ν := mtX6_at) (as := [.int v1, .int (3 : Int32)]) cs_RX6_63 ⟨Nat.le_of_ble_eq_true rfl, Nat.le_of_ble_eq_true rfl⟩ rfl rfl (Nat.le_of_ble_eq_true rfl) dX6_newPump_51 ?_
  refine ctX6_at v1 (3 : Int32) ?_
  show Ev (wY, z) mtX6_newPump 1 21 54 [some (.ref 0), some (.int a1), some (.int a2), some (.int a3), some (.int a4), some (.int v1)] [.int (fpX6_at v1 (3 : Int32)), .ref 1] M7 Q
  refine e_iload dX6_newPump_54 rfl ?_
  refine ok_inb h (fun k8 ek8 ik8 h => ?_)
  refine e_iastK ia_Y1 ik8 ek8 dX6_newPump_56 ?_
  refine lv1 (P := fun M9 => Ev (wY, z) mtX6_newPump 1 21 57 [some (.ref 0), some (.int a1), some (.int a2), some (.int a3), some (.int a4), some (.int v1)] [] M9 Q) h (fun M9 h => ?_)
  refine e_aload_n dX6_newPump_57 rfl ?_
  refine e_getR fa_RX6_7 is_Y0 rfl dX6_newPump_58 ?_
  refine e_iload dX6_newPump_61 rfl ?_
  refine e_iconst (4 : Int32) dX6_newPump_63 (by decide) ?_
  refine e_callS (f2 := 0) (l2 := 0) (ν := mtX6_at) (as := [.int v1, .int (4 : Int32)]) cs_RX6_63 ⟨Nat.le_of_ble_eq_true rfl, Nat.le_of_ble_eq_true rfl⟩ rfl rfl (Nat.le_of_ble_eq_true rfl) dX6_newPump_64 ?_
  refine ctX6_at v1 (4 : Int32) ?_
  show Ev (wY, z) mtX6_newPump 1 21 67 [some (.ref 0), some (.int a1), some (.int a2), some (.int a3), some (.int a4), some (.int v1)] [.int (fpX6_at v1 (4 : Int32)), .ref 1] M9 Q
  refine e_iconst (0 : Int32) dX6_newPump_67 (by decide) ?_
  refine ok_inb h (fun k10 ek10 ik10 h => ?_)
  refine e_iastK ia_Y1 ik10 ek10 dX6_newPump_68 ?_
  refine lv1 (P := fun M11 => Ev (wY, z) mtX6_newPump 1 21 69 [some (.ref 0), some (.int a1), some (.int a2), some (.int a3), some (.int a4), some (.int v1)] [] M11 Q) h (fun M11 h => ?_)
  refine e_aload_n dX6_newPump_69 rfl ?_
  refine e_getR fa_RX6_7 is_Y0 rfl dX6_newPump_70 ?_
  refine e_iload dX6_newPump_73 rfl ?_
  refine e_iconst (5 : Int32) dX6_newPump_75 (by decide) ?_
  refine e_callS (f2 := 0) (l2 := 0) (ν := mtX6_at) (as := [.int v1, .int (5 : Int32)]) cs_RX6_63 ⟨Nat.le_of_ble_eq_true rfl, Nat.le_of_ble_eq_true rfl⟩ rfl rfl (Nat.le_of_ble_eq_true rfl) dX6_newPump_76 ?_
  refine ctX6_at v1 (5 : Int32) ?_
  show Ev (wY, z) mtX6_newPump 1 21 79 [some (.ref 0), some (.int a1), some (.int a2), some (.int a3), some (.int a4), some (.int v1)] [.int (fpX6_at v1 (5 : Int32)), .ref 1] M11 Q
  refine e_iconst (0 : Int32) dX6_newPump_79 (by decide) ?_
  refine ok_inb h (fun k12 ek12 ik12 h => ?_)
  refine e_iastK ia_Y1 ik12 ek12 dX6_newPump_80 ?_
  refine lv1 (P := fun M13 => Ev (wY, z) mtX6_newPump 1 21 81 [some (.ref 0), some (.int a1), some (.int a2), some (.int a3), some (.int a4), some (.int v1)] [] M13 Q) h (fun M13 h => ?_)
  refine e_aload_n dX6_newPump_81 rfl ?_
  refine e_getR fa_RX6_7 is_Y0 rfl dX6_newPump_82 ?_
  refine e_iconst (0 : Int32) dX6_newPump_85 (by decide) ?_
  refine e_dup2 dX6_newPump_86 rfl rfl ?_
  refine e_ialdK ia_Y1 (by unfold vp_in; decide) (q := 0) (by decide) dX6_newPump_87 ?_
  refine e_iconst (1 : Int32) dX6_newPump_88 (by decide) ?_
  refine e_iadd dX6_newPump_89 ?_
  refine e_iastK ia_Y1 (by unfold vp_in; decide) (q := 0) (by decide) dX6_newPump_90 ?_
  refine lv1 (P := fun M14 => Ev (wY, z) mtX6_newPump 1 21 91 [some (.ref 0), some (.int a1), some (.int a2), some (.int a3), some (.int a4), some (.int v1)] [] M14 Q) h (fun M14 h => ?_)
  refine e_iload dX6_newPump_91 rfl ?_
  have h := ok_some h
  exact e_iret rfl dX6_newPump_93 h
def fpX6_pump (a1 : Int32) (a2 : Int32) (a3 : Int32) (M : Me) : Option (Int32 × Me) := (if (fpX6_isPart (0 : Int32) a1) = 0 then
 (fpX6_finds (-1000001 : Int32) M).bind fun q2 =>
 some (q2.1, q2.2)
 else
 (if (fpX6_isMile a2) = 0 then
 (fpX6_finds (-1000001 : Int32) M).bind fun q4 =>
 some (q4.1, q4.2)
 else
 (if (fpX6_isPart (2 : Int32) a3) = 0 then
 (fpX6_finds (-1000001 : Int32) M).bind fun q9 =>
 some (q9.1, q9.2)
 else
 (if (M.1 1 0) = (8 : Int32) then
 (fpX6_finds (-1000002 : Int32) M).bind fun q8 =>
 some (q8.1, q8.2)
 else
 (fpX6_newPump a1 a2 a3 (0 : Int32) M).bind fun q7 =>
 some (q7.1, q7.2)))))
set_option maxRecDepth 20000 in
theorem ctX6_pump {z : Zt} {M : Me} {Q : Option Value → Me → Prop} (a1 : Int32) (a2 : Int32) (a3 : Int32)  (h : ok (fpX6_pump a1 a2 a3 M) (fun a => Q (some (.int a.1)) a.2)) : EvM (wY, z) mtX6_pump 3 66 [.ref 0, .int a1, .int a2, .int a3] M Q := by
  refine evm_of [some (.ref 0), some (.int a1), some (.int a2), some (.int a3)] 0 (by decide +kernel) (Nat.le_of_ble_eq_true rfl) rfl ?_
  unfold fpX6_pump at h
  refine e_iconst (0 : Int32) dX6_pump_0 (by decide) ?_
  refine e_iload_n dX6_pump_1 rfl ?_
  refine e_callS (f2 := 2) (l2 := 45) (ν := mtX6_isPart) (as := [.int (0 : Int32), .int a1]) cs_RX6_77 ⟨Nat.le_of_ble_eq_true rfl, Nat.le_of_ble_eq_true rfl⟩ rfl rfl (Nat.le_of_ble_eq_true rfl) dX6_pump_2 ?_
  refine ctX6_isPart (0 : Int32) a1 ?_
  show Ev (wY, z) mtX6_pump 3 66 5 [some (.ref 0), some (.int a1), some (.int a2), some (.int a3)] [.int (fpX6_isPart (0 : Int32) a1)] M Q
  refine e_if_eq 23 dX6_pump_5 (by decide) (fun c1 => ?_) (fun c1 => ?_)
  · have h := ok_t c1 h
    refine e_aload_n dX6_pump_23 rfl ?_
    refine e_ldc wk_RX6_55 dX6_pump_24 ?_
    refine e_callV (f2 := 0) (l2 := 0) (ν := mtX6_finds) (as := [.int (-1000001 : Int32)]) cv_RX6_81 is_Y0 kc_7 ⟨Nat.le_of_ble_eq_true rfl, Nat.le_of_ble_eq_true rfl⟩ rfl rfl (Nat.le_of_ble_eq_true rfl) dX6_pump_26 ?_
    refine ctX6_finds (-1000001 : Int32) (ok_bnd h (fun q2 h => ?_))
    show Ev (wY, z) mtX6_pump 3 66 29 [some (.ref 0), some (.int a1), some (.int a2), some (.int a3)] [.int q2.1] q2.2 Q
    have h := ok_some h
    exact e_iret rfl dX6_pump_29 h
  · have h := ok_f c1 h
    refine e_iload_n dX6_pump_8 rfl ?_
    refine e_callS (f2 := 1) (l2 := 25) (ν := mtX6_isMile) (as := [.int a2]) cs_RX6_69 ⟨Nat.le_of_ble_eq_true rfl, Nat.le_of_ble_eq_true rfl⟩ rfl rfl (Nat.le_of_ble_eq_true rfl) dX6_pump_9 ?_
    refine ctX6_isMile a2 ?_
    show Ev (wY, z) mtX6_pump 3 66 12 [some (.ref 0), some (.int a1), some (.int a2), some (.int a3)] [.int (fpX6_isMile a2)] M Q
    refine e_if_eq 23 dX6_pump_12 (by decide) (fun c3 => ?_) (fun c3 => ?_)
    · have h := ok_t c3 h
      refine e_aload_n dX6_pump_23 rfl ?_
      refine e_ldc wk_RX6_55 dX6_pump_24 ?_
      refine e_callV (f2 := 0) (l2 := 0) (ν := mtX6_finds) (as := [.int (-1000001 : Int32)]) cv_RX6_81 is_Y0 kc_7 ⟨Nat.le_of_ble_eq_true rfl, Nat.le_of_ble_eq_true rfl⟩ rfl rfl (Nat.le_of_ble_eq_true rfl) dX6_pump_26 ?_
      refine ctX6_finds (-1000001 : Int32) (ok_bnd h (fun q4 h => ?_))
      show Ev (wY, z) mtX6_pump 3 66 29 [some (.ref 0), some (.int a1), some (.int a2), some (.int a3)] [.int q4.1] q4.2 Q
      have h := ok_some h
      exact e_iret rfl dX6_pump_29 h
    · have h := ok_f c3 h
      refine e_iconst (2 : Int32) dX6_pump_15 (by decide) ?_
      refine e_iload_n dX6_pump_16 rfl ?_
      refine e_callS (f2 := 2) (l2 := 45) (ν := mtX6_isPart) (as := [.int (2 : Int32), .int a3]) cs_RX6_77 ⟨Nat.le_of_ble_eq_true rfl, Nat.le_of_ble_eq_true rfl⟩ rfl rfl (Nat.le_of_ble_eq_true rfl) dX6_pump_17 ?_
      refine ctX6_isPart (2 : Int32) a3 ?_
      show Ev (wY, z) mtX6_pump 3 66 20 [some (.ref 0), some (.int a1), some (.int a2), some (.int a3)] [.int (fpX6_isPart (2 : Int32) a3)] M Q
      refine e_if_ne 30 dX6_pump_20 (by decide) (fun c5 => ?_) (fun c5 => ?_)
      · have h := ok_f c5 h
        refine e_aload_n dX6_pump_30 rfl ?_
        refine e_getR fa_RX6_7 is_Y0 rfl dX6_pump_31 ?_
        refine e_iconst (0 : Int32) dX6_pump_34 (by decide) ?_
        refine e_ialdK ia_Y1 (by unfold vp_in; decide) (q := 0) (by decide) dX6_pump_35 ?_
        refine e_bipush (8 : Int32) dX6_pump_36 (by decide) ?_
        refine e_icmp_ne 50 dX6_pump_38 (by decide) (fun c6 => ?_) (fun c6 => ?_)
        · have h := ok_f c6 h
          refine e_aload_n dX6_pump_50 rfl ?_
          refine e_iload_n dX6_pump_51 rfl ?_
          refine e_iload_n dX6_pump_52 rfl ?_
          refine e_iload_n dX6_pump_53 rfl ?_
          refine e_iconst (0 : Int32) dX6_pump_54 (by decide) ?_
          refine e_callV (f2 := 1) (l2 := 21) (ν := mtX6_newPump) (as := [.int a1, .int a2, .int a3, .int (0 : Int32)]) cv_RX6_86 is_Y0 kc_7 ⟨Nat.le_of_ble_eq_true rfl, Nat.le_of_ble_eq_true rfl⟩ rfl rfl (Nat.le_of_ble_eq_true rfl) dX6_pump_55 ?_
          refine ctX6_newPump a1 a2 a3 (0 : Int32) (ok_bnd h (fun q7 h => ?_))
          show Ev (wY, z) mtX6_pump 3 66 58 [some (.ref 0), some (.int a1), some (.int a2), some (.int a3)] [.int q7.1] q7.2 Q
          have h := ok_some h
          exact e_iret rfl dX6_pump_58 h
        · have h := ok_t c6 h
          refine e_aload_n dX6_pump_41 rfl ?_
          refine e_ldc wk_RX6_85 dX6_pump_42 ?_
          refine e_callV (f2 := 0) (l2 := 0) (ν := mtX6_finds) (as := [.int (-1000002 : Int32)]) cv_RX6_81 is_Y0 kc_7 ⟨Nat.le_of_ble_eq_true rfl, Nat.le_of_ble_eq_true rfl⟩ rfl rfl (Nat.le_of_ble_eq_true rfl) dX6_pump_44 ?_
          refine ctX6_finds (-1000002 : Int32) (ok_bnd h (fun q8 h => ?_))
          show Ev (wY, z) mtX6_pump 3 66 47 [some (.ref 0), some (.int a1), some (.int a2), some (.int a3)] [.int q8.1] q8.2 Q
          refine e_goto 58 dX6_pump_47 (by decide) ?_
          have h := ok_some h
          exact e_iret rfl dX6_pump_58 h
      · have h := ok_t c5 h
        refine e_aload_n dX6_pump_23 rfl ?_
        refine e_ldc wk_RX6_55 dX6_pump_24 ?_
        refine e_callV (f2 := 0) (l2 := 0) (ν := mtX6_finds) (as := [.int (-1000001 : Int32)]) cv_RX6_81 is_Y0 kc_7 ⟨Nat.le_of_ble_eq_true rfl, Nat.le_of_ble_eq_true rfl⟩ rfl rfl (Nat.le_of_ble_eq_true rfl) dX6_pump_26 ?_
        refine ctX6_finds (-1000001 : Int32) (ok_bnd h (fun q9 h => ?_))
        show Ev (wY, z) mtX6_pump 3 66 29 [some (.ref 0), some (.int a1), some (.int a2), some (.int a3)] [.int q9.1] q9.2 Q
        have h := ok_some h
        exact e_iret rfl dX6_pump_29 h
def fpX6_least0 (a0 : Int32) : Int32 := (if 0 ≤ a0 then a0 else (0 : Int32))
set_option maxRecDepth 20000 in
theorem ctX6_least0 {z : Zt} {M : Me} {Q : Option Value → Me → Prop} (a0 : Int32)  (h : Q (some (.int (fpX6_least0 a0))) M) : EvM (wY, z) mtX6_least0 0 0 [.int a0] M Q := by
  refine evm_of [some (.int a0)] 0 (by decide +kernel) (Nat.le_of_ble_eq_true rfl) rfl ?_
  refine e_iload_n dX6_least0_0 rfl ?_
  refine e_if_ge 8 dX6_least0_1 (by decide) (fun c1 => ?_) (fun c1 => ?_)
  · refine e_iload_n dX6_least0_8 rfl ?_
    have e0 : fpX6_least0 a0 = a0 := by
      unfold fpX6_least0
      rw [if_pos c1]
    rw [e0] at h
    exact e_iret rfl dX6_least0_9 h
  · refine e_iconst (0 : Int32) dX6_least0_4 (by decide) ?_
    refine e_goto 9 dX6_least0_5 (by decide) ?_
    have e0 : fpX6_least0 a0 = (0 : Int32) := by
      unfold fpX6_least0
      rw [if_neg c1]
    rw [e0] at h
    exact e_iret rfl dX6_least0_9 h
def fpX6_yieldOf (a1 : Int32) (M : Me) : Option (Int32) := (fpX6_its a1 (2 : Int32) M).bind fun v1 =>
 letv (fpX6_least0 (v1 - (M.1 1 4))) fun v2 =>
 (fpX6_its a1 (4 : Int32) M).bind fun v3 =>
 letv (fpX6_least0 (v2 - v3)) fun v4 =>
 (fpX6_its a1 (0 : Int32) M).bind fun v5 =>
 (if v5 = (2 : Int32) then
 some (1 : Int32)
 else
 (if v5 = (3 : Int32) then
 some v4
 else
 (if v5 = (4 : Int32) then
 some (v2 / (2 : Int32))
 else
 (if v5 = (5 : Int32) then
 (if (9 : Int32) ≤ (M.1 1 5) then
 some v2
 else
 some (v2 + (3 : Int32)))
 else
 (if v5 = (6 : Int32) then
 (if (12 : Int32) ≤ (M.1 1 5) then
 some (0 : Int32)
 else
 some v4)
 else
 some v2)))))
set_option maxRecDepth 20000 in
theorem ctX6_yieldOf {z : Zt} {M : Me} {Q : Option Value → Me → Prop} (a1 : Int32)  (h : ok (fpX6_yieldOf a1 M) (fun a => Q (some (.int a)) M)) : EvM (wY, z) mtX6_yieldOf 2 43 [.ref 0, .int a1] M Q := by
  refine evm_of [some (.ref 0), some (.int a1), none, none] 2 (by decide +kernel) (Nat.le_of_ble_eq_true rfl) rfl ?_
  unfold fpX6_yieldOf at h
  refine e_aload_n dX6_yieldOf_0 rfl ?_
  refine e_iload_n dX6_yieldOf_1 rfl ?_
  refine e_iconst (2 : Int32) dX6_yieldOf_2 (by decide) ?_
  refine e_callV (f2 := 1) (l2 := 21) (ν := mtX6_its) (as := [.int a1, .int (2 : Int32)]) cv_RX6_90 is_Y0 kc_7 ⟨Nat.le_of_ble_eq_true rfl, Nat.le_of_ble_eq_true rfl⟩ rfl rfl (Nat.le_of_ble_eq_true rfl) dX6_yieldOf_3 ?_
  refine ctX6_its a1 (2 : Int32) (ok_bnd h (fun v1 h => ?_))
  show Ev (wY, z) mtX6_yieldOf 2 43 6 [some (.ref 0), some (.int a1), none, none] [.int v1] M Q
  refine e_aload_n dX6_yieldOf_6 rfl ?_
  refine e_getR fa_RX6_7 is_Y0 rfl dX6_yieldOf_7 ?_
  refine e_iconst (4 : Int32) dX6_yieldOf_10 (by decide) ?_
  refine e_ialdK ia_Y1 (by unfold vp_in; decide) (q := 4) (by decide) dX6_yieldOf_11 ?_
  refine e_isub dX6_yieldOf_12 ?_
  refine e_callS (f2 := 0) (l2 := 0) (ν := mtX6_least0) (as := [.int (v1 - (M.1 1 4))]) cs_RX6_93 ⟨Nat.le_of_ble_eq_true rfl, Nat.le_of_ble_eq_true rfl⟩ rfl rfl (Nat.le_of_ble_eq_true rfl) dX6_yieldOf_13 ?_
  refine ctX6_least0 (v1 - (M.1 1 4)) ?_
  show Ev (wY, z) mtX6_yieldOf 2 43 16 [some (.ref 0), some (.int a1), none, none] [.int (fpX6_least0 (v1 - (M.1 1 4)))] M Q
  refine lv1 (P := fun v2 => Ev (wY, z) mtX6_yieldOf 2 43 16 [some (.ref 0), some (.int a1), none, none] [.int v2] M Q) h (fun v2 h => ?_)
  refine e_istore_n dX6_yieldOf_16 (by decide) rfl ?_
  refine e_iload_n dX6_yieldOf_17 rfl ?_
  refine e_aload_n dX6_yieldOf_18 rfl ?_
  refine e_iload_n dX6_yieldOf_19 rfl ?_
  refine e_iconst (4 : Int32) dX6_yieldOf_20 (by decide) ?_
  refine e_callV (f2 := 1) (l2 := 21) (ν := mtX6_its) (as := [.int a1, .int (4 : Int32)]) cv_RX6_90 is_Y0 kc_7 ⟨Nat.le_of_ble_eq_true rfl, Nat.le_of_ble_eq_true rfl⟩ rfl rfl (Nat.le_of_ble_eq_true rfl) dX6_yieldOf_21 ?_
  refine ctX6_its a1 (4 : Int32) (ok_bnd h (fun v3 h => ?_))
  show Ev (wY, z) mtX6_yieldOf 2 43 24 [some (.ref 0), some (.int a1), some (.int v2), none] [.int v3, .int v2] M Q
  refine e_isub dX6_yieldOf_24 ?_
  refine e_callS (f2 := 0) (l2 := 0) (ν := mtX6_least0) (as := [.int (v2 - v3)]) cs_RX6_93 ⟨Nat.le_of_ble_eq_true rfl, Nat.le_of_ble_eq_true rfl⟩ rfl rfl (Nat.le_of_ble_eq_true rfl) dX6_yieldOf_25 ?_
  refine ctX6_least0 (v2 - v3) ?_
  show Ev (wY, z) mtX6_yieldOf 2 43 28 [some (.ref 0), some (.int a1), some (.int v2), none] [.int (fpX6_least0 (v2 - v3))] M Q
  refine lv1 (P := fun v4 => Ev (wY, z) mtX6_yieldOf 2 43 28 [some (.ref 0), some (.int a1), some (.int v2), none] [.int v4] M Q) h (fun v4 h => ?_)
  refine e_istore_n dX6_yieldOf_28 (by decide) rfl ?_
  refine e_aload_n dX6_yieldOf_29 rfl ?_
  refine e_iload_n dX6_yieldOf_30 rfl ?_
  refine e_iconst (0 : Int32) dX6_yieldOf_31 (by decide) ?_
  refine e_callV (f2 := 1) (l2 := 21) (ν := mtX6_its) (as := [.int a1, .int (0 : Int32)]) cv_RX6_90 is_Y0 kc_7 ⟨Nat.le_of_ble_eq_true rfl, Nat.le_of_ble_eq_true rfl⟩ rfl rfl (Nat.le_of_ble_eq_true rfl) dX6_yieldOf_32 ?_
  refine ctX6_its a1 (0 : Int32) (ok_bnd h (fun v5 h => ?_))
  show Ev (wY, z) mtX6_yieldOf 2 43 35 [some (.ref 0), some (.int a1), some (.int v2), some (.int v4)] [.int v5] M Q
  by_cases c6 : v5 = (2 : Int32)
  · refine e_tswC (2 : Int32) 68 c6 dX6_yieldOf_35 (by decide) (by decide) rfl (by decide) ?_
    have h := ok_t c6 h
    refine e_iconst (1 : Int32) dX6_yieldOf_68 (by decide) ?_
    have h := ok_some h
    exact e_iret rfl dX6_yieldOf_69 h
  · have h := ok_f c6 h
    by_cases c7 : v5 = (3 : Int32)
    · refine e_tswC (3 : Int32) 70 c7 dX6_yieldOf_35 (by decide) (by decide) rfl (by decide) ?_
      have h := ok_t c7 h
      refine e_iload_n dX6_yieldOf_70 rfl ?_
      have h := ok_some h
      exact e_iret rfl dX6_yieldOf_71 h
    · have h := ok_f c7 h
      by_cases c8 : v5 = (4 : Int32)
      · refine e_tswC (4 : Int32) 72 c8 dX6_yieldOf_35 (by decide) (by decide) rfl (by decide) ?_
        have h := ok_t c8 h
        refine e_iload_n dX6_yieldOf_72 rfl ?_
        refine e_iconst (2 : Int32) dX6_yieldOf_73 (by decide) ?_
        refine e_idiv dX6_yieldOf_74 (by decide) ?_
        have h := ok_some h
        exact e_iret rfl dX6_yieldOf_75 h
      · have h := ok_f c8 h
        by_cases c9 : v5 = (5 : Int32)
        · refine e_tswC (5 : Int32) 76 c9 dX6_yieldOf_35 (by decide) (by decide) rfl (by decide) ?_
          have h := ok_t c9 h
          refine e_aload_n dX6_yieldOf_76 rfl ?_
          refine e_getR fa_RX6_7 is_Y0 rfl dX6_yieldOf_77 ?_
          refine e_iconst (5 : Int32) dX6_yieldOf_80 (by decide) ?_
          refine e_ialdK ia_Y1 (by unfold vp_in; decide) (q := 5) (by decide) dX6_yieldOf_81 ?_
          refine e_bipush (9 : Int32) dX6_yieldOf_82 (by decide) ?_
          refine e_icmp_ge 93 dX6_yieldOf_84 (by decide) (fun c10 => ?_) (fun c10 => ?_)
          · have h := ok_t c10 h
            refine e_iload_n dX6_yieldOf_93 rfl ?_
            have h := ok_some h
            exact e_iret rfl dX6_yieldOf_94 h
          · have h := ok_f c10 h
            refine e_iload_n dX6_yieldOf_87 rfl ?_
            refine e_iconst (3 : Int32) dX6_yieldOf_88 (by decide) ?_
            refine e_iadd dX6_yieldOf_89 ?_
            refine e_goto 94 dX6_yieldOf_90 (by decide) ?_
            have h := ok_some h
            exact e_iret rfl dX6_yieldOf_94 h
        · have h := ok_f c9 h
          by_cases c11 : v5 = (6 : Int32)
          · refine e_tswC (6 : Int32) 95 c11 dX6_yieldOf_35 (by decide) (by decide) rfl (by decide) ?_
            have h := ok_t c11 h
            refine e_aload_n dX6_yieldOf_95 rfl ?_
            refine e_getR fa_RX6_7 is_Y0 rfl dX6_yieldOf_96 ?_
            refine e_iconst (5 : Int32) dX6_yieldOf_99 (by decide) ?_
            refine e_ialdK ia_Y1 (by unfold vp_in; decide) (q := 5) (by decide) dX6_yieldOf_100 ?_
            refine e_bipush (12 : Int32) dX6_yieldOf_101 (by decide) ?_
            refine e_icmp_ge 110 dX6_yieldOf_103 (by decide) (fun c12 => ?_) (fun c12 => ?_)
            · have h := ok_t c12 h
              refine e_iconst (0 : Int32) dX6_yieldOf_110 (by decide) ?_
              have h := ok_some h
              exact e_iret rfl dX6_yieldOf_111 h
            · have h := ok_f c12 h
              refine e_iload_n dX6_yieldOf_106 rfl ?_
              refine e_goto 111 dX6_yieldOf_107 (by decide) ?_
              have h := ok_some h
              exact e_iret rfl dX6_yieldOf_111 h
          · have h := ok_f c11 h
            refine e_tswD 112 dX6_yieldOf_35 (by have q0 := lv_neT (a := 2) c6 rfl; have q1 := lv_neT (a := 3) c7 rfl; have q2 := lv_neT (a := 4) c8 rfl; have q3 := lv_neT (a := 5) c9 rfl; have q4 := lv_neT (a := 6) c11 rfl; omega) (by decide) ?_
            refine e_iload_n dX6_yieldOf_112 rfl ?_
            have h := ok_some h
            exact e_iret rfl dX6_yieldOf_113 h
def fpX6_needOf_b56 (a2 : Int32) (M : Me) : Option (Int32) := some ((a2 + (1 : Int32)) / (2 : Int32))
set_option maxRecDepth 20000 in
theorem ebX6_needOf_b56 {z : Zt} {Q : Option Value → Me → Prop} (a2 : Int32) (M : Me) (h : ok (fpX6_needOf_b56 a2 M) (fun a => Q (some (.int a)) M)) : Ev (wY, z) mtX6_needOf 3 66 56 [none, none, some (.int a2), none] [] M Q := by
  unfold fpX6_needOf_b56 at h
  refine e_iload_n dX6_needOf_56 rfl ?_
  refine e_iconst (1 : Int32) dX6_needOf_57 (by decide) ?_
  refine e_iadd dX6_needOf_58 ?_
  refine e_iconst (2 : Int32) dX6_needOf_59 (by decide) ?_
  refine e_idiv dX6_needOf_60 (by decide) ?_
  have h := ok_some h
  exact e_iret rfl dX6_needOf_61 h
def fpX6_needOf (a1 : Int32) (M : Me) : Option (Int32) := (fpX6_yieldOf a1 M).bind fun v1 =>
 letv ((v1 + (2 : Int32)) / (3 : Int32)) fun v2 =>
 (fpX6_its a1 (0 : Int32) M).bind fun v3 =>
 (if v3 = (1 : Int32) then
 fpX6_needOf_b56 v1 M
 else
 (if v3 = (2 : Int32) then
 some (0 : Int32)
 else
 (if v3 = (3 : Int32) then
 some v2
 else
 (if v3 = (4 : Int32) then
 fpX6_needOf_b56 v1 M
 else
 (if v3 = (5 : Int32) then
 some v2
 else
 (if v3 = (6 : Int32) then
 some (v2 + (1 : Int32))
 else
 some v2))))))
set_option maxRecDepth 20000 in
theorem ctX6_needOf {z : Zt} {M : Me} {Q : Option Value → Me → Prop} (a1 : Int32)  (h : ok (fpX6_needOf a1 M) (fun a => Q (some (.int a)) M)) : EvM (wY, z) mtX6_needOf 3 66 [.ref 0, .int a1] M Q := by
  refine evm_of [some (.ref 0), some (.int a1), none, none] 2 (by decide +kernel) (Nat.le_of_ble_eq_true rfl) rfl ?_
  unfold fpX6_needOf at h
  refine e_aload_n dX6_needOf_0 rfl ?_
  refine e_iload_n dX6_needOf_1 rfl ?_
  refine e_callV (f2 := 2) (l2 := 43) (ν := mtX6_yieldOf) (as := [.int a1]) cv_RX6_96 is_Y0 kc_7 ⟨Nat.le_of_ble_eq_true rfl, Nat.le_of_ble_eq_true rfl⟩ rfl rfl (Nat.le_of_ble_eq_true rfl) dX6_needOf_2 ?_
  refine ctX6_yieldOf a1 (ok_bnd h (fun v1 h => ?_))
  show Ev (wY, z) mtX6_needOf 3 66 5 [some (.ref 0), some (.int a1), none, none] [.int v1] M Q
  refine e_istore_n dX6_needOf_5 (by decide) rfl ?_
  refine e_iload_n dX6_needOf_6 rfl ?_
  refine e_iconst (2 : Int32) dX6_needOf_7 (by decide) ?_
  refine e_iadd dX6_needOf_8 ?_
  refine e_iconst (3 : Int32) dX6_needOf_9 (by decide) ?_
  refine e_idiv dX6_needOf_10 (by decide) ?_
  refine lv1 (P := fun v2 => Ev (wY, z) mtX6_needOf 3 66 11 [some (.ref 0), some (.int a1), some (.int v1), none] [.int v2] M Q) h (fun v2 h => ?_)
  refine e_istore_n dX6_needOf_11 (by decide) rfl ?_
  refine e_aload_n dX6_needOf_12 rfl ?_
  refine e_iload_n dX6_needOf_13 rfl ?_
  refine e_iconst (0 : Int32) dX6_needOf_14 (by decide) ?_
  refine e_callV (f2 := 1) (l2 := 21) (ν := mtX6_its) (as := [.int a1, .int (0 : Int32)]) cv_RX6_90 is_Y0 kc_7 ⟨Nat.le_of_ble_eq_true rfl, Nat.le_of_ble_eq_true rfl⟩ rfl rfl (Nat.le_of_ble_eq_true rfl) dX6_needOf_15 ?_
  refine ctX6_its a1 (0 : Int32) (ok_bnd h (fun v3 h => ?_))
  show Ev (wY, z) mtX6_needOf 3 66 18 [some (.ref 0), some (.int a1), some (.int v1), some (.int v2)] [.int v3] M Q
  by_cases c4 : v3 = (1 : Int32)
  · refine e_tswC (1 : Int32) 56 c4 dX6_needOf_18 (by decide) (by decide) rfl (by decide) ?_
    have h := ok_t c4 h
    refine e_forget [none, none, some (.int v1), none] (leL_n (leL_n (leL_s (leL_n leL_0)))) ?_
    exact ebX6_needOf_b56 v1 M h
  · have h := ok_f c4 h
    by_cases c5 : v3 = (2 : Int32)
    · refine e_tswC (2 : Int32) 62 c5 dX6_needOf_18 (by decide) (by decide) rfl (by decide) ?_
      have h := ok_t c5 h
      refine e_iconst (0 : Int32) dX6_needOf_62 (by decide) ?_
      have h := ok_some h
      exact e_iret rfl dX6_needOf_63 h
    · have h := ok_f c5 h
      by_cases c6 : v3 = (3 : Int32)
      · refine e_tswC (3 : Int32) 68 c6 dX6_needOf_18 (by decide) (by decide) rfl (by decide) ?_
        have h := ok_t c6 h
        refine e_iload_n dX6_needOf_68 rfl ?_
        have h := ok_some h
        exact e_iret rfl dX6_needOf_69 h
      · have h := ok_f c6 h
        by_cases c7 : v3 = (4 : Int32)
        · refine e_tswC (4 : Int32) 56 c7 dX6_needOf_18 (by decide) (by decide) rfl (by decide) ?_
          have h := ok_t c7 h
          refine e_forget [none, none, some (.int v1), none] (leL_n (leL_n (leL_s (leL_n leL_0)))) ?_
          exact ebX6_needOf_b56 v1 M h
        · have h := ok_f c7 h
          by_cases c8 : v3 = (5 : Int32)
          · refine e_tswC (5 : Int32) 68 c8 dX6_needOf_18 (by decide) (by decide) rfl (by decide) ?_
            have h := ok_t c8 h
            refine e_iload_n dX6_needOf_68 rfl ?_
            have h := ok_some h
            exact e_iret rfl dX6_needOf_69 h
          · have h := ok_f c8 h
            by_cases c9 : v3 = (6 : Int32)
            · refine e_tswC (6 : Int32) 64 c9 dX6_needOf_18 (by decide) (by decide) rfl (by decide) ?_
              have h := ok_t c9 h
              refine e_iload_n dX6_needOf_64 rfl ?_
              refine e_iconst (1 : Int32) dX6_needOf_65 (by decide) ?_
              refine e_iadd dX6_needOf_66 ?_
              have h := ok_some h
              exact e_iret rfl dX6_needOf_67 h
            · have h := ok_f c9 h
              refine e_tswD 68 dX6_needOf_18 (by have q0 := lv_neT (a := 1) c4 rfl; have q1 := lv_neT (a := 2) c5 rfl; have q2 := lv_neT (a := 3) c6 rfl; have q3 := lv_neT (a := 4) c7 rfl; have q4 := lv_neT (a := 5) c8 rfl; have q5 := lv_neT (a := 6) c9 rfl; omega) (by decide) ?_
              refine e_iload_n dX6_needOf_68 rfl ?_
              have h := ok_some h
              exact e_iret rfl dX6_needOf_69 h
def fpX6_of (a1 : Int32) (a2 : Int32) (M : Me) : Option (Int32 × Me) := (if (fpX6_isPump a1 M) = 0 then
 (fpX6_finds (-1000001 : Int32) M).bind fun q2 =>
 some (q2.1, q2.2)
 else
 (if (fpX6_in (a2.toInt64) (0 : Int64) (7 : Int64)) = 0 then
 (fpX6_finds (-1000001 : Int32) M).bind fun q9 =>
 some (q9.1, q9.2)
 else
 (if (6 : Int32) ≤ a2 then
 (if a2 = (6 : Int32) then
 (fpX6_yieldOf a1 M).bind fun v7 =>
 some (v7, M)
 else
 (fpX6_needOf a1 M).bind fun v6 =>
 some (v6, M))
 else
 (fpX6_its a1 a2 M).bind fun v8 =>
 some (v8, M))))
set_option maxRecDepth 20000 in
theorem ctX6_of {z : Zt} {M : Me} {Q : Option Value → Me → Prop} (a1 : Int32) (a2 : Int32)  (h : ok (fpX6_of a1 a2 M) (fun a => Q (some (.int a.1)) a.2)) : EvM (wY, z) mtX6_of 4 89 [.ref 0, .int a1, .int a2] M Q := by
  refine evm_of [some (.ref 0), some (.int a1), some (.int a2)] 0 (by decide +kernel) (Nat.le_of_ble_eq_true rfl) rfl ?_
  unfold fpX6_of at h
  refine e_aload_n dX6_of_0 rfl ?_
  refine e_iload_n dX6_of_1 rfl ?_
  refine e_callV (f2 := 1) (l2 := 25) (ν := mtX6_isPump) (as := [.int a1]) cv_RX6_99 is_Y0 kc_7 ⟨Nat.le_of_ble_eq_true rfl, Nat.le_of_ble_eq_true rfl⟩ rfl rfl (Nat.le_of_ble_eq_true rfl) dX6_of_2 ?_
  refine ctX6_isPump a1 ?_
  show Ev (wY, z) mtX6_of 4 89 5 [some (.ref 0), some (.int a1), some (.int a2)] [.int (fpX6_isPump a1 M)] M Q
  refine e_if_eq 20 dX6_of_5 (by decide) (fun c1 => ?_) (fun c1 => ?_)
  · have h := ok_t c1 h
    refine e_aload_n dX6_of_20 rfl ?_
    refine e_ldc wk_RX6_55 dX6_of_21 ?_
    refine e_callV (f2 := 0) (l2 := 0) (ν := mtX6_finds) (as := [.int (-1000001 : Int32)]) cv_RX6_81 is_Y0 kc_7 ⟨Nat.le_of_ble_eq_true rfl, Nat.le_of_ble_eq_true rfl⟩ rfl rfl (Nat.le_of_ble_eq_true rfl) dX6_of_23 ?_
    refine ctX6_finds (-1000001 : Int32) (ok_bnd h (fun q2 h => ?_))
    show Ev (wY, z) mtX6_of 4 89 26 [some (.ref 0), some (.int a1), some (.int a2)] [.int q2.1] q2.2 Q
    have h := ok_some h
    exact e_iret rfl dX6_of_26 h
  · have h := ok_f c1 h
    refine e_iload_n dX6_of_8 rfl ?_
    refine e_i2l dX6_of_9 ?_
    refine e_lconst (0 : Int64) dX6_of_10 (by decide) ?_
    refine e_ldc2 wk_RX6_102 dX6_of_11 ?_
    refine e_callS (f2 := 0) (l2 := 0) (ν := mtX6_in) (as := [.long (a2.toInt64), .long (0 : Int64), .long (7 : Int64)]) cs_RX6_58 ⟨Nat.le_of_ble_eq_true rfl, Nat.le_of_ble_eq_true rfl⟩ rfl rfl (Nat.le_of_ble_eq_true rfl) dX6_of_14 ?_
    refine ctX6_in (a2.toInt64) (0 : Int64) (7 : Int64) ?_
    show Ev (wY, z) mtX6_of 4 89 17 [some (.ref 0), some (.int a1), some (.int a2)] [.int (fpX6_in (a2.toInt64) (0 : Int64) (7 : Int64))] M Q
    refine e_if_ne 27 dX6_of_17 (by decide) (fun c3 => ?_) (fun c3 => ?_)
    · have h := ok_f c3 h
      refine e_iload_n dX6_of_27 rfl ?_
      refine e_bipush (6 : Int32) dX6_of_28 (by decide) ?_
      refine e_icmp_ge 42 dX6_of_30 (by decide) (fun c4 => ?_) (fun c4 => ?_)
      · have h := ok_t c4 h
        refine e_iload_n dX6_of_42 rfl ?_
        refine e_bipush (6 : Int32) dX6_of_43 (by decide) ?_
        refine e_icmp_ne 56 dX6_of_45 (by decide) (fun c5 => ?_) (fun c5 => ?_)
        · have h := ok_f c5 h
          refine e_aload_n dX6_of_56 rfl ?_
          refine e_iload_n dX6_of_57 rfl ?_
          refine e_callV (f2 := 3) (l2 := 66) (ν := mtX6_needOf) (as := [.int a1]) cv_RX6_104 is_Y0 kc_7 ⟨Nat.le_of_ble_eq_true rfl, Nat.le_of_ble_eq_true rfl⟩ rfl rfl (Nat.le_of_ble_eq_true rfl) dX6_of_58 ?_
          refine ctX6_needOf a1 (ok_bnd h (fun v6 h => ?_))
          show Ev (wY, z) mtX6_of 4 89 61 [some (.ref 0), some (.int a1), some (.int a2)] [.int v6] M Q
          have h := ok_some h
          exact e_iret rfl dX6_of_61 h
        · have h := ok_t c5 h
          refine e_aload_n dX6_of_48 rfl ?_
          refine e_iload_n dX6_of_49 rfl ?_
          refine e_callV (f2 := 2) (l2 := 43) (ν := mtX6_yieldOf) (as := [.int a1]) cv_RX6_96 is_Y0 kc_7 ⟨Nat.le_of_ble_eq_true rfl, Nat.le_of_ble_eq_true rfl⟩ rfl rfl (Nat.le_of_ble_eq_true rfl) dX6_of_50 ?_
          refine ctX6_yieldOf a1 (ok_bnd h (fun v7 h => ?_))
          show Ev (wY, z) mtX6_of 4 89 53 [some (.ref 0), some (.int a1), some (.int a2)] [.int v7] M Q
          refine e_goto 61 dX6_of_53 (by decide) ?_
          have h := ok_some h
          exact e_iret rfl dX6_of_61 h
      · have h := ok_f c4 h
        refine e_aload_n dX6_of_33 rfl ?_
        refine e_iload_n dX6_of_34 rfl ?_
        refine e_iload_n dX6_of_35 rfl ?_
        refine e_callV (f2 := 1) (l2 := 21) (ν := mtX6_its) (as := [.int a1, .int a2]) cv_RX6_90 is_Y0 kc_7 ⟨Nat.le_of_ble_eq_true rfl, Nat.le_of_ble_eq_true rfl⟩ rfl rfl (Nat.le_of_ble_eq_true rfl) dX6_of_36 ?_
        refine ctX6_its a1 a2 (ok_bnd h (fun v8 h => ?_))
        show Ev (wY, z) mtX6_of 4 89 39 [some (.ref 0), some (.int a1), some (.int a2)] [.int v8] M Q
        refine e_goto 61 dX6_of_39 (by decide) ?_
        have h := ok_some h
        exact e_iret rfl dX6_of_61 h
    · have h := ok_t c3 h
      refine e_aload_n dX6_of_20 rfl ?_
      refine e_ldc wk_RX6_55 dX6_of_21 ?_
      refine e_callV (f2 := 0) (l2 := 0) (ν := mtX6_finds) (as := [.int (-1000001 : Int32)]) cv_RX6_81 is_Y0 kc_7 ⟨Nat.le_of_ble_eq_true rfl, Nat.le_of_ble_eq_true rfl⟩ rfl rfl (Nat.le_of_ble_eq_true rfl) dX6_of_23 ?_
      refine ctX6_finds (-1000001 : Int32) (ok_bnd h (fun q9 h => ?_))
      show Ev (wY, z) mtX6_of 4 89 26 [some (.ref 0), some (.int a1), some (.int a2)] [.int q9.1] q9.2 Q
      have h := ok_some h
      exact e_iret rfl dX6_of_26 h
def fpX6_change (a1 : Int32) (a2 : Int32) (a3 : Int32) (M : Me) : Option (Int32 × Me) := (if (fpX6_isPump a1 M) = 0 then
 (fpX6_finds (-1000001 : Int32) M).bind fun q2 =>
 some (q2.1, q2.2)
 else
 (if (fpX6_isPart a2 a3) = 0 then
 (fpX6_finds (-1000001 : Int32) M).bind fun q7 =>
 some (q7.1, q7.2)
 else
 (fpX6_its a1 a2 M).bind fun v4 =>
 (inb (fpX6_at a1 a2) 70).bind fun k5 =>
 letv (wrM M 1 k5 a3) fun M6 =>
 some (v4, M6)))
set_option maxRecDepth 20000 in
theorem ctX6_change {z : Zt} {M : Me} {Q : Option Value → Me → Prop} (a1 : Int32) (a2 : Int32) (a3 : Int32)  (h : ok (fpX6_change a1 a2 a3 M) (fun a => Q (some (.int a.1)) a.2)) : EvM (wY, z) mtX6_change 3 66 [.ref 0, .int a1, .int a2, .int a3] M Q := by
  refine evm_of [some (.ref 0), some (.int a1), some (.int a2), some (.int a3), none] 1 (by decide +kernel) (Nat.le_of_ble_eq_true rfl) rfl ?_
  unfold fpX6_change at h
  refine e_aload_n dX6_change_0 rfl ?_
  refine e_iload_n dX6_change_1 rfl ?_
  refine e_callV (f2 := 1) (l2 := 25) (ν := mtX6_isPump) (as := [.int a1]) cv_RX6_99 is_Y0 kc_7 ⟨Nat.le_of_ble_eq_true rfl, Nat.le_of_ble_eq_true rfl⟩ rfl rfl (Nat.le_of_ble_eq_true rfl) dX6_change_2 ?_
  refine ctX6_isPump a1 ?_
  show Ev (wY, z) mtX6_change 3 66 5 [some (.ref 0), some (.int a1), some (.int a2), some (.int a3), none] [.int (fpX6_isPump a1 M)] M Q
  refine e_if_eq 16 dX6_change_5 (by decide) (fun c1 => ?_) (fun c1 => ?_)
  · have h := ok_t c1 h
    refine e_aload_n dX6_change_16 rfl ?_
    refine e_ldc wk_RX6_55 dX6_change_17 ?_
    refine e_callV (f2 := 0) (l2 := 0) (ν := mtX6_finds) (as := [.int (-1000001 : Int32)]) cv_RX6_81 is_Y0 kc_7 ⟨Nat.le_of_ble_eq_true rfl, Nat.le_of_ble_eq_true rfl⟩ rfl rfl (Nat.le_of_ble_eq_true rfl) dX6_change_19 ?_
    refine ctX6_finds (-1000001 : Int32) (ok_bnd h (fun q2 h => ?_))
    show Ev (wY, z) mtX6_change 3 66 22 [some (.ref 0), some (.int a1), some (.int a2), some (.int a3), none] [.int q2.1] q2.2 Q
    have h := ok_some h
    exact e_iret rfl dX6_change_22 h
  · have h := ok_f c1 h
    refine e_iload_n dX6_change_8 rfl ?_
    refine e_iload_n dX6_change_9 rfl ?_
    refine e_callS (f2 := 2) (l2 := 45) (ν := mtX6_isPart) (as := [.int a2, .int a3]) cs_RX6_77 ⟨Nat.le_of_ble_eq_true rfl, Nat.le_of_ble_eq_true rfl⟩ rfl rfl (Nat.le_of_ble_eq_true rfl) dX6_change_10 ?_
    refine ctX6_isPart a2 a3 ?_
    show Ev (wY, z) mtX6_change 3 66 13 [some (.ref 0), some (.int a1), some (.int a2), some (.int a3), none] [.int (fpX6_isPart a2 a3)] M Q
    refine e_if_ne 23 dX6_change_13 (by decide) (fun c3 => ?_) (fun c3 => ?_)
    · have h := ok_f c3 h
      refine e_aload_n dX6_change_23 rfl ?_
      refine e_iload_n dX6_change_24 rfl ?_
      refine e_iload_n dX6_change_25 rfl ?_
      refine e_callV (f2 := 1) (l2 := 21) (ν := mtX6_its) (as := [.int a1, .int a2]) cv_RX6_90 is_Y0 kc_7 ⟨Nat.le_of_ble_eq_true rfl, Nat.le_of_ble_eq_true rfl⟩ rfl rfl (Nat.le_of_ble_eq_true rfl) dX6_change_26 ?_
      refine ctX6_its a1 a2 (ok_bnd h (fun v4 h => ?_))
      show Ev (wY, z) mtX6_change 3 66 29 [some (.ref 0), some (.int a1), some (.int a2), some (.int a3), none] [.int v4] M Q
      refine e_istore dX6_change_29 (by decide) rfl ?_
      refine e_aload_n dX6_change_31 rfl ?_
      refine e_getR fa_RX6_7 is_Y0 rfl dX6_change_32 ?_
      refine e_iload_n dX6_change_35 rfl ?_
      refine e_iload_n dX6_change_36 rfl ?_
      refine e_callS (f2 := 0) (l2 := 0) (ν := mtX6_at) (as := [.int a1, .int a2]) cs_RX6_63 ⟨Nat.le_of_ble_eq_true rfl, Nat.le_of_ble_eq_true rfl⟩ rfl rfl (Nat.le_of_ble_eq_true rfl) dX6_change_37 ?_
      refine ctX6_at a1 a2 ?_
      show Ev (wY, z) mtX6_change 3 66 40 [some (.ref 0), some (.int a1), some (.int a2), some (.int a3), some (.int v4)] [.int (fpX6_at a1 a2), .ref 1] M Q
      refine e_iload_n dX6_change_40 rfl ?_
      refine ok_inb h (fun k5 ek5 ik5 h => ?_)
      refine e_iastK ia_Y1 ik5 ek5 dX6_change_41 ?_
      refine lv1 (P := fun M6 => Ev (wY, z) mtX6_change 3 66 42 [some (.ref 0), some (.int a1), some (.int a2), some (.int a3), some (.int v4)] [] M6 Q) h (fun M6 h => ?_)
      refine e_iload dX6_change_42 rfl ?_
      have h := ok_some h
      exact e_iret rfl dX6_change_44 h
    · have h := ok_t c3 h
      refine e_aload_n dX6_change_16 rfl ?_
      refine e_ldc wk_RX6_55 dX6_change_17 ?_
      refine e_callV (f2 := 0) (l2 := 0) (ν := mtX6_finds) (as := [.int (-1000001 : Int32)]) cv_RX6_81 is_Y0 kc_7 ⟨Nat.le_of_ble_eq_true rfl, Nat.le_of_ble_eq_true rfl⟩ rfl rfl (Nat.le_of_ble_eq_true rfl) dX6_change_19 ?_
      refine ctX6_finds (-1000001 : Int32) (ok_bnd h (fun q7 h => ?_))
      show Ev (wY, z) mtX6_change 3 66 22 [some (.ref 0), some (.int a1), some (.int a2), some (.int a3), none] [.int q7.1] q7.2 Q
      have h := ok_some h
      exact e_iret rfl dX6_change_22 h
def fpX6_isRule (a1 : Int32) (a2 : Int32) (M : Me) : Int32 := (if a1 = (0 : Int32) then (if (fpX6_in (a2.toInt64) (1 : Int64) (999 : Int64)) = 0 then (0 : Int32) else (if a2 < (M.1 1 8) then (0 : Int32) else (1 : Int32))) else (if a1 = (1 : Int32) then (fpX6_in (a2.toInt64) (0 : Int64) (99 : Int64)) else (if a1 = (2 : Int32) then (fpX6_in (a2.toInt64) (0 : Int64) (9 : Int64)) else (if a1 = (3 : Int32) then (if (fpX6_in (a2.toInt64) (0 : Int64) (23 : Int64)) = 0 then (0 : Int32) else (1 : Int32)) else (0 : Int32)))))
theorem fpzX6_isRule (a1 : Int32) (a2 : Int32) (M : Me) : fpX6_isRule a1 a2 M = 0 ∨ fpX6_isRule a1 a2 M = 1 := by
  unfold fpX6_isRule
  (repeat' split) <;> first | exact Or.inl rfl | exact Or.inr rfl | apply fpzX6_in
set_option maxRecDepth 20000 in
theorem ctX6_isRule {z : Zt} {M : Me} {Q : Option Value → Me → Prop} (a1 : Int32) (a2 : Int32)  (h : Q (some (.int (fpX6_isRule a1 a2 M))) M) : EvM (wY, z) mtX6_isRule 1 25 [.ref 0, .int a1, .int a2] M Q := by
  refine evm_of [some (.ref 0), some (.int a1), some (.int a2)] 0 (by decide +kernel) (Nat.le_of_ble_eq_true rfl) rfl ?_
  refine e_iload_n dX6_isRule_0 rfl ?_
  by_cases c1 : a1 = (0 : Int32)
  · refine e_tswC (0 : Int32) 28 c1 dX6_isRule_1 (by decide) (by decide) rfl (by decide) ?_
    refine e_iload_n dX6_isRule_28 rfl ?_
    refine e_i2l dX6_isRule_29 ?_
    refine e_lconst (1 : Int64) dX6_isRule_30 (by decide) ?_
    refine e_ldc2 wk_RX6_107 dX6_isRule_31 ?_
    refine e_callS (f2 := 0) (l2 := 0) (ν := mtX6_in) (as := [.long (a2.toInt64), .long (1 : Int64), .long (999 : Int64)]) cs_RX6_58 ⟨Nat.le_of_ble_eq_true rfl, Nat.le_of_ble_eq_true rfl⟩ rfl rfl (Nat.le_of_ble_eq_true rfl) dX6_isRule_34 ?_
    refine ctX6_in (a2.toInt64) (1 : Int64) (999 : Int64) ?_
    show Ev (wY, z) mtX6_isRule 1 25 37 [some (.ref 0), some (.int a1), some (.int a2)] [.int (fpX6_in (a2.toInt64) (1 : Int64) (999 : Int64))] M Q
    refine e_if_eq 55 dX6_isRule_37 (by decide) (fun c2 => ?_) (fun c2 => ?_)
    · refine e_iconst (0 : Int32) dX6_isRule_55 (by decide) ?_
      have e0 : fpX6_isRule a1 a2 M = (0 : Int32) := by
        unfold fpX6_isRule
        rw [if_pos c1, if_pos c2]
      rw [e0] at h
      exact e_zret rfl (Or.inl rfl) dX6_isRule_56 h
    · refine e_iload_n dX6_isRule_40 rfl ?_
      refine e_aload_n dX6_isRule_41 rfl ?_
      refine e_getR fa_RX6_7 is_Y0 rfl dX6_isRule_42 ?_
      refine e_bipush (8 : Int32) dX6_isRule_45 (by decide) ?_
      refine e_ialdK ia_Y1 (by unfold vp_in; decide) (q := 8) (by decide) dX6_isRule_47 ?_
      refine e_icmp_lt 55 dX6_isRule_48 (by decide) (fun c3 => ?_) (fun c3 => ?_)
      · refine e_iconst (0 : Int32) dX6_isRule_55 (by decide) ?_
        have e0 : fpX6_isRule a1 a2 M = (0 : Int32) := by
          unfold fpX6_isRule
          rw [if_pos c1, if_neg c2, if_pos c3]
        rw [e0] at h
        exact e_zret rfl (Or.inl rfl) dX6_isRule_56 h
      · refine e_iconst (1 : Int32) dX6_isRule_51 (by decide) ?_
        refine e_goto 56 dX6_isRule_52 (by decide) ?_
        have e0 : fpX6_isRule a1 a2 M = (1 : Int32) := by
          unfold fpX6_isRule
          rw [if_pos c1, if_neg c2, if_neg c3]
        rw [e0] at h
        exact e_zret rfl (Or.inr rfl) dX6_isRule_56 h
  · skip
    by_cases c4 : a1 = (1 : Int32)
    · refine e_tswC (1 : Int32) 57 c4 dX6_isRule_1 (by decide) (by decide) rfl (by decide) ?_
      refine e_iload_n dX6_isRule_57 rfl ?_
      refine e_i2l dX6_isRule_58 ?_
      refine e_lconst (0 : Int64) dX6_isRule_59 (by decide) ?_
      refine e_ldc2 wk_RX6_56 dX6_isRule_60 ?_
      refine e_callS (f2 := 0) (l2 := 0) (ν := mtX6_in) (as := [.long (a2.toInt64), .long (0 : Int64), .long (99 : Int64)]) cs_RX6_58 ⟨Nat.le_of_ble_eq_true rfl, Nat.le_of_ble_eq_true rfl⟩ rfl rfl (Nat.le_of_ble_eq_true rfl) dX6_isRule_63 ?_
      refine ctX6_in (a2.toInt64) (0 : Int64) (99 : Int64) ?_
      show Ev (wY, z) mtX6_isRule 1 25 66 [some (.ref 0), some (.int a1), some (.int a2)] [.int (fpX6_in (a2.toInt64) (0 : Int64) (99 : Int64))] M Q
      have e0 : fpX6_isRule a1 a2 M = (fpX6_in (a2.toInt64) (0 : Int64) (99 : Int64)) := by
        unfold fpX6_isRule
        rw [if_neg c1, if_pos c4]
      rw [e0] at h
      exact e_zret rfl (fpzX6_in (a2.toInt64) (0 : Int64) (99 : Int64)) dX6_isRule_66 h
    · skip
      by_cases c5 : a1 = (2 : Int32)
      · refine e_tswC (2 : Int32) 67 c5 dX6_isRule_1 (by decide) (by decide) rfl (by decide) ?_
        refine e_iload_n dX6_isRule_67 rfl ?_
        refine e_i2l dX6_isRule_68 ?_
        refine e_lconst (0 : Int64) dX6_isRule_69 (by decide) ?_
        refine e_ldc2 wk_RX6_109 dX6_isRule_70 ?_
        refine e_callS (f2 := 0) (l2 := 0) (ν := mtX6_in) (as := [.long (a2.toInt64), .long (0 : Int64), .long (9 : Int64)]) cs_RX6_58 ⟨Nat.le_of_ble_eq_true rfl, Nat.le_of_ble_eq_true rfl⟩ rfl rfl (Nat.le_of_ble_eq_true rfl) dX6_isRule_73 ?_
        refine ctX6_in (a2.toInt64) (0 : Int64) (9 : Int64) ?_
        show Ev (wY, z) mtX6_isRule 1 25 76 [some (.ref 0), some (.int a1), some (.int a2)] [.int (fpX6_in (a2.toInt64) (0 : Int64) (9 : Int64))] M Q
        have e0 : fpX6_isRule a1 a2 M = (fpX6_in (a2.toInt64) (0 : Int64) (9 : Int64)) := by
          unfold fpX6_isRule
          rw [if_neg c1, if_neg c4, if_pos c5]
        rw [e0] at h
        exact e_zret rfl (fpzX6_in (a2.toInt64) (0 : Int64) (9 : Int64)) dX6_isRule_76 h
      · skip
        refine e_tswD 77 dX6_isRule_1 (by have q0 := lv_neT (a := 0) c1 rfl; have q1 := lv_neT (a := 1) c4 rfl; have q2 := lv_neT (a := 2) c5 rfl; omega) (by decide) ?_
        refine e_iload_n dX6_isRule_77 rfl ?_
        refine e_iconst (3 : Int32) dX6_isRule_78 (by decide) ?_
        refine e_icmp_ne 98 dX6_isRule_79 (by decide) (fun c6 => ?_) (fun c6 => ?_)
        · refine e_iconst (0 : Int32) dX6_isRule_98 (by decide) ?_
          have e0 : fpX6_isRule a1 a2 M = (0 : Int32) := by
            unfold fpX6_isRule
            rw [if_neg c1, if_neg c4, if_neg c5, if_neg c6]
          rw [e0] at h
          exact e_zret rfl (Or.inl rfl) dX6_isRule_99 h
        · refine e_iload_n dX6_isRule_82 rfl ?_
          refine e_i2l dX6_isRule_83 ?_
          refine e_lconst (0 : Int64) dX6_isRule_84 (by decide) ?_
          refine e_ldc2 wk_RX6_111 dX6_isRule_85 ?_
          refine e_callS (f2 := 0) (l2 := 0) (ν := mtX6_in) (as := [.long (a2.toInt64), .long (0 : Int64), .long (23 : Int64)]) cs_RX6_58 ⟨Nat.le_of_ble_eq_true rfl, Nat.le_of_ble_eq_true rfl⟩ rfl rfl (Nat.le_of_ble_eq_true rfl) dX6_isRule_88 ?_
          refine ctX6_in (a2.toInt64) (0 : Int64) (23 : Int64) ?_
          show Ev (wY, z) mtX6_isRule 1 25 91 [some (.ref 0), some (.int a1), some (.int a2)] [.int (fpX6_in (a2.toInt64) (0 : Int64) (23 : Int64))] M Q
          refine e_if_eq 98 dX6_isRule_91 (by decide) (fun c7 => ?_) (fun c7 => ?_)
          · refine e_iconst (0 : Int32) dX6_isRule_98 (by decide) ?_
            have e0 : fpX6_isRule a1 a2 M = (0 : Int32) := by
              unfold fpX6_isRule
              rw [if_neg c1, if_neg c4, if_neg c5, if_pos c6, if_pos c7]
            rw [e0] at h
            exact e_zret rfl (Or.inl rfl) dX6_isRule_99 h
          · refine e_iconst (1 : Int32) dX6_isRule_94 (by decide) ?_
            refine e_goto 99 dX6_isRule_95 (by decide) ?_
            have e0 : fpX6_isRule a1 a2 M = (1 : Int32) := by
              unfold fpX6_isRule
              rw [if_neg c1, if_neg c4, if_neg c5, if_pos c6, if_neg c7]
            rw [e0] at h
            exact e_zret rfl (Or.inr rfl) dX6_isRule_99 h
def fpX6_rule (a1 : Int32) (a2 : Int32) (M : Me) : Option (Int32 × Me) := (if (fpX6_isRule a1 a2 M) = 0 then
 (fpX6_finds (-1000001 : Int32) M).bind fun q5 =>
 some (q5.1, q5.2)
 else
 (inb ((2 : Int32) + a1) 70).bind fun k2 =>
 letv (M.1 1 k2) fun v3 =>
 letv (wrM M 1 k2 a2) fun M4 =>
 some (v3, M4))
set_option maxRecDepth 20000 in
theorem ctX6_rule {z : Zt} {M : Me} {Q : Option Value → Me → Prop} (a1 : Int32) (a2 : Int32)  (h : ok (fpX6_rule a1 a2 M) (fun a => Q (some (.int a.1)) a.2)) : EvM (wY, z) mtX6_rule 2 47 [.ref 0, .int a1, .int a2] M Q := by
  refine evm_of [some (.ref 0), some (.int a1), some (.int a2), none] 1 (by decide +kernel) (Nat.le_of_ble_eq_true rfl) rfl ?_
  unfold fpX6_rule at h
  refine e_aload_n dX6_rule_0 rfl ?_
  refine e_iload_n dX6_rule_1 rfl ?_
  refine e_iload_n dX6_rule_2 rfl ?_
  refine e_callV (f2 := 1) (l2 := 25) (ν := mtX6_isRule) (as := [.int a1, .int a2]) cv_RX6_113 is_Y0 kc_7 ⟨Nat.le_of_ble_eq_true rfl, Nat.le_of_ble_eq_true rfl⟩ rfl rfl (Nat.le_of_ble_eq_true rfl) dX6_rule_3 ?_
  refine ctX6_isRule a1 a2 ?_
  show Ev (wY, z) mtX6_rule 2 47 6 [some (.ref 0), some (.int a1), some (.int a2), none] [.int (fpX6_isRule a1 a2 M)] M Q
  refine e_if_ne 16 dX6_rule_6 (by decide) (fun c1 => ?_) (fun c1 => ?_)
  · have h := ok_f c1 h
    refine e_aload_n dX6_rule_16 rfl ?_
    refine e_getR fa_RX6_7 is_Y0 rfl dX6_rule_17 ?_
    refine e_iconst (2 : Int32) dX6_rule_20 (by decide) ?_
    refine e_iload_n dX6_rule_21 rfl ?_
    refine e_iadd dX6_rule_22 ?_
    refine ok_inb h (fun k2 ek2 ik2 h => ?_)
    refine e_ialdK ia_Y1 ik2 ek2 dX6_rule_23 ?_
    refine lv1 (P := fun v3 => Ev (wY, z) mtX6_rule 2 47 24 [some (.ref 0), some (.int a1), some (.int a2), none] [.int v3] M Q) h (fun v3 h => ?_)
    refine e_istore_n dX6_rule_24 (by decide) rfl ?_
    refine e_aload_n dX6_rule_25 rfl ?_
    refine e_getR fa_RX6_7 is_Y0 rfl dX6_rule_26 ?_
    refine e_iconst (2 : Int32) dX6_rule_29 (by decide) ?_
    refine e_iload_n dX6_rule_30 rfl ?_
    refine e_iadd dX6_rule_31 ?_
    refine e_iload_n dX6_rule_32 rfl ?_
    refine e_iastK ia_Y1 ik2 ek2 dX6_rule_33 ?_
    refine lv1 (P := fun M4 => Ev (wY, z) mtX6_rule 2 47 34 [some (.ref 0), some (.int a1), some (.int a2), some (.int v3)] [] M4 Q) h (fun M4 h => ?_)
    refine e_iload_n dX6_rule_34 rfl ?_
    have h := ok_some h
    exact e_iret rfl dX6_rule_35 h
  · have h := ok_t c1 h
    refine e_aload_n dX6_rule_9 rfl ?_
    refine e_ldc wk_RX6_55 dX6_rule_10 ?_
    refine e_callV (f2 := 0) (l2 := 0) (ν := mtX6_finds) (as := [.int (-1000001 : Int32)]) cv_RX6_81 is_Y0 kc_7 ⟨Nat.le_of_ble_eq_true rfl, Nat.le_of_ble_eq_true rfl⟩ rfl rfl (Nat.le_of_ble_eq_true rfl) dX6_rule_12 ?_
    refine ctX6_finds (-1000001 : Int32) (ok_bnd h (fun q5 h => ?_))
    show Ev (wY, z) mtX6_rule 2 47 15 [some (.ref 0), some (.int a1), some (.int a2), none] [.int q5.1] q5.2 Q
    have h := ok_some h
    exact e_iret rfl dX6_rule_15 h
def fpX6_water (a1 : Int32) (M : Me) : Option (Int32 × Me) := (if (fpX6_isWater a1 M) = 0 then
 (fpX6_finds (-1000001 : Int32) M).bind fun q4 =>
 some (q4.1, q4.2)
 else
 letv (M.1 1 8) fun v2 =>
 letv (wrM M 1 8 a1) fun M3 =>
 some (v2, M3))
set_option maxRecDepth 20000 in
theorem ctX6_water {z : Zt} {M : Me} {Q : Option Value → Me → Prop} (a1 : Int32)  (h : ok (fpX6_water a1 M) (fun a => Q (some (.int a.1)) a.2)) : EvM (wY, z) mtX6_water 2 46 [.ref 0, .int a1] M Q := by
  refine evm_of [some (.ref 0), some (.int a1), none] 1 (by decide +kernel) (Nat.le_of_ble_eq_true rfl) rfl ?_
  unfold fpX6_water at h
  refine e_aload_n dX6_water_0 rfl ?_
  refine e_iload_n dX6_water_1 rfl ?_
  refine e_callV (f2 := 1) (l2 := 25) (ν := mtX6_isWater) (as := [.int a1]) cv_RX6_116 is_Y0 kc_7 ⟨Nat.le_of_ble_eq_true rfl, Nat.le_of_ble_eq_true rfl⟩ rfl rfl (Nat.le_of_ble_eq_true rfl) dX6_water_2 ?_
  refine ctX6_isWater a1 ?_
  show Ev (wY, z) mtX6_water 2 46 5 [some (.ref 0), some (.int a1), none] [.int (fpX6_isWater a1 M)] M Q
  refine e_if_ne 15 dX6_water_5 (by decide) (fun c1 => ?_) (fun c1 => ?_)
  · have h := ok_f c1 h
    refine e_aload_n dX6_water_15 rfl ?_
    refine e_getR fa_RX6_7 is_Y0 rfl dX6_water_16 ?_
    refine e_bipush (8 : Int32) dX6_water_19 (by decide) ?_
    refine e_ialdK ia_Y1 (by unfold vp_in; decide) (q := 8) (by decide) dX6_water_21 ?_
    refine lv1 (P := fun v2 => Ev (wY, z) mtX6_water 2 46 22 [some (.ref 0), some (.int a1), none] [.int v2] M Q) h (fun v2 h => ?_)
    refine e_istore_n dX6_water_22 (by decide) rfl ?_
    refine e_aload_n dX6_water_23 rfl ?_
    refine e_getR fa_RX6_7 is_Y0 rfl dX6_water_24 ?_
    refine e_bipush (8 : Int32) dX6_water_27 (by decide) ?_
    refine e_iload_n dX6_water_29 rfl ?_
    refine e_iastK ia_Y1 (by unfold vp_in; decide) (q := 8) (by decide) dX6_water_30 ?_
    refine lv1 (P := fun M3 => Ev (wY, z) mtX6_water 2 46 31 [some (.ref 0), some (.int a1), some (.int v2)] [] M3 Q) h (fun M3 h => ?_)
    refine e_iload_n dX6_water_31 rfl ?_
    have h := ok_some h
    exact e_iret rfl dX6_water_32 h
  · have h := ok_t c1 h
    refine e_aload_n dX6_water_8 rfl ?_
    refine e_ldc wk_RX6_55 dX6_water_9 ?_
    refine e_callV (f2 := 0) (l2 := 0) (ν := mtX6_finds) (as := [.int (-1000001 : Int32)]) cv_RX6_81 is_Y0 kc_7 ⟨Nat.le_of_ble_eq_true rfl, Nat.le_of_ble_eq_true rfl⟩ rfl rfl (Nat.le_of_ble_eq_true rfl) dX6_water_11 ?_
    refine ctX6_finds (-1000001 : Int32) (ok_bnd h (fun q4 h => ?_))
    show Ev (wY, z) mtX6_water 2 46 14 [some (.ref 0), some (.int a1), none] [.int q4.1] q4.2 Q
    have h := ok_some h
    exact e_iret rfl dX6_water_14 h
def fpX6_now (a1 : Int32) (M : Me) : Option (Int32 × Me) := (if a1 = (0 : Int32) then
 some ((M.1 1 7), M)
 else
 (if a1 = (1 : Int32) then
 some ((M.1 1 8), M)
 else
 (if a1 = (2 : Int32) then
 some ((M.1 1 9), M)
 else
 (if a1 = (3 : Int32) then
 some ((M.1 1 5), M)
 else
 (if a1 = (4 : Int32) then
 some ((M.1 1 6), M)
 else
 (if a1 = (5 : Int32) then
 some ((M.1 1 10), M)
 else
 (if a1 = (6 : Int32) then
 some ((M.1 1 11), M)
 else
 (fpX6_finds (-1000001 : Int32) M).bind fun q8 =>
 some (q8.1, q8.2))))))))
set_option maxRecDepth 20000 in
theorem ctX6_now {z : Zt} {M : Me} {Q : Option Value → Me → Prop} (a1 : Int32)  (h : ok (fpX6_now a1 M) (fun a => Q (some (.int a.1)) a.2)) : EvM (wY, z) mtX6_now 1 21 [.ref 0, .int a1] M Q := by
  refine evm_of [some (.ref 0), some (.int a1)] 0 (by decide +kernel) (Nat.le_of_ble_eq_true rfl) rfl ?_
  unfold fpX6_now at h
  refine e_iload_n dX6_now_0 rfl ?_
  by_cases c1 : a1 = (0 : Int32)
  · refine e_tswC (0 : Int32) 44 c1 dX6_now_1 (by decide) (by decide) rfl (by decide) ?_
    have h := ok_t c1 h
    refine e_aload_n dX6_now_44 rfl ?_
    refine e_getR fa_RX6_7 is_Y0 rfl dX6_now_45 ?_
    refine e_bipush (7 : Int32) dX6_now_48 (by decide) ?_
    refine e_ialdK ia_Y1 (by unfold vp_in; decide) (q := 7) (by decide) dX6_now_50 ?_
    have h := ok_some h
    exact e_iret rfl dX6_now_51 h
  · have h := ok_f c1 h
    by_cases c2 : a1 = (1 : Int32)
    · refine e_tswC (1 : Int32) 52 c2 dX6_now_1 (by decide) (by decide) rfl (by decide) ?_
      have h := ok_t c2 h
      refine e_aload_n dX6_now_52 rfl ?_
      refine e_getR fa_RX6_7 is_Y0 rfl dX6_now_53 ?_
      refine e_bipush (8 : Int32) dX6_now_56 (by decide) ?_
      refine e_ialdK ia_Y1 (by unfold vp_in; decide) (q := 8) (by decide) dX6_now_58 ?_
      have h := ok_some h
      exact e_iret rfl dX6_now_59 h
    · have h := ok_f c2 h
      by_cases c3 : a1 = (2 : Int32)
      · refine e_tswC (2 : Int32) 60 c3 dX6_now_1 (by decide) (by decide) rfl (by decide) ?_
        have h := ok_t c3 h
        refine e_aload_n dX6_now_60 rfl ?_
        refine e_getR fa_RX6_7 is_Y0 rfl dX6_now_61 ?_
        refine e_bipush (9 : Int32) dX6_now_64 (by decide) ?_
        refine e_ialdK ia_Y1 (by unfold vp_in; decide) (q := 9) (by decide) dX6_now_66 ?_
        have h := ok_some h
        exact e_iret rfl dX6_now_67 h
      · have h := ok_f c3 h
        by_cases c4 : a1 = (3 : Int32)
        · refine e_tswC (3 : Int32) 68 c4 dX6_now_1 (by decide) (by decide) rfl (by decide) ?_
          have h := ok_t c4 h
          refine e_aload_n dX6_now_68 rfl ?_
          refine e_getR fa_RX6_7 is_Y0 rfl dX6_now_69 ?_
          refine e_iconst (5 : Int32) dX6_now_72 (by decide) ?_
          refine e_ialdK ia_Y1 (by unfold vp_in; decide) (q := 5) (by decide) dX6_now_73 ?_
          have h := ok_some h
          exact e_iret rfl dX6_now_74 h
        · have h := ok_f c4 h
          by_cases c5 : a1 = (4 : Int32)
          · refine e_tswC (4 : Int32) 75 c5 dX6_now_1 (by decide) (by decide) rfl (by decide) ?_
            have h := ok_t c5 h
            refine e_aload_n dX6_now_75 rfl ?_
            refine e_getR fa_RX6_7 is_Y0 rfl dX6_now_76 ?_
            refine e_bipush (6 : Int32) dX6_now_79 (by decide) ?_
            refine e_ialdK ia_Y1 (by unfold vp_in; decide) (q := 6) (by decide) dX6_now_81 ?_
            have h := ok_some h
            exact e_iret rfl dX6_now_82 h
          · have h := ok_f c5 h
            by_cases c6 : a1 = (5 : Int32)
            · refine e_tswC (5 : Int32) 83 c6 dX6_now_1 (by decide) (by decide) rfl (by decide) ?_
              have h := ok_t c6 h
              refine e_aload_n dX6_now_83 rfl ?_
              refine e_getR fa_RX6_7 is_Y0 rfl dX6_now_84 ?_
              refine e_bipush (10 : Int32) dX6_now_87 (by decide) ?_
              refine e_ialdK ia_Y1 (by unfold vp_in; decide) (q := 10) (by decide) dX6_now_89 ?_
              have h := ok_some h
              exact e_iret rfl dX6_now_90 h
            · have h := ok_f c6 h
              by_cases c7 : a1 = (6 : Int32)
              · refine e_tswC (6 : Int32) 91 c7 dX6_now_1 (by decide) (by decide) rfl (by decide) ?_
                have h := ok_t c7 h
                refine e_aload_n dX6_now_91 rfl ?_
                refine e_getR fa_RX6_7 is_Y0 rfl dX6_now_92 ?_
                refine e_bipush (11 : Int32) dX6_now_95 (by decide) ?_
                refine e_ialdK ia_Y1 (by unfold vp_in; decide) (q := 11) (by decide) dX6_now_97 ?_
                have h := ok_some h
                exact e_iret rfl dX6_now_98 h
              · have h := ok_f c7 h
                refine e_tswD 99 dX6_now_1 (by have q0 := lv_neT (a := 0) c1 rfl; have q1 := lv_neT (a := 1) c2 rfl; have q2 := lv_neT (a := 2) c3 rfl; have q3 := lv_neT (a := 3) c4 rfl; have q4 := lv_neT (a := 4) c5 rfl; have q5 := lv_neT (a := 5) c6 rfl; have q6 := lv_neT (a := 6) c7 rfl; omega) (by decide) ?_
                refine e_aload_n dX6_now_99 rfl ?_
                refine e_ldc wk_RX6_55 dX6_now_100 ?_
                refine e_callV (f2 := 0) (l2 := 0) (ν := mtX6_finds) (as := [.int (-1000001 : Int32)]) cv_RX6_81 is_Y0 kc_7 ⟨Nat.le_of_ble_eq_true rfl, Nat.le_of_ble_eq_true rfl⟩ rfl rfl (Nat.le_of_ble_eq_true rfl) dX6_now_102 ?_
                refine ctX6_finds (-1000001 : Int32) (ok_bnd h (fun q8 h => ?_))
                show Ev (wY, z) mtX6_now 1 21 105 [some (.ref 0), some (.int a1)] [.int q8.1] q8.2 Q
                have h := ok_some h
                exact e_iret rfl dX6_now_105 h
def fpX6_far (a0 : Int32) (a1 : Int32) : Int32 := (if a1 ≤ a0 then (a0 - a1) else (a1 - a0))
set_option maxRecDepth 20000 in
theorem ctX6_far {z : Zt} {M : Me} {Q : Option Value → Me → Prop} (a0 : Int32) (a1 : Int32)  (h : Q (some (.int (fpX6_far a0 a1))) M) : EvM (wY, z) mtX6_far 0 0 [.int a0, .int a1] M Q := by
  refine evm_of [some (.int a0), some (.int a1)] 0 (by decide +kernel) (Nat.le_of_ble_eq_true rfl) rfl ?_
  refine e_iload_n dX6_far_0 rfl ?_
  refine e_iload_n dX6_far_1 rfl ?_
  refine e_icmp_ge 11 dX6_far_2 (by decide) (fun c1 => ?_) (fun c1 => ?_)
  · refine e_iload_n dX6_far_11 rfl ?_
    refine e_iload_n dX6_far_12 rfl ?_
    refine e_isub dX6_far_13 ?_
    have e0 : fpX6_far a0 a1 = (a0 - a1) := by
      unfold fpX6_far
      rw [if_pos c1]
    rw [e0] at h
    exact e_iret rfl dX6_far_14 h
  · refine e_iload_n dX6_far_5 rfl ?_
    refine e_iload_n dX6_far_6 rfl ?_
    refine e_isub dX6_far_7 ?_
    refine e_goto 14 dX6_far_8 (by decide) ?_
    have e0 : fpX6_far a0 a1 = (a1 - a0) := by
      unfold fpX6_far
      rw [if_neg c1]
    rw [e0] at h
    exact e_iret rfl dX6_far_14 h
def fpX6_left (a1 : Int32) (a2 : Int32) (a3 : Int32) (M : Me) : Option (Int32) := (if (M.1 1 3) = 0 then
 some a1
 else
 dvz (M.1 1 3) <|
 some (fpX6_least0 (a1 - ((fpX6_far a2 a3) / (M.1 1 3)))))
set_option maxRecDepth 20000 in
theorem ctX6_left {z : Zt} {M : Me} {Q : Option Value → Me → Prop} (a1 : Int32) (a2 : Int32) (a3 : Int32)  (h : ok (fpX6_left a1 a2 a3 M) (fun a => Q (some (.int a)) M)) : EvM (wY, z) mtX6_left 1 21 [.ref 0, .int a1, .int a2, .int a3] M Q := by
  refine evm_of [some (.ref 0), some (.int a1), some (.int a2), some (.int a3)] 0 (by decide +kernel) (Nat.le_of_ble_eq_true rfl) rfl ?_
  unfold fpX6_left at h
  refine e_aload_n dX6_left_0 rfl ?_
  refine e_getR fa_RX6_7 is_Y0 rfl dX6_left_1 ?_
  refine e_iconst (3 : Int32) dX6_left_4 (by decide) ?_
  refine e_ialdK ia_Y1 (by unfold vp_in; decide) (q := 3) (by decide) dX6_left_5 ?_
  refine e_if_ne 13 dX6_left_6 (by decide) (fun c2 => ?_) (fun c2 => ?_)
  · have h := ok_f c2 h
    refine e_iload_n dX6_left_13 rfl ?_
    refine e_iload_n dX6_left_14 rfl ?_
    refine e_iload_n dX6_left_15 rfl ?_
    refine e_callS (f2 := 0) (l2 := 0) (ν := mtX6_far) (as := [.int a2, .int a3]) cs_RX6_119 ⟨Nat.le_of_ble_eq_true rfl, Nat.le_of_ble_eq_true rfl⟩ rfl rfl (Nat.le_of_ble_eq_true rfl) dX6_left_16 ?_
    refine ctX6_far a2 a3 ?_
    show Ev (wY, z) mtX6_left 1 21 19 [some (.ref 0), some (.int a1), some (.int a2), some (.int a3)] [.int (fpX6_far a2 a3), .int a1] M Q
    refine e_aload_n dX6_left_19 rfl ?_
    refine e_getR fa_RX6_7 is_Y0 rfl dX6_left_20 ?_
    refine e_iconst (3 : Int32) dX6_left_23 (by decide) ?_
    refine e_ialdK ia_Y1 (by unfold vp_in; decide) (q := 3) (by decide) dX6_left_24 ?_
    obtain ⟨z3, h⟩ := ok_dvz h
    refine e_idiv dX6_left_25 z3 ?_
    refine e_isub dX6_left_26 ?_
    refine e_callS (f2 := 0) (l2 := 0) (ν := mtX6_least0) (as := [.int (a1 - ((fpX6_far a2 a3) / (M.1 1 3)))]) cs_RX6_93 ⟨Nat.le_of_ble_eq_true rfl, Nat.le_of_ble_eq_true rfl⟩ rfl rfl (Nat.le_of_ble_eq_true rfl) dX6_left_27 ?_
    refine ctX6_least0 (a1 - ((fpX6_far a2 a3) / (M.1 1 3))) ?_
    show Ev (wY, z) mtX6_left 1 21 30 [some (.ref 0), some (.int a1), some (.int a2), some (.int a3)] [.int (fpX6_least0 (a1 - ((fpX6_far a2 a3) / (M.1 1 3))))] M Q
    have h := ok_some h
    exact e_iret rfl dX6_left_30 h
  · have h := ok_t c2 h
    refine e_iload_n dX6_left_9 rfl ?_
    refine e_goto 30 dX6_left_10 (by decide) ?_
    have h := ok_some h
    exact e_iret rfl dX6_left_30 h
def XX6_dawns_13 (z : Zt) (Q : Option Value → Me → Prop) : (Me) → Prop := fun t => Ev (wY, z) mtX6_dawns 1 21 40 [none, none] [] t Q
def EX6_dawns_13 (z : Zt) (Q : Option Value → Me → Prop) : (Int32 × Me) → Prop := fun s => Ev (wY, z) mtX6_dawns 1 21 13 [some (.ref 0), some (.int s.1)] [] s.2 Q
def GX6_dawns_13 (z : Zt) (Q : Option Value → Me → Prop) : (Int32 × Me) ⊕ (Me) → Prop := Sum.elim (EX6_dawns_13 z Q) (XX6_dawns_13 z Q)
def fpX6_dawns_l13s (a1 : Int32) (M : Me) : Option ((Int32 × Me) ⊕ (Me)) := (if (M.1 1 0) ≤ a1 then
 some (.inr M)
 else
 (inb (fpX6_at a1 (5 : Int32)) 70).bind fun k3 =>
 letv (wrM M 1 k3 (0 : Int32)) fun M4 =>
 letv (a1 + (1 : Int32)) fun v5 =>
 some (.inl (v5, M4)))
def fpX6_dawns_l13 (s : Int32 × Me) : Option ((Int32 × Me) ⊕ (Me)) := fpX6_dawns_l13s s.1 s.2
set_option maxRecDepth 20000 in
theorem ebX6_dawns_l13s {z : Zt} {Q : Option Value → Me → Prop} (a1 : Int32) (M : Me) (h : ok (fpX6_dawns_l13s a1 M) (GX6_dawns_13 z Q)) : Ev (wY, z) mtX6_dawns 1 21 13 [some (.ref 0), some (.int a1)] [] M Q := by
  unfold fpX6_dawns_l13s at h
  refine e_iload_n dX6_dawns_13 rfl ?_
  refine e_aload_n dX6_dawns_14 rfl ?_
  refine e_getR fa_RX6_7 is_Y0 rfl dX6_dawns_15 ?_
  refine e_iconst (0 : Int32) dX6_dawns_18 (by decide) ?_
  refine e_ialdK ia_Y1 (by unfold vp_in; decide) (q := 0) (by decide) dX6_dawns_19 ?_
  refine e_icmp_ge 40 dX6_dawns_20 (by decide) (fun c2 => ?_) (fun c2 => ?_)
  · have h := ok_t c2 h
    refine e_forget [none, none] (leL_n (leL_n leL_0)) ?_
    have h := ok_some h
    exact h
  · have h := ok_f c2 h
    refine e_aload_n dX6_dawns_23 rfl ?_
    refine e_getR fa_RX6_7 is_Y0 rfl dX6_dawns_24 ?_
    refine e_iload_n dX6_dawns_27 rfl ?_
    refine e_iconst (5 : Int32) dX6_dawns_28 (by decide) ?_
    refine e_callS (f2 := 0) (l2 := 0) (ν := mtX6_at) (as := [.int a1, .int (5 : Int32)]) cs_RX6_63 ⟨Nat.le_of_ble_eq_true rfl, Nat.le_of_ble_eq_true rfl⟩ rfl rfl (Nat.le_of_ble_eq_true rfl) dX6_dawns_29 ?_
    refine ctX6_at a1 (5 : Int32) ?_
    show Ev (wY, z) mtX6_dawns 1 21 32 [some (.ref 0), some (.int a1)] [.int (fpX6_at a1 (5 : Int32)), .ref 1] M Q
    refine e_iconst (0 : Int32) dX6_dawns_32 (by decide) ?_
    refine ok_inb h (fun k3 ek3 ik3 h => ?_)
    refine e_iastK ia_Y1 ik3 ek3 dX6_dawns_33 ?_
    refine lv1 (P := fun M4 => Ev (wY, z) mtX6_dawns 1 21 34 [some (.ref 0), some (.int a1)] [] M4 Q) h (fun M4 h => ?_)
    refine lv1e h (fun v5 ev5 h => ?_)
    refine e_iinc v5 dX6_dawns_34 rfl ev5 (by decide) rfl ?_
    refine e_goto 13 dX6_dawns_37 (by decide) ?_
    refine e_forget [some (.ref 0), some (.int v5)] (leL_s (leL_s leL_0)) ?_
    have h := ok_some h
    exact h
theorem elX6_dawns_l13 {z : Zt} {Q : Option Value → Me → Prop} (N : Nat) (s : Int32 × Me) (h : ok (lp (fpX6_dawns_l13) N s) (XX6_dawns_13 z Q)) : EX6_dawns_13 z Q s :=
  lp_ind (fun s h => ebX6_dawns_l13s s.1 s.2 h) N s h
def fpX6_dawns  (M : Me) : Option (Me) := letv (wrM M 1 6 ((M.1 1 6) + (1 : Int32))) fun M1 =>
 (lp (fpX6_dawns_l13) FU ((0 : Int32), M1)).bind fun r6 =>
 some r6
set_option maxRecDepth 20000 in
theorem ctX6_dawns {z : Zt} {M : Me} {Q : Option Value → Me → Prop}   (h : ok (fpX6_dawns M) (fun a => Q none a)) : EvM (wY, z) mtX6_dawns 1 21 [.ref 0] M Q := by
  refine evm_of [some (.ref 0), none] 1 (by decide +kernel) (Nat.le_of_ble_eq_true rfl) rfl ?_
  unfold fpX6_dawns at h
  refine e_aload_n dX6_dawns_0 rfl ?_
  refine e_getR fa_RX6_7 is_Y0 rfl dX6_dawns_1 ?_
  refine e_bipush (6 : Int32) dX6_dawns_4 (by decide) ?_
  refine e_dup2 dX6_dawns_6 rfl rfl ?_
  refine e_ialdK ia_Y1 (by unfold vp_in; decide) (q := 6) (by decide) dX6_dawns_7 ?_
  refine e_iconst (1 : Int32) dX6_dawns_8 (by decide) ?_
  refine e_iadd dX6_dawns_9 ?_
  refine e_iastK ia_Y1 (by unfold vp_in; decide) (q := 6) (by decide) dX6_dawns_10 ?_
  refine lv1 (P := fun M1 => Ev (wY, z) mtX6_dawns 1 21 11 [some (.ref 0), none] [] M1 Q) h (fun M1 h => ?_)
  refine e_iconst (0 : Int32) dX6_dawns_11 (by decide) ?_
  refine e_istore_n dX6_dawns_12 (by decide) rfl ?_
  refine e_forget [some (.ref 0), some (.int (0 : Int32))] (leL_s (leL_s leL_0)) ?_
  refine elX6_dawns_l13 FU ((0 : Int32), M1) (ok_bnd h (fun r6 h => ?_))
  show Ev (wY, z) mtX6_dawns 1 21 40 [none, none] [] r6 Q
  have h := ok_some h
  exact e_vret rfl dX6_dawns_40 h
def fpX6_go_b62 (a1 : Int32) (a2 : Int32) (M : Me) : Option (Int32 × Me) := (fpX6_left (M.1 1 8) (M.1 1 7) a1 M).bind fun v4 =>
 letv (wrM M 1 10 ((M.1 1 10) + ((M.1 1 8) - v4))) fun M5 =>
 letv (wrM M5 1 8 v4) fun M6 =>
 letv (wrM M6 1 7 a1) fun M7 =>
 letv (wrM M7 1 5 (jrem a2 (24 : Int32))) fun M8 =>
 (if a2 ≤ (23 : Int32) then
 some (v4, M8)
 else
 (fpX6_dawns M8).bind fun q10 =>
 some (v4, q10))
set_option maxRecDepth 20000 in
theorem ebX6_go_b62 {z : Zt} {Q : Option Value → Me → Prop} (a1 : Int32) (a2 : Int32) (M : Me) (h : ok (fpX6_go_b62 a1 a2 M) (fun a => Q (some (.int a.1)) a.2)) : Ev (wY, z) mtX6_go 2 45 62 [some (.ref 0), some (.int a1), some (.int a2), none] [] M Q := by
  unfold fpX6_go_b62 at h
  refine e_aload_n dX6_go_62 rfl ?_
  refine e_aload_n dX6_go_63 rfl ?_
  refine e_getR fa_RX6_7 is_Y0 rfl dX6_go_64 ?_
  refine e_bipush (8 : Int32) dX6_go_67 (by decide) ?_
  refine e_ialdK ia_Y1 (by unfold vp_in; decide) (q := 8) (by decide) dX6_go_69 ?_
  refine e_aload_n dX6_go_70 rfl ?_
  refine e_getR fa_RX6_7 is_Y0 rfl dX6_go_71 ?_
  refine e_bipush (7 : Int32) dX6_go_74 (by decide) ?_
  refine e_ialdK ia_Y1 (by unfold vp_in; decide) (q := 7) (by decide) dX6_go_76 ?_
  refine e_iload_n dX6_go_77 rfl ?_
  refine e_callV (f2 := 1) (l2 := 21) (ν := mtX6_left) (as := [.int (M.1 1 8), .int (M.1 1 7), .int a1]) cv_RX6_123 is_Y0 kc_7 ⟨Nat.le_of_ble_eq_true rfl, Nat.le_of_ble_eq_true rfl⟩ rfl rfl (Nat.le_of_ble_eq_true rfl) dX6_go_78 ?_
  refine ctX6_left (M.1 1 8) (M.1 1 7) a1 (ok_bnd h (fun v4 h => ?_))
  show Ev (wY, z) mtX6_go 2 45 81 [some (.ref 0), some (.int a1), some (.int a2), none] [.int v4] M Q
  refine e_istore_n dX6_go_81 (by decide) rfl ?_
  refine e_aload_n dX6_go_82 rfl ?_
  refine e_getR fa_RX6_7 is_Y0 rfl dX6_go_83 ?_
  refine e_bipush (10 : Int32) dX6_go_86 (by decide) ?_
  refine e_dup2 dX6_go_88 rfl rfl ?_
  refine e_ialdK ia_Y1 (by unfold vp_in; decide) (q := 10) (by decide) dX6_go_89 ?_
  refine e_aload_n dX6_go_90 rfl ?_
  refine e_getR fa_RX6_7 is_Y0 rfl dX6_go_91 ?_
  refine e_bipush (8 : Int32) dX6_go_94 (by decide) ?_
  refine e_ialdK ia_Y1 (by unfold vp_in; decide) (q := 8) (by decide) dX6_go_96 ?_
  refine e_iload_n dX6_go_97 rfl ?_
  refine e_isub dX6_go_98 ?_
  refine e_iadd dX6_go_99 ?_
  refine e_iastK ia_Y1 (by unfold vp_in; decide) (q := 10) (by decide) dX6_go_100 ?_
  refine lv1 (P := fun M5 => Ev (wY, z) mtX6_go 2 45 101 [some (.ref 0), some (.int a1), some (.int a2), some (.int v4)] [] M5 Q) h (fun M5 h => ?_)
  refine e_aload_n dX6_go_101 rfl ?_
  refine e_getR fa_RX6_7 is_Y0 rfl dX6_go_102 ?_
  refine e_bipush (8 : Int32) dX6_go_105 (by decide) ?_
  refine e_iload_n dX6_go_107 rfl ?_
  refine e_iastK ia_Y1 (by unfold vp_in; decide) (q := 8) (by decide) dX6_go_108 ?_
  refine lv1 (P := fun M6 => Ev (wY, z) mtX6_go 2 45 109 [some (.ref 0), some (.int a1), some (.int a2), some (.int v4)] [] M6 Q) h (fun M6 h => ?_)
  refine e_aload_n dX6_go_109 rfl ?_
  refine e_getR fa_RX6_7 is_Y0 rfl dX6_go_110 ?_
  refine e_bipush (7 : Int32) dX6_go_113 (by decide) ?_
  refine e_iload_n dX6_go_115 rfl ?_
  refine e_iastK ia_Y1 (by unfold vp_in; decide) (q := 7) (by decide) dX6_go_116 ?_
  refine lv1 (P := fun M7 => Ev (wY, z) mtX6_go 2 45 117 [some (.ref 0), some (.int a1), some (.int a2), some (.int v4)] [] M7 Q) h (fun M7 h => ?_)
  refine e_aload_n dX6_go_117 rfl ?_
  refine e_getR fa_RX6_7 is_Y0 rfl dX6_go_118 ?_
  refine e_iconst (5 : Int32) dX6_go_121 (by decide) ?_
  refine e_iload_n dX6_go_122 rfl ?_
  refine e_bipush (24 : Int32) dX6_go_123 (by decide) ?_
  refine e_irem dX6_go_125 (by decide) ?_
  refine e_iastK ia_Y1 (by unfold vp_in; decide) (q := 5) (by decide) dX6_go_126 ?_
  refine lv1 (P := fun M8 => Ev (wY, z) mtX6_go 2 45 127 [some (.ref 0), some (.int a1), some (.int a2), some (.int v4)] [] M8 Q) h (fun M8 h => ?_)
  refine e_iload_n dX6_go_127 rfl ?_
  refine e_bipush (23 : Int32) dX6_go_128 (by decide) ?_
  refine e_icmp_le 137 dX6_go_130 (by decide) (fun c9 => ?_) (fun c9 => ?_)
  · have h := ok_t c9 h
    refine e_iload_n dX6_go_137 rfl ?_
    have h := ok_some h
    exact e_iret rfl dX6_go_138 h
  · have h := ok_f c9 h
    refine e_aload_n dX6_go_133 rfl ?_
    refine e_callV (f2 := 1) (l2 := 21) (ν := mtX6_dawns) (as := []) cv_RX6_127 is_Y0 kc_7 ⟨Nat.le_of_ble_eq_true rfl, Nat.le_of_ble_eq_true rfl⟩ rfl rfl (Nat.le_of_ble_eq_true rfl) dX6_go_134 ?_
    refine ctX6_dawns (ok_bnd h (fun q10 h => ?_))
    show Ev (wY, z) mtX6_go 2 45 137 [some (.ref 0), some (.int a1), some (.int a2), some (.int v4)] [] q10 Q
    refine e_iload_n dX6_go_137 rfl ?_
    have h := ok_some h
    exact e_iret rfl dX6_go_138 h
def fpX6_go (a1 : Int32) (M : Me) : Option (Int32 × Me) := (if (fpX6_isMile a1) = 0 then
 (fpX6_finds (-1000001 : Int32) M).bind fun q13 =>
 some (q13.1, q13.2)
 else
 letv ((M.1 1 5) + ((fpX6_far (M.1 1 7) a1) / (10 : Int32))) fun v2 =>
 (if v2 ≤ (23 : Int32) then
 fpX6_go_b62 a1 v2 M
 else
 (if (M.1 1 6) = (999 : Int32) then
 (fpX6_finds (-1000005 : Int32) M).bind fun q12 =>
 some (q12.1, q12.2)
 else
 fpX6_go_b62 a1 v2 M)))
set_option maxRecDepth 20000 in
theorem ctX6_go {z : Zt} {M : Me} {Q : Option Value → Me → Prop} (a1 : Int32)  (h : ok (fpX6_go a1 M) (fun a => Q (some (.int a.1)) a.2)) : EvM (wY, z) mtX6_go 2 45 [.ref 0, .int a1] M Q := by
  refine evm_of [some (.ref 0), some (.int a1), none, none] 2 (by decide +kernel) (Nat.le_of_ble_eq_true rfl) rfl ?_
  unfold fpX6_go at h
  refine e_iload_n dX6_go_0 rfl ?_
  refine e_callS (f2 := 1) (l2 := 25) (ν := mtX6_isMile) (as := [.int a1]) cs_RX6_69 ⟨Nat.le_of_ble_eq_true rfl, Nat.le_of_ble_eq_true rfl⟩ rfl rfl (Nat.le_of_ble_eq_true rfl) dX6_go_1 ?_
  refine ctX6_isMile a1 ?_
  show Ev (wY, z) mtX6_go 2 45 4 [some (.ref 0), some (.int a1), none, none] [.int (fpX6_isMile a1)] M Q
  refine e_if_ne 14 dX6_go_4 (by decide) (fun c1 => ?_) (fun c1 => ?_)
  · have h := ok_f c1 h
    refine e_aload_n dX6_go_14 rfl ?_
    refine e_getR fa_RX6_7 is_Y0 rfl dX6_go_15 ?_
    refine e_iconst (5 : Int32) dX6_go_18 (by decide) ?_
    refine e_ialdK ia_Y1 (by unfold vp_in; decide) (q := 5) (by decide) dX6_go_19 ?_
    refine e_aload_n dX6_go_20 rfl ?_
    refine e_getR fa_RX6_7 is_Y0 rfl dX6_go_21 ?_
    refine e_bipush (7 : Int32) dX6_go_24 (by decide) ?_
    refine e_ialdK ia_Y1 (by unfold vp_in; decide) (q := 7) (by decide) dX6_go_26 ?_
    refine e_iload_n dX6_go_27 rfl ?_
    refine e_callS (f2 := 0) (l2 := 0) (ν := mtX6_far) (as := [.int (M.1 1 7), .int a1]) cs_RX6_119 ⟨Nat.le_of_ble_eq_true rfl, Nat.le_of_ble_eq_true rfl⟩ rfl rfl (Nat.le_of_ble_eq_true rfl) dX6_go_28 ?_
    refine ctX6_far (M.1 1 7) a1 ?_
    show Ev (wY, z) mtX6_go 2 45 31 [some (.ref 0), some (.int a1), none, none] [.int (fpX6_far (M.1 1 7) a1), .int (M.1 1 5)] M Q
    refine e_bipush (10 : Int32) dX6_go_31 (by decide) ?_
    refine e_idiv dX6_go_33 (by decide) ?_
    refine e_iadd dX6_go_34 ?_
    refine lv1 (P := fun v2 => Ev (wY, z) mtX6_go 2 45 35 [some (.ref 0), some (.int a1), none, none] [.int v2] M Q) h (fun v2 h => ?_)
    refine e_istore_n dX6_go_35 (by decide) rfl ?_
    refine e_iload_n dX6_go_36 rfl ?_
    refine e_bipush (23 : Int32) dX6_go_37 (by decide) ?_
    refine e_icmp_le 62 dX6_go_39 (by decide) (fun c3 => ?_) (fun c3 => ?_)
    · have h := ok_t c3 h
      refine e_forget [some (.ref 0), some (.int a1), some (.int v2), none] (leL_s (leL_s (leL_s (leL_n leL_0)))) ?_
      exact ebX6_go_b62 a1 v2 M h
    · have h := ok_f c3 h
      refine e_aload_n dX6_go_42 rfl ?_
      refine e_getR fa_RX6_7 is_Y0 rfl dX6_go_43 ?_
      refine e_bipush (6 : Int32) dX6_go_46 (by decide) ?_
      refine e_ialdK ia_Y1 (by unfold vp_in; decide) (q := 6) (by decide) dX6_go_48 ?_
      refine e_sipush (999 : Int32) dX6_go_49 (by decide) ?_
      refine e_icmp_ne 62 dX6_go_52 (by decide) (fun c11 => ?_) (fun c11 => ?_)
      · have h := ok_f c11 h
        refine e_forget [some (.ref 0), some (.int a1), some (.int v2), none] (leL_s (leL_s (leL_s (leL_n leL_0)))) ?_
        exact ebX6_go_b62 a1 v2 M h
      · have h := ok_t c11 h
        refine e_aload_n dX6_go_55 rfl ?_
        refine e_ldc wk_RX6_122 dX6_go_56 ?_
        refine e_callV (f2 := 0) (l2 := 0) (ν := mtX6_finds) (as := [.int (-1000005 : Int32)]) cv_RX6_81 is_Y0 kc_7 ⟨Nat.le_of_ble_eq_true rfl, Nat.le_of_ble_eq_true rfl⟩ rfl rfl (Nat.le_of_ble_eq_true rfl) dX6_go_58 ?_
        refine ctX6_finds (-1000005 : Int32) (ok_bnd h (fun q12 h => ?_))
        show Ev (wY, z) mtX6_go 2 45 61 [some (.ref 0), some (.int a1), some (.int v2), none] [.int q12.1] q12.2 Q
        have h := ok_some h
        exact e_iret rfl dX6_go_61 h
  · have h := ok_t c1 h
    refine e_aload_n dX6_go_7 rfl ?_
    refine e_ldc wk_RX6_55 dX6_go_8 ?_
    refine e_callV (f2 := 0) (l2 := 0) (ν := mtX6_finds) (as := [.int (-1000001 : Int32)]) cv_RX6_81 is_Y0 kc_7 ⟨Nat.le_of_ble_eq_true rfl, Nat.le_of_ble_eq_true rfl⟩ rfl rfl (Nat.le_of_ble_eq_true rfl) dX6_go_10 ?_
    refine ctX6_finds (-1000001 : Int32) (ok_bnd h (fun q13 h => ?_))
    show Ev (wY, z) mtX6_go 2 45 13 [some (.ref 0), some (.int a1), none, none] [.int q13.1] q13.2 Q
    have h := ok_some h
    exact e_iret rfl dX6_go_13 h
def fpX6_isReady (a1 : Int32) (M : Me) : Option (Int32) := (fpX6_its a1 (5 : Int32) M).bind fun v1 =>
 (if v1 = 0 then
 (fpX6_yieldOf a1 M).bind fun v3 =>
 (if v3 ≤ 0 then
 some (0 : Int32)
 else
 (fpX6_needOf a1 M).bind fun v5 =>
 (if (M.1 1 8) < v5 then
 some (0 : Int32)
 else
 some (1 : Int32)))
 else
 some (0 : Int32))
set_option maxRecDepth 20000 in
theorem ctX6_isReady {z : Zt} {M : Me} {Q : Option Value → Me → Prop} (a1 : Int32)  (h : ok (fpX6_isReady a1 M) (fun a => Q (some (.int a)) M)) : EvM (wY, z) mtX6_isReady 4 89 [.ref 0, .int a1] M Q := by
  refine evm_of [some (.ref 0), some (.int a1)] 0 (by decide +kernel) (Nat.le_of_ble_eq_true rfl) rfl ?_
  unfold fpX6_isReady at h
  refine e_aload_n dX6_isReady_0 rfl ?_
  refine e_iload_n dX6_isReady_1 rfl ?_
  refine e_iconst (5 : Int32) dX6_isReady_2 (by decide) ?_
  refine e_callV (f2 := 1) (l2 := 21) (ν := mtX6_its) (as := [.int a1, .int (5 : Int32)]) cv_RX6_90 is_Y0 kc_7 ⟨Nat.le_of_ble_eq_true rfl, Nat.le_of_ble_eq_true rfl⟩ rfl rfl (Nat.le_of_ble_eq_true rfl) dX6_isReady_3 ?_
  refine ctX6_its a1 (5 : Int32) (ok_bnd h (fun v1 h => ?_))
  show Ev (wY, z) mtX6_isReady 4 89 6 [some (.ref 0), some (.int a1)] [.int v1] M Q
  refine e_if_ne 36 dX6_isReady_6 (by decide) (fun c2 => ?_) (fun c2 => ?_)
  · have h := ok_f c2 h
    refine e_iconst (0 : Int32) dX6_isReady_36 (by decide) ?_
    have h := ok_some h
    exact e_zret rfl (Or.inl rfl) dX6_isReady_37 h
  · have h := ok_t c2 h
    refine e_aload_n dX6_isReady_9 rfl ?_
    refine e_iload_n dX6_isReady_10 rfl ?_
    refine e_callV (f2 := 2) (l2 := 43) (ν := mtX6_yieldOf) (as := [.int a1]) cv_RX6_96 is_Y0 kc_7 ⟨Nat.le_of_ble_eq_true rfl, Nat.le_of_ble_eq_true rfl⟩ rfl rfl (Nat.le_of_ble_eq_true rfl) dX6_isReady_11 ?_
    refine ctX6_yieldOf a1 (ok_bnd h (fun v3 h => ?_))
    show Ev (wY, z) mtX6_isReady 4 89 14 [some (.ref 0), some (.int a1)] [.int v3] M Q
    refine e_if_le 36 dX6_isReady_14 (by decide) (fun c4 => ?_) (fun c4 => ?_)
    · have h := ok_t c4 h
      refine e_iconst (0 : Int32) dX6_isReady_36 (by decide) ?_
      have h := ok_some h
      exact e_zret rfl (Or.inl rfl) dX6_isReady_37 h
    · have h := ok_f c4 h
      refine e_aload_n dX6_isReady_17 rfl ?_
      refine e_getR fa_RX6_7 is_Y0 rfl dX6_isReady_18 ?_
      refine e_bipush (8 : Int32) dX6_isReady_21 (by decide) ?_
      refine e_ialdK ia_Y1 (by unfold vp_in; decide) (q := 8) (by decide) dX6_isReady_23 ?_
      refine e_aload_n dX6_isReady_24 rfl ?_
      refine e_iload_n dX6_isReady_25 rfl ?_
      refine e_callV (f2 := 3) (l2 := 66) (ν := mtX6_needOf) (as := [.int a1]) cv_RX6_104 is_Y0 kc_7 ⟨Nat.le_of_ble_eq_true rfl, Nat.le_of_ble_eq_true rfl⟩ rfl rfl (Nat.le_of_ble_eq_true rfl) dX6_isReady_26 ?_
      refine ctX6_needOf a1 (ok_bnd h (fun v5 h => ?_))
      show Ev (wY, z) mtX6_isReady 4 89 29 [some (.ref 0), some (.int a1)] [.int v5, .int (M.1 1 8)] M Q
      refine e_icmp_lt 36 dX6_isReady_29 (by decide) (fun c6 => ?_) (fun c6 => ?_)
      · have h := ok_t c6 h
        refine e_iconst (0 : Int32) dX6_isReady_36 (by decide) ?_
        have h := ok_some h
        exact e_zret rfl (Or.inl rfl) dX6_isReady_37 h
      · have h := ok_f c6 h
        refine e_iconst (1 : Int32) dX6_isReady_32 (by decide) ?_
        refine e_goto 37 dX6_isReady_33 (by decide) ?_
        have h := ok_some h
        exact e_zret rfl (Or.inr rfl) dX6_isReady_37 h
def fpX6_run_b191 (t1 : Int32) (t2 : Int32) (M : Me) : Option (Int32 × Me) := (inb t1 70).bind fun k23 =>
 letv (wrM M 1 k23 t2) fun M24 =>
 some ((M24.1 1 8), M24)
set_option maxRecDepth 20000 in
theorem ebX6_run_b191 {z : Zt} {Q : Option Value → Me → Prop} (t1 : Int32) (t2 : Int32) (M : Me) (h : ok (fpX6_run_b191 t1 t2 M) (fun a => Q (some (.int a.1)) a.2)) : Ev (wY, z) mtX6_run 5 110 191 [some (.ref 0), none, none, none, none] [.int t2, .int t1, .ref 1] M Q := by
  unfold fpX6_run_b191 at h
  refine ok_inb h (fun k23 ek23 ik23 h => ?_)
  refine e_iastK ia_Y1 ik23 ek23 dX6_run_191 ?_
  refine lv1 (P := fun M24 => Ev (wY, z) mtX6_run 5 110 192 [some (.ref 0), none, none, none, none] [] M24 Q) h (fun M24 h => ?_)
  refine e_aload_n dX6_run_192 rfl ?_
  refine e_getR fa_RX6_7 is_Y0 rfl dX6_run_193 ?_
  refine e_bipush (8 : Int32) dX6_run_196 (by decide) ?_
  refine e_ialdK ia_Y1 (by unfold vp_in; decide) (q := 8) (by decide) dX6_run_198 ?_
  have h := ok_some h
  exact e_iret rfl dX6_run_199 h
def fpX6_run_b171 (a1 : Int32) (a2 : Int32) (t1 : Int32) (t2 : Int32) (t3 : Int32) (M : Me) : Option (Int32 × Me) := (inb t1 70).bind fun k20 =>
 letv (wrM M 1 k20 (t2 + t3)) fun M21 =>
 (if a2 = 0 then
 fpX6_run_b191 (fpX6_at a1 (5 : Int32)) (1 : Int32) M21
 else
 fpX6_run_b191 (fpX6_at a1 (5 : Int32)) (0 : Int32) M21)
set_option maxRecDepth 20000 in
theorem ebX6_run_b171 {z : Zt} {Q : Option Value → Me → Prop} (a1 : Int32) (a2 : Int32) (t1 : Int32) (t2 : Int32) (t3 : Int32) (M : Me) (h : ok (fpX6_run_b171 a1 a2 t1 t2 t3 M) (fun a => Q (some (.int a.1)) a.2)) : Ev (wY, z) mtX6_run 5 110 171 [some (.ref 0), some (.int a1), some (.int a2), none, none] [.int t3, .int t2, .int t1, .ref 1] M Q := by
  unfold fpX6_run_b171 at h
  refine e_iadd dX6_run_171 ?_
  refine ok_inb h (fun k20 ek20 ik20 h => ?_)
  refine e_iastK ia_Y1 ik20 ek20 dX6_run_172 ?_
  refine lv1 (P := fun M21 => Ev (wY, z) mtX6_run 5 110 173 [some (.ref 0), some (.int a1), some (.int a2), none, none] [] M21 Q) h (fun M21 h => ?_)
  refine e_aload_n dX6_run_173 rfl ?_
  refine e_getR fa_RX6_7 is_Y0 rfl dX6_run_174 ?_
  refine e_iload_n dX6_run_177 rfl ?_
  refine e_iconst (5 : Int32) dX6_run_178 (by decide) ?_
  refine e_callS (f2 := 0) (l2 := 0) (ν := mtX6_at) (as := [.int a1, .int (5 : Int32)]) cs_RX6_63 ⟨Nat.le_of_ble_eq_true rfl, Nat.le_of_ble_eq_true rfl⟩ rfl rfl (Nat.le_of_ble_eq_true rfl) dX6_run_179 ?_
  refine ctX6_at a1 (5 : Int32) ?_
  show Ev (wY, z) mtX6_run 5 110 182 [some (.ref 0), some (.int a1), some (.int a2), none, none] [.int (fpX6_at a1 (5 : Int32)), .ref 1] M21 Q
  refine e_iload_n dX6_run_182 rfl ?_
  refine e_if_eq 190 dX6_run_183 (by decide) (fun c22 => ?_) (fun c22 => ?_)
  · have h := ok_t c22 h
    refine e_iconst (1 : Int32) dX6_run_190 (by decide) ?_
    refine e_forget [some (.ref 0), none, none, none, none] (leL_s (leL_n (leL_n (leL_n (leL_n leL_0))))) ?_
    exact ebX6_run_b191 (fpX6_at a1 (5 : Int32)) (1 : Int32) M21 h
  · have h := ok_f c22 h
    refine e_iconst (0 : Int32) dX6_run_186 (by decide) ?_
    refine e_goto 191 dX6_run_187 (by decide) ?_
    refine e_forget [some (.ref 0), none, none, none, none] (leL_s (leL_n (leL_n (leL_n (leL_n leL_0))))) ?_
    exact ebX6_run_b191 (fpX6_at a1 (5 : Int32)) (0 : Int32) M21 h
def fpX6_run_b113 (a1 : Int32) (a2 : Int32) (t0 : Int32) (t1 : Int32) (M : Me) : Option (Int32 × Me) := letv (t0 + t1) fun v13 =>
 letv (fpX6_least0 (v13 - (M.1 1 2))) fun v14 =>
 letv (wrM M 1 8 (v13 - v14)) fun M15 =>
 letv (wrM M15 1 11 ((M15.1 1 11) + v14)) fun M16 =>
 letv (fpX6_at a1 (4 : Int32)) fun v17 =>
 (inb v17 70).bind fun k18 =>
 (if a2 = 0 then
 fpX6_run_b171 a1 a2 v17 (M16.1 1 k18) (1 : Int32) M16
 else
 fpX6_run_b171 a1 a2 v17 (M16.1 1 k18) (0 : Int32) M16)
set_option maxRecDepth 20000 in
theorem ebX6_run_b113 {z : Zt} {Q : Option Value → Me → Prop} (a1 : Int32) (a2 : Int32) (t0 : Int32) (t1 : Int32) (M : Me) (h : ok (fpX6_run_b113 a1 a2 t0 t1 M) (fun a => Q (some (.int a.1)) a.2)) : Ev (wY, z) mtX6_run 5 110 113 [some (.ref 0), some (.int a1), some (.int a2), none, none] [.int t1, .int t0] M Q := by
  unfold fpX6_run_b113 at h
  refine e_iadd dX6_run_113 ?_
  refine lv1 (P := fun v13 => Ev (wY, z) mtX6_run 5 110 114 [some (.ref 0), some (.int a1), some (.int a2), none, none] [.int v13] M Q) h (fun v13 h => ?_)
  refine e_istore_n dX6_run_114 (by decide) rfl ?_
  refine e_iload_n dX6_run_115 rfl ?_
  refine e_aload_n dX6_run_116 rfl ?_
  refine e_getR fa_RX6_7 is_Y0 rfl dX6_run_117 ?_
  refine e_iconst (2 : Int32) dX6_run_120 (by decide) ?_
  refine e_ialdK ia_Y1 (by unfold vp_in; decide) (q := 2) (by decide) dX6_run_121 ?_
  refine e_isub dX6_run_122 ?_
  refine e_callS (f2 := 0) (l2 := 0) (ν := mtX6_least0) (as := [.int (v13 - (M.1 1 2))]) cs_RX6_93 ⟨Nat.le_of_ble_eq_true rfl, Nat.le_of_ble_eq_true rfl⟩ rfl rfl (Nat.le_of_ble_eq_true rfl) dX6_run_123 ?_
  refine ctX6_least0 (v13 - (M.1 1 2)) ?_
  show Ev (wY, z) mtX6_run 5 110 126 [some (.ref 0), some (.int a1), some (.int a2), some (.int v13), none] [.int (fpX6_least0 (v13 - (M.1 1 2)))] M Q
  refine lv1 (P := fun v14 => Ev (wY, z) mtX6_run 5 110 126 [some (.ref 0), some (.int a1), some (.int a2), some (.int v13), none] [.int v14] M Q) h (fun v14 h => ?_)
  refine e_istore dX6_run_126 (by decide) rfl ?_
  refine e_aload_n dX6_run_128 rfl ?_
  refine e_getR fa_RX6_7 is_Y0 rfl dX6_run_129 ?_
  refine e_bipush (8 : Int32) dX6_run_132 (by decide) ?_
  refine e_iload_n dX6_run_134 rfl ?_
  refine e_iload dX6_run_135 rfl ?_
  refine e_isub dX6_run_137 ?_
  refine e_iastK ia_Y1 (by unfold vp_in; decide) (q := 8) (by decide) dX6_run_138 ?_
  refine lv1 (P := fun M15 => Ev (wY, z) mtX6_run 5 110 139 [some (.ref 0), some (.int a1), some (.int a2), some (.int v13), some (.int v14)] [] M15 Q) h (fun M15 h => ?_)
  refine e_aload_n dX6_run_139 rfl ?_
  refine e_getR fa_RX6_7 is_Y0 rfl dX6_run_140 ?_
  refine e_bipush (11 : Int32) dX6_run_143 (by decide) ?_
  refine e_dup2 dX6_run_145 rfl rfl ?_
  refine e_ialdK ia_Y1 (by unfold vp_in; decide) (q := 11) (by decide) dX6_run_146 ?_
  refine e_iload dX6_run_147 rfl ?_
  refine e_iadd dX6_run_149 ?_
  refine e_iastK ia_Y1 (by unfold vp_in; decide) (q := 11) (by decide) dX6_run_150 ?_
  refine lv1 (P := fun M16 => Ev (wY, z) mtX6_run 5 110 151 [some (.ref 0), some (.int a1), some (.int a2), some (.int v13), some (.int v14)] [] M16 Q) h (fun M16 h => ?_)
  refine e_aload_n dX6_run_151 rfl ?_
  refine e_getR fa_RX6_7 is_Y0 rfl dX6_run_152 ?_
  refine e_iload_n dX6_run_155 rfl ?_
  refine e_iconst (4 : Int32) dX6_run_156 (by decide) ?_
  refine e_callS (f2 := 0) (l2 := 0) (ν := mtX6_at) (as := [.int a1, .int (4 : Int32)]) cs_RX6_63 ⟨Nat.le_of_ble_eq_true rfl, Nat.le_of_ble_eq_true rfl⟩ rfl rfl (Nat.le_of_ble_eq_true rfl) dX6_run_157 ?_
  refine ctX6_at a1 (4 : Int32) ?_
  show Ev (wY, z) mtX6_run 5 110 160 [some (.ref 0), some (.int a1), some (.int a2), some (.int v13), some (.int v14)] [.int (fpX6_at a1 (4 : Int32)), .ref 1] M16 Q
  refine lv1 (P := fun v17 => Ev (wY, z) mtX6_run 5 110 160 [some (.ref 0), some (.int a1), some (.int a2), some (.int v13), some (.int v14)] [.int v17, .ref 1] M16 Q) h (fun v17 h => ?_)
  refine e_dup2 dX6_run_160 rfl rfl ?_
  refine ok_inb h (fun k18 ek18 ik18 h => ?_)
  refine e_ialdK ia_Y1 ik18 ek18 dX6_run_161 ?_
  refine e_iload_n dX6_run_162 rfl ?_
  refine e_if_eq 170 dX6_run_163 (by decide) (fun c19 => ?_) (fun c19 => ?_)
  · have h := ok_t c19 h
    refine e_iconst (1 : Int32) dX6_run_170 (by decide) ?_
    refine e_forget [some (.ref 0), some (.int a1), some (.int a2), none, none] (leL_s (leL_s (leL_s (leL_n (leL_n leL_0))))) ?_
    exact ebX6_run_b171 a1 a2 v17 (M16.1 1 k18) (1 : Int32) M16 h
  · have h := ok_f c19 h
    refine e_iconst (0 : Int32) dX6_run_166 (by decide) ?_
    refine e_goto 171 dX6_run_167 (by decide) ?_
    refine e_forget [some (.ref 0), some (.int a1), some (.int a2), none, none] (leL_s (leL_s (leL_s (leL_n (leL_n leL_0))))) ?_
    exact ebX6_run_b171 a1 a2 v17 (M16.1 1 k18) (0 : Int32) M16 h
def fpX6_run_b87 (a1 : Int32) (a2 : Int32) (M : Me) : Option (Int32 × Me) := (fpX6_needOf a1 M).bind fun v10 =>
 (if a2 = 0 then
 (fpX6_yieldOf a1 M).bind fun v12 =>
 fpX6_run_b113 a1 a2 ((M.1 1 8) - v10) v12 M
 else
 fpX6_run_b113 a1 a2 ((M.1 1 8) - v10) (0 : Int32) M)
set_option maxRecDepth 20000 in
theorem ebX6_run_b87 {z : Zt} {Q : Option Value → Me → Prop} (a1 : Int32) (a2 : Int32) (M : Me) (h : ok (fpX6_run_b87 a1 a2 M) (fun a => Q (some (.int a.1)) a.2)) : Ev (wY, z) mtX6_run 5 110 87 [some (.ref 0), some (.int a1), some (.int a2), none, none] [] M Q := by
  unfold fpX6_run_b87 at h
  refine e_aload_n dX6_run_87 rfl ?_
  refine e_getR fa_RX6_7 is_Y0 rfl dX6_run_88 ?_
  refine e_bipush (8 : Int32) dX6_run_91 (by decide) ?_
  refine e_ialdK ia_Y1 (by unfold vp_in; decide) (q := 8) (by decide) dX6_run_93 ?_
  refine e_aload_n dX6_run_94 rfl ?_
  refine e_iload_n dX6_run_95 rfl ?_
  refine e_callV (f2 := 3) (l2 := 66) (ν := mtX6_needOf) (as := [.int a1]) cv_RX6_104 is_Y0 kc_7 ⟨Nat.le_of_ble_eq_true rfl, Nat.le_of_ble_eq_true rfl⟩ rfl rfl (Nat.le_of_ble_eq_true rfl) dX6_run_96 ?_
  refine ctX6_needOf a1 (ok_bnd h (fun v10 h => ?_))
  show Ev (wY, z) mtX6_run 5 110 99 [some (.ref 0), some (.int a1), some (.int a2), none, none] [.int v10, .int (M.1 1 8)] M Q
  refine e_isub dX6_run_99 ?_
  refine e_iload_n dX6_run_100 rfl ?_
  refine e_if_eq 108 dX6_run_101 (by decide) (fun c11 => ?_) (fun c11 => ?_)
  · have h := ok_t c11 h
    refine e_aload_n dX6_run_108 rfl ?_
    refine e_iload_n dX6_run_109 rfl ?_
    refine e_callV (f2 := 2) (l2 := 43) (ν := mtX6_yieldOf) (as := [.int a1]) cv_RX6_96 is_Y0 kc_7 ⟨Nat.le_of_ble_eq_true rfl, Nat.le_of_ble_eq_true rfl⟩ rfl rfl (Nat.le_of_ble_eq_true rfl) dX6_run_110 ?_
    refine ctX6_yieldOf a1 (ok_bnd h (fun v12 h => ?_))
    show Ev (wY, z) mtX6_run 5 110 113 [some (.ref 0), some (.int a1), some (.int a2), none, none] [.int v12, .int ((M.1 1 8) - v10)] M Q
    refine e_forget [some (.ref 0), some (.int a1), some (.int a2), none, none] (leL_s (leL_s (leL_s (leL_n (leL_n leL_0))))) ?_
    exact ebX6_run_b113 a1 a2 ((M.1 1 8) - v10) v12 M h
  · have h := ok_f c11 h
    refine e_iconst (0 : Int32) dX6_run_104 (by decide) ?_
    refine e_goto 113 dX6_run_105 (by decide) ?_
    refine e_forget [some (.ref 0), some (.int a1), some (.int a2), none, none] (leL_s (leL_s (leL_s (leL_n (leL_n leL_0))))) ?_
    exact ebX6_run_b113 a1 a2 ((M.1 1 8) - v10) (0 : Int32) M h
def fpX6_run_b86 (a1 : Int32) (t0 : Int32) (M : Me) : Option (Int32 × Me) := fpX6_run_b87 a1 t0 M
set_option maxRecDepth 20000 in
theorem ebX6_run_b86 {z : Zt} {Q : Option Value → Me → Prop} (a1 : Int32) (t0 : Int32) (M : Me) (h : ok (fpX6_run_b86 a1 t0 M) (fun a => Q (some (.int a.1)) a.2)) : Ev (wY, z) mtX6_run 5 110 86 [some (.ref 0), some (.int a1), none, none, none] [.int t0] M Q := by
  unfold fpX6_run_b86 at h
  refine e_istore_n dX6_run_86 (by decide) rfl ?_
  refine e_forget [some (.ref 0), some (.int a1), some (.int t0), none, none] (leL_s (leL_s (leL_s (leL_n (leL_n leL_0))))) ?_
  exact ebX6_run_b87 a1 t0 M h
def fpX6_run_b60 (a1 : Int32) (t0 : Int32) (M : Me) : Option (Int32 × Me) := (if t0 = 0 then
 fpX6_run_b87 a1 t0 M
 else
 (fpX6_draw M).bind fun q25 =>
 (fpX6_its a1 (3 : Int32) q25.2).bind fun v26 =>
 (if v26 ≤ (jrem q25.1 (12 : Int32)) then
 fpX6_run_b86 a1 (0 : Int32) q25.2
 else
 fpX6_run_b86 a1 (1 : Int32) q25.2))
set_option maxRecDepth 20000 in
theorem ebX6_run_b60 {z : Zt} {Q : Option Value → Me → Prop} (a1 : Int32) (t0 : Int32) (M : Me) (h : ok (fpX6_run_b60 a1 t0 M) (fun a => Q (some (.int a.1)) a.2)) : Ev (wY, z) mtX6_run 5 110 60 [some (.ref 0), some (.int a1), none, none, none] [.int t0] M Q := by
  unfold fpX6_run_b60 at h
  refine e_istore_n dX6_run_60 (by decide) rfl ?_
  refine e_iload_n dX6_run_61 rfl ?_
  refine e_if_eq 87 dX6_run_62 (by decide) (fun c9 => ?_) (fun c9 => ?_)
  · have h := ok_t c9 h
    refine e_forget [some (.ref 0), some (.int a1), some (.int t0), none, none] (leL_s (leL_s (leL_s (leL_n (leL_n leL_0))))) ?_
    exact ebX6_run_b87 a1 t0 M h
  · have h := ok_f c9 h
    refine e_aload_n dX6_run_65 rfl ?_
    refine e_callV (f2 := 0) (l2 := 0) (ν := mtX6_draw) (as := []) cv_RX6_133 is_Y0 kc_7 ⟨Nat.le_of_ble_eq_true rfl, Nat.le_of_ble_eq_true rfl⟩ rfl rfl (Nat.le_of_ble_eq_true rfl) dX6_run_66 ?_
    refine ctX6_draw (ok_bnd h (fun q25 h => ?_))
    show Ev (wY, z) mtX6_run 5 110 69 [some (.ref 0), some (.int a1), some (.int t0), none, none] [.int q25.1] q25.2 Q
    refine e_bipush (12 : Int32) dX6_run_69 (by decide) ?_
    refine e_irem dX6_run_71 (by decide) ?_
    refine e_aload_n dX6_run_72 rfl ?_
    refine e_iload_n dX6_run_73 rfl ?_
    refine e_iconst (3 : Int32) dX6_run_74 (by decide) ?_
    refine e_callV (f2 := 1) (l2 := 21) (ν := mtX6_its) (as := [.int a1, .int (3 : Int32)]) cv_RX6_90 is_Y0 kc_7 ⟨Nat.le_of_ble_eq_true rfl, Nat.le_of_ble_eq_true rfl⟩ rfl rfl (Nat.le_of_ble_eq_true rfl) dX6_run_75 ?_
    refine ctX6_its a1 (3 : Int32) (ok_bnd h (fun v26 h => ?_))
    show Ev (wY, z) mtX6_run 5 110 78 [some (.ref 0), some (.int a1), some (.int t0), none, none] [.int v26, .int (jrem q25.1 (12 : Int32))] q25.2 Q
    refine e_icmp_ge 85 dX6_run_78 (by decide) (fun c27 => ?_) (fun c27 => ?_)
    · have h := ok_t c27 h
      refine e_iconst (0 : Int32) dX6_run_85 (by decide) ?_
      refine e_forget [some (.ref 0), some (.int a1), none, none, none] (leL_s (leL_s (leL_n (leL_n (leL_n leL_0))))) ?_
      exact ebX6_run_b86 a1 (0 : Int32) q25.2 h
    · have h := ok_f c27 h
      refine e_iconst (1 : Int32) dX6_run_81 (by decide) ?_
      refine e_goto 86 dX6_run_82 (by decide) ?_
      refine e_forget [some (.ref 0), some (.int a1), none, none, none] (leL_s (leL_s (leL_n (leL_n (leL_n leL_0))))) ?_
      exact ebX6_run_b86 a1 (1 : Int32) q25.2 h
def fpX6_run (a1 : Int32) (M : Me) : Option (Int32 × Me) := (if (fpX6_isPump a1 M) = 0 then
 (fpX6_finds (-1000001 : Int32) M).bind fun q29 =>
 some (q29.1, q29.2)
 else
 (fpX6_its a1 (1 : Int32) M).bind fun v2 =>
 (if v2 = (M.1 1 7) then
 (fpX6_isReady a1 M).bind fun v5 =>
 (if v5 = 0 then
 (fpX6_finds (-1000005 : Int32) M).bind fun q28 =>
 some (q28.1, q28.2)
 else
 (fpX6_its a1 (3 : Int32) M).bind fun v7 =>
 (if v7 ≤ 0 then
 fpX6_run_b60 a1 (0 : Int32) M
 else
 fpX6_run_b60 a1 (1 : Int32) M))
 else
 (fpX6_finds (-1000005 : Int32) M).bind fun q4 =>
 some (q4.1, q4.2)))
set_option maxRecDepth 20000 in
theorem ctX6_run {z : Zt} {M : Me} {Q : Option Value → Me → Prop} (a1 : Int32)  (h : ok (fpX6_run a1 M) (fun a => Q (some (.int a.1)) a.2)) : EvM (wY, z) mtX6_run 5 110 [.ref 0, .int a1] M Q := by
  refine evm_of [some (.ref 0), some (.int a1), none, none, none] 3 (by decide +kernel) (Nat.le_of_ble_eq_true rfl) rfl ?_
  unfold fpX6_run at h
  refine e_aload_n dX6_run_0 rfl ?_
  refine e_iload_n dX6_run_1 rfl ?_
  refine e_callV (f2 := 1) (l2 := 25) (ν := mtX6_isPump) (as := [.int a1]) cv_RX6_99 is_Y0 kc_7 ⟨Nat.le_of_ble_eq_true rfl, Nat.le_of_ble_eq_true rfl⟩ rfl rfl (Nat.le_of_ble_eq_true rfl) dX6_run_2 ?_
  refine ctX6_isPump a1 ?_
  show Ev (wY, z) mtX6_run 5 110 5 [some (.ref 0), some (.int a1), none, none, none] [.int (fpX6_isPump a1 M)] M Q
  refine e_if_ne 15 dX6_run_5 (by decide) (fun c1 => ?_) (fun c1 => ?_)
  · have h := ok_f c1 h
    refine e_aload_n dX6_run_15 rfl ?_
    refine e_iload_n dX6_run_16 rfl ?_
    refine e_iconst (1 : Int32) dX6_run_17 (by decide) ?_
    refine e_callV (f2 := 1) (l2 := 21) (ν := mtX6_its) (as := [.int a1, .int (1 : Int32)]) cv_RX6_90 is_Y0 kc_7 ⟨Nat.le_of_ble_eq_true rfl, Nat.le_of_ble_eq_true rfl⟩ rfl rfl (Nat.le_of_ble_eq_true rfl) dX6_run_18 ?_
    refine ctX6_its a1 (1 : Int32) (ok_bnd h (fun v2 h => ?_))
    show Ev (wY, z) mtX6_run 5 110 21 [some (.ref 0), some (.int a1), none, none, none] [.int v2] M Q
    refine e_aload_n dX6_run_21 rfl ?_
    refine e_getR fa_RX6_7 is_Y0 rfl dX6_run_22 ?_
    refine e_bipush (7 : Int32) dX6_run_25 (by decide) ?_
    refine e_ialdK ia_Y1 (by unfold vp_in; decide) (q := 7) (by decide) dX6_run_27 ?_
    refine e_icmp_ne 39 dX6_run_28 (by decide) (fun c3 => ?_) (fun c3 => ?_)
    · have h := ok_f c3 h
      refine e_aload_n dX6_run_39 rfl ?_
      refine e_ldc wk_RX6_122 dX6_run_40 ?_
      refine e_callV (f2 := 0) (l2 := 0) (ν := mtX6_finds) (as := [.int (-1000005 : Int32)]) cv_RX6_81 is_Y0 kc_7 ⟨Nat.le_of_ble_eq_true rfl, Nat.le_of_ble_eq_true rfl⟩ rfl rfl (Nat.le_of_ble_eq_true rfl) dX6_run_42 ?_
      refine ctX6_finds (-1000005 : Int32) (ok_bnd h (fun q4 h => ?_))
      show Ev (wY, z) mtX6_run 5 110 45 [some (.ref 0), some (.int a1), none, none, none] [.int q4.1] q4.2 Q
      have h := ok_some h
      exact e_iret rfl dX6_run_45 h
    · have h := ok_t c3 h
      refine e_aload_n dX6_run_31 rfl ?_
      refine e_iload_n dX6_run_32 rfl ?_
      refine e_callV (f2 := 4) (l2 := 89) (ν := mtX6_isReady) (as := [.int a1]) cv_RX6_130 is_Y0 kc_7 ⟨Nat.le_of_ble_eq_true rfl, Nat.le_of_ble_eq_true rfl⟩ rfl rfl (Nat.le_of_ble_eq_true rfl) dX6_run_33 ?_
      refine ctX6_isReady a1 (ok_bnd h (fun v5 h => ?_))
      show Ev (wY, z) mtX6_run 5 110 36 [some (.ref 0), some (.int a1), none, none, none] [.int v5] M Q
      refine e_if_ne 46 dX6_run_36 (by decide) (fun c6 => ?_) (fun c6 => ?_)
      · have h := ok_f c6 h
        refine e_aload_n dX6_run_46 rfl ?_
        refine e_iload_n dX6_run_47 rfl ?_
        refine e_iconst (3 : Int32) dX6_run_48 (by decide) ?_
        refine e_callV (f2 := 1) (l2 := 21) (ν := mtX6_its) (as := [.int a1, .int (3 : Int32)]) cv_RX6_90 is_Y0 kc_7 ⟨Nat.le_of_ble_eq_true rfl, Nat.le_of_ble_eq_true rfl⟩ rfl rfl (Nat.le_of_ble_eq_true rfl) dX6_run_49 ?_
        refine ctX6_its a1 (3 : Int32) (ok_bnd h (fun v7 h => ?_))
        show Ev (wY, z) mtX6_run 5 110 52 [some (.ref 0), some (.int a1), none, none, none] [.int v7] M Q
        refine e_if_le 59 dX6_run_52 (by decide) (fun c8 => ?_) (fun c8 => ?_)
        · have h := ok_t c8 h
          refine e_iconst (0 : Int32) dX6_run_59 (by decide) ?_
          refine e_forget [some (.ref 0), some (.int a1), none, none, none] (leL_s (leL_s (leL_n (leL_n (leL_n leL_0))))) ?_
          exact ebX6_run_b60 a1 (0 : Int32) M h
        · have h := ok_f c8 h
          refine e_iconst (1 : Int32) dX6_run_55 (by decide) ?_
          refine e_goto 60 dX6_run_56 (by decide) ?_
          refine e_forget [some (.ref 0), some (.int a1), none, none, none] (leL_s (leL_s (leL_n (leL_n (leL_n leL_0))))) ?_
          exact ebX6_run_b60 a1 (1 : Int32) M h
      · have h := ok_t c6 h
        refine e_aload_n dX6_run_39 rfl ?_
        refine e_ldc wk_RX6_122 dX6_run_40 ?_
        refine e_callV (f2 := 0) (l2 := 0) (ν := mtX6_finds) (as := [.int (-1000005 : Int32)]) cv_RX6_81 is_Y0 kc_7 ⟨Nat.le_of_ble_eq_true rfl, Nat.le_of_ble_eq_true rfl⟩ rfl rfl (Nat.le_of_ble_eq_true rfl) dX6_run_42 ?_
        refine ctX6_finds (-1000005 : Int32) (ok_bnd h (fun q28 h => ?_))
        show Ev (wY, z) mtX6_run 5 110 45 [some (.ref 0), some (.int a1), none, none, none] [.int q28.1] q28.2 Q
        have h := ok_some h
        exact e_iret rfl dX6_run_45 h
  · have h := ok_t c1 h
    refine e_aload_n dX6_run_8 rfl ?_
    refine e_ldc wk_RX6_55 dX6_run_9 ?_
    refine e_callV (f2 := 0) (l2 := 0) (ν := mtX6_finds) (as := [.int (-1000001 : Int32)]) cv_RX6_81 is_Y0 kc_7 ⟨Nat.le_of_ble_eq_true rfl, Nat.le_of_ble_eq_true rfl⟩ rfl rfl (Nat.le_of_ble_eq_true rfl) dX6_run_11 ?_
    refine ctX6_finds (-1000001 : Int32) (ok_bnd h (fun q29 h => ?_))
    show Ev (wY, z) mtX6_run 5 110 14 [some (.ref 0), some (.int a1), none, none, none] [.int q29.1] q29.2 Q
    have h := ok_some h
    exact e_iret rfl dX6_run_14 h
def fpX6_can (a1 : Int32) (M : Me) : Option (Int32 × Me) := (if (fpX6_isPump a1 M) = 0 then
 (fpX6_finds (-1000001 : Int32) M).bind fun q2 =>
 some (q2.1, q2.2)
 else
 (fpX6_isReady a1 M).bind fun v3 =>
 (if v3 = 0 then
 some ((0 : Int32), M)
 else
 some ((1 : Int32), M)))
set_option maxRecDepth 20000 in
theorem ctX6_can {z : Zt} {M : Me} {Q : Option Value → Me → Prop} (a1 : Int32)  (h : ok (fpX6_can a1 M) (fun a => Q (some (.int a.1)) a.2)) : EvM (wY, z) mtX6_can 5 110 [.ref 0, .int a1] M Q := by
  refine evm_of [some (.ref 0), some (.int a1)] 0 (by decide +kernel) (Nat.le_of_ble_eq_true rfl) rfl ?_
  unfold fpX6_can at h
  refine e_aload_n dX6_can_0 rfl ?_
  refine e_iload_n dX6_can_1 rfl ?_
  refine e_callV (f2 := 1) (l2 := 25) (ν := mtX6_isPump) (as := [.int a1]) cv_RX6_99 is_Y0 kc_7 ⟨Nat.le_of_ble_eq_true rfl, Nat.le_of_ble_eq_true rfl⟩ rfl rfl (Nat.le_of_ble_eq_true rfl) dX6_can_2 ?_
  refine ctX6_isPump a1 ?_
  show Ev (wY, z) mtX6_can 5 110 5 [some (.ref 0), some (.int a1)] [.int (fpX6_isPump a1 M)] M Q
  refine e_if_eq 24 dX6_can_5 (by decide) (fun c1 => ?_) (fun c1 => ?_)
  · have h := ok_t c1 h
    refine e_aload_n dX6_can_24 rfl ?_
    refine e_ldc wk_RX6_55 dX6_can_25 ?_
    refine e_callV (f2 := 0) (l2 := 0) (ν := mtX6_finds) (as := [.int (-1000001 : Int32)]) cv_RX6_81 is_Y0 kc_7 ⟨Nat.le_of_ble_eq_true rfl, Nat.le_of_ble_eq_true rfl⟩ rfl rfl (Nat.le_of_ble_eq_true rfl) dX6_can_27 ?_
    refine ctX6_finds (-1000001 : Int32) (ok_bnd h (fun q2 h => ?_))
    show Ev (wY, z) mtX6_can 5 110 30 [some (.ref 0), some (.int a1)] [.int q2.1] q2.2 Q
    have h := ok_some h
    exact e_iret rfl dX6_can_30 h
  · have h := ok_f c1 h
    refine e_aload_n dX6_can_8 rfl ?_
    refine e_iload_n dX6_can_9 rfl ?_
    refine e_callV (f2 := 4) (l2 := 89) (ν := mtX6_isReady) (as := [.int a1]) cv_RX6_130 is_Y0 kc_7 ⟨Nat.le_of_ble_eq_true rfl, Nat.le_of_ble_eq_true rfl⟩ rfl rfl (Nat.le_of_ble_eq_true rfl) dX6_can_10 ?_
    refine ctX6_isReady a1 (ok_bnd h (fun v3 h => ?_))
    show Ev (wY, z) mtX6_can 5 110 13 [some (.ref 0), some (.int a1)] [.int v3] M Q
    refine e_if_eq 20 dX6_can_13 (by decide) (fun c4 => ?_) (fun c4 => ?_)
    · have h := ok_t c4 h
      refine e_iconst (0 : Int32) dX6_can_20 (by decide) ?_
      refine e_goto 30 dX6_can_21 (by decide) ?_
      have h := ok_some h
      exact e_iret rfl dX6_can_30 h
    · have h := ok_f c4 h
      refine e_iconst (1 : Int32) dX6_can_16 (by decide) ?_
      refine e_goto 30 dX6_can_17 (by decide) ?_
      have h := ok_some h
      exact e_iret rfl dX6_can_30 h
def fpX6_pour  (M : Me) : Option (Int32 × Me) := (if (M.1 1 7) = 0 then
 letv (M.1 1 8) fun v2 =>
 letv (wrM M 1 9 ((M.1 1 9) + v2)) fun M3 =>
 letv (wrM M3 1 8 (0 : Int32)) fun M4 =>
 some (v2, M4)
 else
 (fpX6_finds (-1000005 : Int32) M).bind fun q5 =>
 some (q5.1, q5.2))
set_option maxRecDepth 20000 in
theorem ctX6_pour {z : Zt} {M : Me} {Q : Option Value → Me → Prop}   (h : ok (fpX6_pour M) (fun a => Q (some (.int a.1)) a.2)) : EvM (wY, z) mtX6_pour 1 21 [.ref 0] M Q := by
  refine evm_of [some (.ref 0), none] 1 (by decide +kernel) (Nat.le_of_ble_eq_true rfl) rfl ?_
  unfold fpX6_pour at h
  refine e_aload_n dX6_pour_0 rfl ?_
  refine e_getR fa_RX6_7 is_Y0 rfl dX6_pour_1 ?_
  refine e_bipush (7 : Int32) dX6_pour_4 (by decide) ?_
  refine e_ialdK ia_Y1 (by unfold vp_in; decide) (q := 7) (by decide) dX6_pour_6 ?_
  refine e_if_eq 17 dX6_pour_7 (by decide) (fun c1 => ?_) (fun c1 => ?_)
  · have h := ok_t c1 h
    refine e_aload_n dX6_pour_17 rfl ?_
    refine e_getR fa_RX6_7 is_Y0 rfl dX6_pour_18 ?_
    refine e_bipush (8 : Int32) dX6_pour_21 (by decide) ?_
    refine e_ialdK ia_Y1 (by unfold vp_in; decide) (q := 8) (by decide) dX6_pour_23 ?_
    refine lv1 (P := fun v2 => Ev (wY, z) mtX6_pour 1 21 24 [some (.ref 0), none] [.int v2] M Q) h (fun v2 h => ?_)
    refine e_istore_n dX6_pour_24 (by decide) rfl ?_
    refine e_aload_n dX6_pour_25 rfl ?_
    refine e_getR fa_RX6_7 is_Y0 rfl dX6_pour_26 ?_
    refine e_bipush (9 : Int32) dX6_pour_29 (by decide) ?_
    refine e_dup2 dX6_pour_31 rfl rfl ?_
    refine e_ialdK ia_Y1 (by unfold vp_in; decide) (q := 9) (by decide) dX6_pour_32 ?_
    refine e_iload_n dX6_pour_33 rfl ?_
    refine e_iadd dX6_pour_34 ?_
    refine e_iastK ia_Y1 (by unfold vp_in; decide) (q := 9) (by decide) dX6_pour_35 ?_
    refine lv1 (P := fun M3 => Ev (wY, z) mtX6_pour 1 21 36 [some (.ref 0), some (.int v2)] [] M3 Q) h (fun M3 h => ?_)
    refine e_aload_n dX6_pour_36 rfl ?_
    refine e_getR fa_RX6_7 is_Y0 rfl dX6_pour_37 ?_
    refine e_bipush (8 : Int32) dX6_pour_40 (by decide) ?_
    refine e_iconst (0 : Int32) dX6_pour_42 (by decide) ?_
    refine e_iastK ia_Y1 (by unfold vp_in; decide) (q := 8) (by decide) dX6_pour_43 ?_
    refine lv1 (P := fun M4 => Ev (wY, z) mtX6_pour 1 21 44 [some (.ref 0), some (.int v2)] [] M4 Q) h (fun M4 h => ?_)
    refine e_iload_n dX6_pour_44 rfl ?_
    have h := ok_some h
    exact e_iret rfl dX6_pour_45 h
  · have h := ok_f c1 h
    refine e_aload_n dX6_pour_10 rfl ?_
    refine e_ldc wk_RX6_122 dX6_pour_11 ?_
    refine e_callV (f2 := 0) (l2 := 0) (ν := mtX6_finds) (as := [.int (-1000005 : Int32)]) cv_RX6_81 is_Y0 kc_7 ⟨Nat.le_of_ble_eq_true rfl, Nat.le_of_ble_eq_true rfl⟩ rfl rfl (Nat.le_of_ble_eq_true rfl) dX6_pour_13 ?_
    refine ctX6_finds (-1000005 : Int32) (ok_bnd h (fun q5 h => ?_))
    show Ev (wY, z) mtX6_pour 1 21 16 [some (.ref 0), none] [.int q5.1] q5.2 Q
    have h := ok_some h
    exact e_iret rfl dX6_pour_16 h
def fpX6_fill (a1 : Int32) (M : Me) : Option (Int32 × Me) := (if (fpX6_in (a1.toInt64) (1 : Int64) (999 : Int64)) = 0 then
 (fpX6_finds (-1000001 : Int32) M).bind fun q10 =>
 some (q10.1, q10.2)
 else
 (if (M.1 1 7) = 0 then
 (if (M.1 1 9) < a1 then
 (fpX6_finds (-1000005 : Int32) M).bind fun q5 =>
 some (q5.1, q5.2)
 else
 (if ((M.1 1 8) + a1) ≤ (M.1 1 2) then
 letv (wrM M 1 9 ((M.1 1 9) - a1)) fun M7 =>
 letv (wrM M7 1 8 ((M7.1 1 8) + a1)) fun M8 =>
 some ((M8.1 1 8), M8)
 else
 (fpX6_finds (-1000005 : Int32) M).bind fun q9 =>
 some (q9.1, q9.2)))
 else
 (fpX6_finds (-1000005 : Int32) M).bind fun q3 =>
 some (q3.1, q3.2)))
set_option maxRecDepth 20000 in
theorem ctX6_fill {z : Zt} {M : Me} {Q : Option Value → Me → Prop} (a1 : Int32)  (h : ok (fpX6_fill a1 M) (fun a => Q (some (.int a.1)) a.2)) : EvM (wY, z) mtX6_fill 1 25 [.ref 0, .int a1] M Q := by
  refine evm_of [some (.ref 0), some (.int a1)] 0 (by decide +kernel) (Nat.le_of_ble_eq_true rfl) rfl ?_
  unfold fpX6_fill at h
  refine e_iload_n dX6_fill_0 rfl ?_
  refine e_i2l dX6_fill_1 ?_
  refine e_lconst (1 : Int64) dX6_fill_2 (by decide) ?_
  refine e_ldc2 wk_RX6_107 dX6_fill_3 ?_
  refine e_callS (f2 := 0) (l2 := 0) (ν := mtX6_in) (as := [.long (a1.toInt64), .long (1 : Int64), .long (999 : Int64)]) cs_RX6_58 ⟨Nat.le_of_ble_eq_true rfl, Nat.le_of_ble_eq_true rfl⟩ rfl rfl (Nat.le_of_ble_eq_true rfl) dX6_fill_6 ?_
  refine ctX6_in (a1.toInt64) (1 : Int64) (999 : Int64) ?_
  show Ev (wY, z) mtX6_fill 1 25 9 [some (.ref 0), some (.int a1)] [.int (fpX6_in (a1.toInt64) (1 : Int64) (999 : Int64))] M Q
  refine e_if_ne 19 dX6_fill_9 (by decide) (fun c1 => ?_) (fun c1 => ?_)
  · have h := ok_f c1 h
    refine e_aload_n dX6_fill_19 rfl ?_
    refine e_getR fa_RX6_7 is_Y0 rfl dX6_fill_20 ?_
    refine e_bipush (7 : Int32) dX6_fill_23 (by decide) ?_
    refine e_ialdK ia_Y1 (by unfold vp_in; decide) (q := 7) (by decide) dX6_fill_25 ?_
    refine e_if_ne 58 dX6_fill_26 (by decide) (fun c2 => ?_) (fun c2 => ?_)
    · have h := ok_f c2 h
      refine e_aload_n dX6_fill_58 rfl ?_
      refine e_ldc wk_RX6_122 dX6_fill_59 ?_
      refine e_callV (f2 := 0) (l2 := 0) (ν := mtX6_finds) (as := [.int (-1000005 : Int32)]) cv_RX6_81 is_Y0 kc_7 ⟨Nat.le_of_ble_eq_true rfl, Nat.le_of_ble_eq_true rfl⟩ rfl rfl (Nat.le_of_ble_eq_true rfl) dX6_fill_61 ?_
      refine ctX6_finds (-1000005 : Int32) (ok_bnd h (fun q3 h => ?_))
      show Ev (wY, z) mtX6_fill 1 25 64 [some (.ref 0), some (.int a1)] [.int q3.1] q3.2 Q
      have h := ok_some h
      exact e_iret rfl dX6_fill_64 h
    · have h := ok_t c2 h
      refine e_aload_n dX6_fill_29 rfl ?_
      refine e_getR fa_RX6_7 is_Y0 rfl dX6_fill_30 ?_
      refine e_bipush (9 : Int32) dX6_fill_33 (by decide) ?_
      refine e_ialdK ia_Y1 (by unfold vp_in; decide) (q := 9) (by decide) dX6_fill_35 ?_
      refine e_iload_n dX6_fill_36 rfl ?_
      refine e_icmp_lt 58 dX6_fill_37 (by decide) (fun c4 => ?_) (fun c4 => ?_)
      · have h := ok_t c4 h
        refine e_aload_n dX6_fill_58 rfl ?_
        refine e_ldc wk_RX6_122 dX6_fill_59 ?_
        refine e_callV (f2 := 0) (l2 := 0) (ν := mtX6_finds) (as := [.int (-1000005 : Int32)]) cv_RX6_81 is_Y0 kc_7 ⟨Nat.le_of_ble_eq_true rfl, Nat.le_of_ble_eq_true rfl⟩ rfl rfl (Nat.le_of_ble_eq_true rfl) dX6_fill_61 ?_
        refine ctX6_finds (-1000005 : Int32) (ok_bnd h (fun q5 h => ?_))
        show Ev (wY, z) mtX6_fill 1 25 64 [some (.ref 0), some (.int a1)] [.int q5.1] q5.2 Q
        have h := ok_some h
        exact e_iret rfl dX6_fill_64 h
      · have h := ok_f c4 h
        refine e_aload_n dX6_fill_40 rfl ?_
        refine e_getR fa_RX6_7 is_Y0 rfl dX6_fill_41 ?_
        refine e_bipush (8 : Int32) dX6_fill_44 (by decide) ?_
        refine e_ialdK ia_Y1 (by unfold vp_in; decide) (q := 8) (by decide) dX6_fill_46 ?_
        refine e_iload_n dX6_fill_47 rfl ?_
        refine e_iadd dX6_fill_48 ?_
        refine e_aload_n dX6_fill_49 rfl ?_
        refine e_getR fa_RX6_7 is_Y0 rfl dX6_fill_50 ?_
        refine e_iconst (2 : Int32) dX6_fill_53 (by decide) ?_
        refine e_ialdK ia_Y1 (by unfold vp_in; decide) (q := 2) (by decide) dX6_fill_54 ?_
        refine e_icmp_le 65 dX6_fill_55 (by decide) (fun c6 => ?_) (fun c6 => ?_)
        · have h := ok_t c6 h
          refine e_aload_n dX6_fill_65 rfl ?_
          refine e_getR fa_RX6_7 is_Y0 rfl dX6_fill_66 ?_
          refine e_bipush (9 : Int32) dX6_fill_69 (by decide) ?_
          refine e_dup2 dX6_fill_71 rfl rfl ?_
          refine e_ialdK ia_Y1 (by unfold vp_in; decide) (q := 9) (by decide) dX6_fill_72 ?_
          refine e_iload_n dX6_fill_73 rfl ?_
          refine e_isub dX6_fill_74 ?_
          refine e_iastK ia_Y1 (by unfold vp_in; decide) (q := 9) (by decide) dX6_fill_75 ?_
          refine lv1 (P := fun M7 => Ev (wY, z) mtX6_fill 1 25 76 [some (.ref 0), some (.int a1)] [] M7 Q) h (fun M7 h => ?_)
          refine e_aload_n dX6_fill_76 rfl ?_
          refine e_getR fa_RX6_7 is_Y0 rfl dX6_fill_77 ?_
          refine e_bipush (8 : Int32) dX6_fill_80 (by decide) ?_
          refine e_dup2 dX6_fill_82 rfl rfl ?_
          refine e_ialdK ia_Y1 (by unfold vp_in; decide) (q := 8) (by decide) dX6_fill_83 ?_
          refine e_iload_n dX6_fill_84 rfl ?_
          refine e_iadd dX6_fill_85 ?_
          refine e_iastK ia_Y1 (by unfold vp_in; decide) (q := 8) (by decide) dX6_fill_86 ?_
          refine lv1 (P := fun M8 => Ev (wY, z) mtX6_fill 1 25 87 [some (.ref 0), some (.int a1)] [] M8 Q) h (fun M8 h => ?_)
          refine e_aload_n dX6_fill_87 rfl ?_
          refine e_getR fa_RX6_7 is_Y0 rfl dX6_fill_88 ?_
          refine e_bipush (8 : Int32) dX6_fill_91 (by decide) ?_
          refine e_ialdK ia_Y1 (by unfold vp_in; decide) (q := 8) (by decide) dX6_fill_93 ?_
          have h := ok_some h
          exact e_iret rfl dX6_fill_94 h
        · have h := ok_f c6 h
          refine e_aload_n dX6_fill_58 rfl ?_
          refine e_ldc wk_RX6_122 dX6_fill_59 ?_
          refine e_callV (f2 := 0) (l2 := 0) (ν := mtX6_finds) (as := [.int (-1000005 : Int32)]) cv_RX6_81 is_Y0 kc_7 ⟨Nat.le_of_ble_eq_true rfl, Nat.le_of_ble_eq_true rfl⟩ rfl rfl (Nat.le_of_ble_eq_true rfl) dX6_fill_61 ?_
          refine ctX6_finds (-1000005 : Int32) (ok_bnd h (fun q9 h => ?_))
          show Ev (wY, z) mtX6_fill 1 25 64 [some (.ref 0), some (.int a1)] [.int q9.1] q9.2 Q
          have h := ok_some h
          exact e_iret rfl dX6_fill_64 h
  · have h := ok_t c1 h
    refine e_aload_n dX6_fill_12 rfl ?_
    refine e_ldc wk_RX6_55 dX6_fill_13 ?_
    refine e_callV (f2 := 0) (l2 := 0) (ν := mtX6_finds) (as := [.int (-1000001 : Int32)]) cv_RX6_81 is_Y0 kc_7 ⟨Nat.le_of_ble_eq_true rfl, Nat.le_of_ble_eq_true rfl⟩ rfl rfl (Nat.le_of_ble_eq_true rfl) dX6_fill_15 ?_
    refine ctX6_finds (-1000001 : Int32) (ok_bnd h (fun q10 h => ?_))
    show Ev (wY, z) mtX6_fill 1 25 18 [some (.ref 0), some (.int a1)] [.int q10.1] q10.2 Q
    have h := ok_some h
    exact e_iret rfl dX6_fill_18 h
def fpX6_night  (M : Me) : Option (Int32 × Me) := (if (M.1 1 6) = (999 : Int32) then
 (fpX6_finds (-1000005 : Int32) M).bind fun q4 =>
 some (q4.1, q4.2)
 else
 letv (wrM M 1 5 (0 : Int32)) fun M2 =>
 (fpX6_dawns M2).bind fun q3 =>
 some ((q3.1 1 6), q3))
set_option maxRecDepth 20000 in
theorem ctX6_night {z : Zt} {M : Me} {Q : Option Value → Me → Prop}   (h : ok (fpX6_night M) (fun a => Q (some (.int a.1)) a.2)) : EvM (wY, z) mtX6_night 2 42 [.ref 0] M Q := by
  refine evm_of [some (.ref 0)] 0 (by decide +kernel) (Nat.le_of_ble_eq_true rfl) rfl ?_
  unfold fpX6_night at h
  refine e_aload_n dX6_night_0 rfl ?_
  refine e_getR fa_RX6_7 is_Y0 rfl dX6_night_1 ?_
  refine e_bipush (6 : Int32) dX6_night_4 (by decide) ?_
  refine e_ialdK ia_Y1 (by unfold vp_in; decide) (q := 6) (by decide) dX6_night_6 ?_
  refine e_sipush (999 : Int32) dX6_night_7 (by decide) ?_
  refine e_icmp_ne 20 dX6_night_10 (by decide) (fun c1 => ?_) (fun c1 => ?_)
  · have h := ok_f c1 h
    refine e_aload_n dX6_night_20 rfl ?_
    refine e_getR fa_RX6_7 is_Y0 rfl dX6_night_21 ?_
    refine e_iconst (5 : Int32) dX6_night_24 (by decide) ?_
    refine e_iconst (0 : Int32) dX6_night_25 (by decide) ?_
    refine e_iastK ia_Y1 (by unfold vp_in; decide) (q := 5) (by decide) dX6_night_26 ?_
    refine lv1 (P := fun M2 => Ev (wY, z) mtX6_night 2 42 27 [some (.ref 0)] [] M2 Q) h (fun M2 h => ?_)
    refine e_aload_n dX6_night_27 rfl ?_
    refine e_callV (f2 := 1) (l2 := 21) (ν := mtX6_dawns) (as := []) cv_RX6_127 is_Y0 kc_7 ⟨Nat.le_of_ble_eq_true rfl, Nat.le_of_ble_eq_true rfl⟩ rfl rfl (Nat.le_of_ble_eq_true rfl) dX6_night_28 ?_
    refine ctX6_dawns (ok_bnd h (fun q3 h => ?_))
    show Ev (wY, z) mtX6_night 2 42 31 [some (.ref 0)] [] q3 Q
    refine e_aload_n dX6_night_31 rfl ?_
    refine e_getR fa_RX6_7 is_Y0 rfl dX6_night_32 ?_
    refine e_bipush (6 : Int32) dX6_night_35 (by decide) ?_
    refine e_ialdK ia_Y1 (by unfold vp_in; decide) (q := 6) (by decide) dX6_night_37 ?_
    have h := ok_some h
    exact e_iret rfl dX6_night_38 h
  · have h := ok_t c1 h
    refine e_aload_n dX6_night_13 rfl ?_
    refine e_ldc wk_RX6_122 dX6_night_14 ?_
    refine e_callV (f2 := 0) (l2 := 0) (ν := mtX6_finds) (as := [.int (-1000005 : Int32)]) cv_RX6_81 is_Y0 kc_7 ⟨Nat.le_of_ble_eq_true rfl, Nat.le_of_ble_eq_true rfl⟩ rfl rfl (Nat.le_of_ble_eq_true rfl) dX6_night_16 ?_
    refine ctX6_finds (-1000005 : Int32) (ok_bnd h (fun q4 h => ?_))
    show Ev (wY, z) mtX6_night 2 42 19 [some (.ref 0)] [.int q4.1] q4.2 Q
    have h := ok_some h
    exact e_iret rfl dX6_night_19 h
def XX6_findYields_7 (z : Zt) (Q : Option Value → Me → Prop) : (Me) → Prop := fun t => Ev (wY, z) mtX6_findYields 4 89 131 [none, none, none] [] t Q
def EX6_findYields_7 (z : Zt) (Q : Option Value → Me → Prop) : (Int32 × Me) → Prop := fun s => Ev (wY, z) mtX6_findYields 4 89 7 [some (.ref 0), some (.int s.1), none] [] s.2 Q
def GX6_findYields_7 (z : Zt) (Q : Option Value → Me → Prop) : (Int32 × Me) ⊕ (Me) → Prop := Sum.elim (EX6_findYields_7 z Q) (XX6_findYields_7 z Q)
def XX6_findYields_75 (z : Zt) (a1 : Int32) (Q : Option Value → Me → Prop) : (Me) → Prop := fun t => Ev (wY, z) mtX6_findYields 4 89 125 [some (.ref 0), some (.int a1), none] [] t Q
def EX6_findYields_75 (z : Zt) (a1 : Int32) (Q : Option Value → Me → Prop) : (Int32 × Me) → Prop := fun s => Ev (wY, z) mtX6_findYields 4 89 75 [some (.ref 0), some (.int a1), some (.int s.1)] [] s.2 Q
def GX6_findYields_75 (z : Zt) (a1 : Int32) (Q : Option Value → Me → Prop) : (Int32 × Me) ⊕ (Me) → Prop := Sum.elim (EX6_findYields_75 z a1 Q) (XX6_findYields_75 z a1 Q)
def fpX6_findYields_l75s (a1 : Int32) (a2 : Int32) (M : Me) : Option ((Int32 × Me) ⊕ (Me)) := (if (M.1 1 0) ≤ a2 then
 some (.inr M)
 else
 (fpX6_its a2 (1 : Int32) M).bind fun v11 =>
 (fpX6_its a1 (1 : Int32) M).bind fun v12 =>
 (fpX6_left (9999 : Int32) v11 v12 M).bind fun v13 =>
 (inb (((8 : Int32) * a2) + a1) 64).bind fun k14 =>
 letv (wrM M 7 k14 ((9999 : Int32) - v13)) fun M15 =>
 letv (a2 + (1 : Int32)) fun v16 =>
 some (.inl (v16, M15)))
def fpX6_findYields_l75 (a1 : Int32) (s : Int32 × Me) : Option ((Int32 × Me) ⊕ (Me)) := fpX6_findYields_l75s a1 s.1 s.2
set_option maxRecDepth 20000 in
theorem ebX6_findYields_l75s {z : Zt} {Q : Option Value → Me → Prop} (a1 : Int32) (a2 : Int32) (M : Me) (h : ok (fpX6_findYields_l75s a1 a2 M) (GX6_findYields_75 z a1 Q)) : Ev (wY, z) mtX6_findYields 4 89 75 [some (.ref 0), some (.int a1), some (.int a2)] [] M Q := by
  unfold fpX6_findYields_l75s at h
  refine e_iload_n dX6_findYields_75 rfl ?_
  refine e_aload_n dX6_findYields_76 rfl ?_
  refine e_getR fa_RX6_7 is_Y0 rfl dX6_findYields_77 ?_
  refine e_iconst (0 : Int32) dX6_findYields_80 (by decide) ?_
  refine e_ialdK ia_Y1 (by unfold vp_in; decide) (q := 0) (by decide) dX6_findYields_81 ?_
  refine e_icmp_ge 125 dX6_findYields_82 (by decide) (fun c10 => ?_) (fun c10 => ?_)
  · have h := ok_t c10 h
    refine e_forget [some (.ref 0), some (.int a1), none] (leL_s (leL_s (leL_n leL_0))) ?_
    have h := ok_some h
    exact h
  · have h := ok_f c10 h
    refine e_aload_n dX6_findYields_85 rfl ?_
    refine e_getR fa_RX6_28 is_Y0 rfl dX6_findYields_86 ?_
    refine e_bipush (8 : Int32) dX6_findYields_89 (by decide) ?_
    refine e_iload_n dX6_findYields_91 rfl ?_
    refine e_imul dX6_findYields_92 ?_
    refine e_iload_n dX6_findYields_93 rfl ?_
    refine e_iadd dX6_findYields_94 ?_
    refine e_sipush (9999 : Int32) dX6_findYields_95 (by decide) ?_
    refine e_aload_n dX6_findYields_98 rfl ?_
    refine e_sipush (9999 : Int32) dX6_findYields_99 (by decide) ?_
    refine e_aload_n dX6_findYields_102 rfl ?_
    refine e_iload_n dX6_findYields_103 rfl ?_
    refine e_iconst (1 : Int32) dX6_findYields_104 (by decide) ?_
    refine e_callV (f2 := 1) (l2 := 21) (ν := mtX6_its) (as := [.int a2, .int (1 : Int32)]) cv_RX6_90 is_Y0 kc_7 ⟨Nat.le_of_ble_eq_true rfl, Nat.le_of_ble_eq_true rfl⟩ rfl rfl (Nat.le_of_ble_eq_true rfl) dX6_findYields_105 ?_
    refine ctX6_its a2 (1 : Int32) (ok_bnd h (fun v11 h => ?_))
    show Ev (wY, z) mtX6_findYields 4 89 108 [some (.ref 0), some (.int a1), some (.int a2)] [.int v11, .int (9999 : Int32), .ref 0, .int (9999 : Int32), .int (((8 : Int32) * a2) + a1), .ref 7] M Q
    refine e_aload_n dX6_findYields_108 rfl ?_
    refine e_iload_n dX6_findYields_109 rfl ?_
    refine e_iconst (1 : Int32) dX6_findYields_110 (by decide) ?_
    refine e_callV (f2 := 1) (l2 := 21) (ν := mtX6_its) (as := [.int a1, .int (1 : Int32)]) cv_RX6_90 is_Y0 kc_7 ⟨Nat.le_of_ble_eq_true rfl, Nat.le_of_ble_eq_true rfl⟩ rfl rfl (Nat.le_of_ble_eq_true rfl) dX6_findYields_111 ?_
    refine ctX6_its a1 (1 : Int32) (ok_bnd h (fun v12 h => ?_))
    show Ev (wY, z) mtX6_findYields 4 89 114 [some (.ref 0), some (.int a1), some (.int a2)] [.int v12, .int v11, .int (9999 : Int32), .ref 0, .int (9999 : Int32), .int (((8 : Int32) * a2) + a1), .ref 7] M Q
    refine e_callV (f2 := 1) (l2 := 21) (ν := mtX6_left) (as := [.int (9999 : Int32), .int v11, .int v12]) cv_RX6_123 is_Y0 kc_7 ⟨Nat.le_of_ble_eq_true rfl, Nat.le_of_ble_eq_true rfl⟩ rfl rfl (Nat.le_of_ble_eq_true rfl) dX6_findYields_114 ?_
    refine ctX6_left (9999 : Int32) v11 v12 (ok_bnd h (fun v13 h => ?_))
    show Ev (wY, z) mtX6_findYields 4 89 117 [some (.ref 0), some (.int a1), some (.int a2)] [.int v13, .int (9999 : Int32), .int (((8 : Int32) * a2) + a1), .ref 7] M Q
    refine e_isub dX6_findYields_117 ?_
    refine ok_inb h (fun k14 ek14 ik14 h => ?_)
    refine e_iastK ia_Y7 ik14 ek14 dX6_findYields_118 ?_
    refine lv1 (P := fun M15 => Ev (wY, z) mtX6_findYields 4 89 119 [some (.ref 0), some (.int a1), some (.int a2)] [] M15 Q) h (fun M15 h => ?_)
    refine lv1e h (fun v16 ev16 h => ?_)
    refine e_iinc v16 dX6_findYields_119 rfl ev16 (by decide) rfl ?_
    refine e_goto 75 dX6_findYields_122 (by decide) ?_
    refine e_forget [some (.ref 0), some (.int a1), some (.int v16)] (leL_s (leL_s (leL_s leL_0))) ?_
    have h := ok_some h
    exact h
theorem elX6_findYields_l75 {z : Zt} {Q : Option Value → Me → Prop} (a1 : Int32) (N : Nat) (s : Int32 × Me) (h : ok (lp (fpX6_findYields_l75 a1) N s) (XX6_findYields_75 z a1 Q)) : EX6_findYields_75 z a1 Q s :=
  lp_ind (fun s h => ebX6_findYields_l75s a1 s.1 s.2 h) N s h
def fpX6_findYields_b69_7 (a1 : Int32) (t1 : Int32) (t2 : Int32) (M : Me) : Option ((Int32 × Me) ⊕ (Me)) := letv (wrM M 0 8 (t1 ||| t2)) fun M9 =>
 (lp (fpX6_findYields_l75 a1) FU ((0 : Int32), M9)).bind fun r17 =>
 letv (a1 + (1 : Int32)) fun v18 =>
 some (.inl (v18, r17))
set_option maxRecDepth 20000 in
theorem ebX6_findYields_b69_7 {z : Zt} {Q : Option Value → Me → Prop} (a1 : Int32) (t1 : Int32) (t2 : Int32) (M : Me) (h : ok (fpX6_findYields_b69_7 a1 t1 t2 M) (GX6_findYields_7 z Q)) : Ev (wY, z) mtX6_findYields 4 89 69 [some (.ref 0), some (.int a1), none] [.int t2, .int t1, .ref 0] M Q := by
  unfold fpX6_findYields_b69_7 at h
  refine e_ior dX6_findYields_69 ?_
  refine e_putI fw_RX6_137 is_Y0 dX6_findYields_70 ?_
  refine lv1 (P := fun M9 => Ev (wY, z) mtX6_findYields 4 89 73 [some (.ref 0), some (.int a1), none] [] M9 Q) h (fun M9 h => ?_)
  refine e_iconst (0 : Int32) dX6_findYields_73 (by decide) ?_
  refine e_istore_n dX6_findYields_74 (by decide) rfl ?_
  refine e_forget [some (.ref 0), some (.int a1), some (.int (0 : Int32))] (leL_s (leL_s (leL_s leL_0))) ?_
  refine elX6_findYields_l75 a1 FU ((0 : Int32), M9) (ok_bnd h (fun r17 h => ?_))
  show Ev (wY, z) mtX6_findYields 4 89 125 [some (.ref 0), some (.int a1), none] [] r17 Q
  refine lv1e h (fun v18 ev18 h => ?_)
  refine e_iinc v18 dX6_findYields_125 rfl ev18 (by decide) rfl ?_
  refine e_goto 7 dX6_findYields_128 (by decide) ?_
  refine e_forget [some (.ref 0), some (.int v18), none] (leL_s (leL_s (leL_n leL_0))) ?_
  have h := ok_some h
  exact h
def fpX6_findYields_b68_7 (a1 : Int32) (t1 : Int32) (M : Me) : Option ((Int32 × Me) ⊕ (Me)) := fpX6_findYields_b69_7 a1 t1 (0 : Int32) M
set_option maxRecDepth 20000 in
theorem ebX6_findYields_b68_7 {z : Zt} {Q : Option Value → Me → Prop} (a1 : Int32) (t1 : Int32) (M : Me) (h : ok (fpX6_findYields_b68_7 a1 t1 M) (GX6_findYields_7 z Q)) : Ev (wY, z) mtX6_findYields 4 89 68 [some (.ref 0), some (.int a1), none] [.int t1, .ref 0] M Q := by
  unfold fpX6_findYields_b68_7 at h
  refine e_iconst (0 : Int32) dX6_findYields_68 (by decide) ?_
  refine e_forget [some (.ref 0), some (.int a1), none] (leL_s (leL_s (leL_n leL_0))) ?_
  exact ebX6_findYields_b69_7 a1 t1 (0 : Int32) M h
def fpX6_findYields_l7s (a1 : Int32) (M : Me) : Option ((Int32 × Me) ⊕ (Me)) := (if (M.1 1 0) ≤ a1 then
 some (.inr M)
 else
 (fpX6_yieldOf a1 M).bind fun v3 =>
 (inb a1 8).bind fun k4 =>
 letv (wrM M 5 k4 v3) fun M5 =>
 (fpX6_needOf a1 M5).bind fun v6 =>
 letv (wrM M5 6 k4 v6) fun M7 =>
 (if (M7.1 5 k4) ≤ 0 then
 fpX6_findYields_b68_7 a1 (M7.1 0 8) M7
 else
 (fpX6_its a1 (5 : Int32) M7).bind fun v19 =>
 (if v19 = 0 then
 fpX6_findYields_b69_7 a1 (M7.1 0 8) ((1 : Int32) <<< (a1 &&& 31)) M7
 else
 fpX6_findYields_b68_7 a1 (M7.1 0 8) M7)))
def fpX6_findYields_l7 (s : Int32 × Me) : Option ((Int32 × Me) ⊕ (Me)) := fpX6_findYields_l7s s.1 s.2
set_option maxRecDepth 20000 in
theorem ebX6_findYields_l7s {z : Zt} {Q : Option Value → Me → Prop} (a1 : Int32) (M : Me) (h : ok (fpX6_findYields_l7s a1 M) (GX6_findYields_7 z Q)) : Ev (wY, z) mtX6_findYields 4 89 7 [some (.ref 0), some (.int a1), none] [] M Q := by
  unfold fpX6_findYields_l7s at h
  refine e_iload_n dX6_findYields_7 rfl ?_
  refine e_aload_n dX6_findYields_8 rfl ?_
  refine e_getR fa_RX6_7 is_Y0 rfl dX6_findYields_9 ?_
  refine e_iconst (0 : Int32) dX6_findYields_12 (by decide) ?_
  refine e_ialdK ia_Y1 (by unfold vp_in; decide) (q := 0) (by decide) dX6_findYields_13 ?_
  refine e_icmp_ge 131 dX6_findYields_14 (by decide) (fun c2 => ?_) (fun c2 => ?_)
  · have h := ok_t c2 h
    refine e_forget [none, none, none] (leL_n (leL_n (leL_n leL_0))) ?_
    have h := ok_some h
    exact h
  · have h := ok_f c2 h
    refine e_aload_n dX6_findYields_17 rfl ?_
    refine e_getR fa_RX6_22 is_Y0 rfl dX6_findYields_18 ?_
    refine e_iload_n dX6_findYields_21 rfl ?_
    refine e_aload_n dX6_findYields_22 rfl ?_
    refine e_iload_n dX6_findYields_23 rfl ?_
    refine e_callV (f2 := 2) (l2 := 43) (ν := mtX6_yieldOf) (as := [.int a1]) cv_RX6_96 is_Y0 kc_7 ⟨Nat.le_of_ble_eq_true rfl, Nat.le_of_ble_eq_true rfl⟩ rfl rfl (Nat.le_of_ble_eq_true rfl) dX6_findYields_24 ?_
    refine ctX6_yieldOf a1 (ok_bnd h (fun v3 h => ?_))
    show Ev (wY, z) mtX6_findYields 4 89 27 [some (.ref 0), some (.int a1), none] [.int v3, .int a1, .ref 5] M Q
    refine ok_inb h (fun k4 ek4 ik4 h => ?_)
    refine e_iastK ia_Y5 ik4 ek4 dX6_findYields_27 ?_
    refine lv1 (P := fun M5 => Ev (wY, z) mtX6_findYields 4 89 28 [some (.ref 0), some (.int a1), none] [] M5 Q) h (fun M5 h => ?_)
    refine e_aload_n dX6_findYields_28 rfl ?_
    refine e_getR fa_RX6_25 is_Y0 rfl dX6_findYields_29 ?_
    refine e_iload_n dX6_findYields_32 rfl ?_
    refine e_aload_n dX6_findYields_33 rfl ?_
    refine e_iload_n dX6_findYields_34 rfl ?_
    refine e_callV (f2 := 3) (l2 := 66) (ν := mtX6_needOf) (as := [.int a1]) cv_RX6_104 is_Y0 kc_7 ⟨Nat.le_of_ble_eq_true rfl, Nat.le_of_ble_eq_true rfl⟩ rfl rfl (Nat.le_of_ble_eq_true rfl) dX6_findYields_35 ?_
    refine ctX6_needOf a1 (ok_bnd h (fun v6 h => ?_))
    show Ev (wY, z) mtX6_findYields 4 89 38 [some (.ref 0), some (.int a1), none] [.int v6, .int a1, .ref 6] M5 Q
    refine e_iastK ia_Y6 ik4 ek4 dX6_findYields_38 ?_
    refine lv1 (P := fun M7 => Ev (wY, z) mtX6_findYields 4 89 39 [some (.ref 0), some (.int a1), none] [] M7 Q) h (fun M7 h => ?_)
    refine e_aload_n dX6_findYields_39 rfl ?_
    refine e_dup dX6_findYields_40 rfl ?_
    refine e_getI fa_RX6_137 is_Y0 dX6_findYields_41 ?_
    refine e_aload_n dX6_findYields_44 rfl ?_
    refine e_getR fa_RX6_22 is_Y0 rfl dX6_findYields_45 ?_
    refine e_iload_n dX6_findYields_48 rfl ?_
    refine e_ialdK ia_Y5 ik4 ek4 dX6_findYields_49 ?_
    refine e_if_le 68 dX6_findYields_50 (by decide) (fun c8 => ?_) (fun c8 => ?_)
    · have h := ok_t c8 h
      refine e_forget [some (.ref 0), some (.int a1), none] (leL_s (leL_s (leL_n leL_0))) ?_
      exact ebX6_findYields_b68_7 a1 (M7.1 0 8) M7 h
    · have h := ok_f c8 h
      refine e_aload_n dX6_findYields_53 rfl ?_
      refine e_iload_n dX6_findYields_54 rfl ?_
      refine e_iconst (5 : Int32) dX6_findYields_55 (by decide) ?_
      refine e_callV (f2 := 1) (l2 := 21) (ν := mtX6_its) (as := [.int a1, .int (5 : Int32)]) cv_RX6_90 is_Y0 kc_7 ⟨Nat.le_of_ble_eq_true rfl, Nat.le_of_ble_eq_true rfl⟩ rfl rfl (Nat.le_of_ble_eq_true rfl) dX6_findYields_56 ?_
      refine ctX6_its a1 (5 : Int32) (ok_bnd h (fun v19 h => ?_))
      show Ev (wY, z) mtX6_findYields 4 89 59 [some (.ref 0), some (.int a1), none] [.int v19, .int (M7.1 0 8), .ref 0] M7 Q
      refine e_if_ne 68 dX6_findYields_59 (by decide) (fun c20 => ?_) (fun c20 => ?_)
      · have h := ok_f c20 h
        refine e_forget [some (.ref 0), some (.int a1), none] (leL_s (leL_s (leL_n leL_0))) ?_
        exact ebX6_findYields_b68_7 a1 (M7.1 0 8) M7 h
      · have h := ok_t c20 h
        refine e_iconst (1 : Int32) dX6_findYields_62 (by decide) ?_
        refine e_iload_n dX6_findYields_63 rfl ?_
        refine e_ishl dX6_findYields_64 ?_
        refine e_goto 69 dX6_findYields_65 (by decide) ?_
        refine e_forget [some (.ref 0), some (.int a1), none] (leL_s (leL_s (leL_n leL_0))) ?_
        exact ebX6_findYields_b69_7 a1 (M7.1 0 8) ((1 : Int32) <<< (a1 &&& 31)) M7 h
theorem elX6_findYields_l7 {z : Zt} {Q : Option Value → Me → Prop} (N : Nat) (s : Int32 × Me) (h : ok (lp (fpX6_findYields_l7) N s) (XX6_findYields_7 z Q)) : EX6_findYields_7 z Q s :=
  lp_ind (fun s h => ebX6_findYields_l7s s.1 s.2 h) N s h
def fpX6_findYields  (M : Me) : Option (Me) := letv (wrM M 0 8 (0 : Int32)) fun M1 =>
 (lp (fpX6_findYields_l7) FU ((0 : Int32), M1)).bind fun r21 =>
 some r21
set_option maxRecDepth 20000 in
theorem ctX6_findYields {z : Zt} {M : Me} {Q : Option Value → Me → Prop}   (h : ok (fpX6_findYields M) (fun a => Q none a)) : EvM (wY, z) mtX6_findYields 4 89 [.ref 0] M Q := by
  refine evm_of [some (.ref 0), none, none] 2 (by decide +kernel) (Nat.le_of_ble_eq_true rfl) rfl ?_
  unfold fpX6_findYields at h
  refine e_aload_n dX6_findYields_0 rfl ?_
  refine e_iconst (0 : Int32) dX6_findYields_1 (by decide) ?_
  refine e_putI fw_RX6_137 is_Y0 dX6_findYields_2 ?_
  refine lv1 (P := fun M1 => Ev (wY, z) mtX6_findYields 4 89 5 [some (.ref 0), none, none] [] M1 Q) h (fun M1 h => ?_)
  refine e_iconst (0 : Int32) dX6_findYields_5 (by decide) ?_
  refine e_istore_n dX6_findYields_6 (by decide) rfl ?_
  refine e_forget [some (.ref 0), some (.int (0 : Int32)), none] (leL_s (leL_s (leL_n leL_0))) ?_
  refine elX6_findYields_l7 FU ((0 : Int32), M1) (ok_bnd h (fun r21 h => ?_))
  show Ev (wY, z) mtX6_findYields 4 89 131 [none, none, none] [] r21 Q
  have h := ok_some h
  exact e_vret rfl dX6_findYields_131 h
def fpX6_ran (a1 : Int32) (a2 : Int32) (M : Me) : Option (Int32) := (inb a2 8).bind fun k1 =>
 letv ((a1 - (M.1 6 k1)) + (M.1 5 k1)) fun v2 =>
 (if a1 < 0 then
 some (-1 : Int32)
 else
 (if a1 < (M.1 6 k1) then
 some (-1 : Int32)
 else
 (if (fpX6_has (M.1 0 8) a2) = 0 then
 some (-1 : Int32)
 else
 (if (M.1 1 2) ≤ v2 then
 some (M.1 1 2)
 else
 some v2))))
set_option maxRecDepth 20000 in
theorem ctX6_ran {z : Zt} {M : Me} {Q : Option Value → Me → Prop} (a1 : Int32) (a2 : Int32)  (h : ok (fpX6_ran a1 a2 M) (fun a => Q (some (.int a)) M)) : EvM (wY, z) mtX6_ran 1 21 [.ref 0, .int a1, .int a2] M Q := by
  refine evm_of [some (.ref 0), some (.int a1), some (.int a2), none] 1 (by decide +kernel) (Nat.le_of_ble_eq_true rfl) rfl ?_
  unfold fpX6_ran at h
  refine e_iload_n dX6_ran_0 rfl ?_
  refine e_aload_n dX6_ran_1 rfl ?_
  refine e_getR fa_RX6_25 is_Y0 rfl dX6_ran_2 ?_
  refine e_iload_n dX6_ran_5 rfl ?_
  refine ok_inb h (fun k1 ek1 ik1 h => ?_)
  refine e_ialdK ia_Y6 ik1 ek1 dX6_ran_6 ?_
  refine e_isub dX6_ran_7 ?_
  refine e_aload_n dX6_ran_8 rfl ?_
  refine e_getR fa_RX6_22 is_Y0 rfl dX6_ran_9 ?_
  refine e_iload_n dX6_ran_12 rfl ?_
  refine e_ialdK ia_Y5 ik1 ek1 dX6_ran_13 ?_
  refine e_iadd dX6_ran_14 ?_
  refine lv1 (P := fun v2 => Ev (wY, z) mtX6_ran 1 21 15 [some (.ref 0), some (.int a1), some (.int a2), none] [.int v2] M Q) h (fun v2 h => ?_)
  refine e_istore_n dX6_ran_15 (by decide) rfl ?_
  refine e_iload_n dX6_ran_16 rfl ?_
  refine e_if_lt 41 dX6_ran_17 (by decide) (fun c3 => ?_) (fun c3 => ?_)
  · have h := ok_t c3 h
    refine e_iconst (-1 : Int32) dX6_ran_41 (by decide) ?_
    refine e_goto 65 dX6_ran_42 (by decide) ?_
    have h := ok_some h
    exact e_iret rfl dX6_ran_65 h
  · have h := ok_f c3 h
    refine e_iload_n dX6_ran_20 rfl ?_
    refine e_aload_n dX6_ran_21 rfl ?_
    refine e_getR fa_RX6_25 is_Y0 rfl dX6_ran_22 ?_
    refine e_iload_n dX6_ran_25 rfl ?_
    refine e_ialdK ia_Y6 ik1 ek1 dX6_ran_26 ?_
    refine e_icmp_lt 41 dX6_ran_27 (by decide) (fun c4 => ?_) (fun c4 => ?_)
    · have h := ok_t c4 h
      refine e_iconst (-1 : Int32) dX6_ran_41 (by decide) ?_
      refine e_goto 65 dX6_ran_42 (by decide) ?_
      have h := ok_some h
      exact e_iret rfl dX6_ran_65 h
    · have h := ok_f c4 h
      refine e_aload_n dX6_ran_30 rfl ?_
      refine e_getI fa_RX6_137 is_Y0 dX6_ran_31 ?_
      refine e_iload_n dX6_ran_34 rfl ?_
      refine e_callS (f2 := 0) (l2 := 0) (ν := mtX6_has) (as := [.int (M.1 0 8), .int a2]) cs_RX6_141 ⟨Nat.le_of_ble_eq_true rfl, Nat.le_of_ble_eq_true rfl⟩ rfl rfl (Nat.le_of_ble_eq_true rfl) dX6_ran_35 ?_
      refine ctX6_has (M.1 0 8) a2 ?_
      show Ev (wY, z) mtX6_ran 1 21 38 [some (.ref 0), some (.int a1), some (.int a2), some (.int v2)] [.int (fpX6_has (M.1 0 8) a2)] M Q
      refine e_if_ne 45 dX6_ran_38 (by decide) (fun c5 => ?_) (fun c5 => ?_)
      · have h := ok_f c5 h
        refine e_iload_n dX6_ran_45 rfl ?_
        refine e_aload_n dX6_ran_46 rfl ?_
        refine e_getR fa_RX6_7 is_Y0 rfl dX6_ran_47 ?_
        refine e_iconst (2 : Int32) dX6_ran_50 (by decide) ?_
        refine e_ialdK ia_Y1 (by unfold vp_in; decide) (q := 2) (by decide) dX6_ran_51 ?_
        refine e_icmp_ge 59 dX6_ran_52 (by decide) (fun c6 => ?_) (fun c6 => ?_)
        · have h := ok_t c6 h
          refine e_aload_n dX6_ran_59 rfl ?_
          refine e_getR fa_RX6_7 is_Y0 rfl dX6_ran_60 ?_
          refine e_iconst (2 : Int32) dX6_ran_63 (by decide) ?_
          refine e_ialdK ia_Y1 (by unfold vp_in; decide) (q := 2) (by decide) dX6_ran_64 ?_
          have h := ok_some h
          exact e_iret rfl dX6_ran_65 h
        · have h := ok_f c6 h
          refine e_iload_n dX6_ran_55 rfl ?_
          refine e_goto 65 dX6_ran_56 (by decide) ?_
          have h := ok_some h
          exact e_iret rfl dX6_ran_65 h
      · have h := ok_t c5 h
        refine e_iconst (-1 : Int32) dX6_ran_41 (by decide) ?_
        refine e_goto 65 dX6_ran_42 (by decide) ?_
        have h := ok_some h
        exact e_iret rfl dX6_ran_65 h
