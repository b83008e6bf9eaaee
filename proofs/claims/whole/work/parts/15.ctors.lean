theorem w_arr : Cond.arrayClass .int ∈ gtb := gtb_of 136 (by decide +kernel) (by decide +kernel)
theorem wl_RX1_3 : Cond.methodLink RX1 3 objectInit ∈ gtb := gtb_of 101 (by decide +kernel) (by decide +kernel)
theorem wm_oi : Cond.instanceMethod objectInit ∈ gtb := gtb_of 87 (by decide +kernel) (by decide +kernel)
theorem wc_oi : Cond.code objectInit ⟨#[0xb1]⟩ 1 none ∈ gtb := gtb_of 88 (by decide +kernel) (by decide +kernel)
theorem wl_RX3_3 : Cond.methodLink RX3 3 objectInit ∈ gtb := gtb_of 284 (by decide +kernel) (by decide +kernel)
theorem ff_RX3_9 : FF RX3 9 5 0 (.array .int) := ⟨3, _, RX3, TX3, 3, tyX3, rfl, rfl, inX3, by decide, wf_RX3_9, tyX3_ok, nmX3, rfl, rfl, by decide +kernel⟩
theorem wl_RX4_3 : Cond.methodLink RX4 3 objectInit ∈ gtb := gtb_of 209 (by decide +kernel) (by decide +kernel)
theorem ff_RX4_9 : FF RX4 9 4 0 (.array .int) := ⟨4, _, RX4, TX4, 6, tyX4, rfl, rfl, inX4, by decide, wf_RX4_9, tyX4_ok, nmX4, rfl, rfl, by decide +kernel⟩
theorem wl_RX0_3 : Cond.methodLink RX0 3 objectInit ∈ gtb := gtb_of 237 (by decide +kernel) (by decide +kernel)
theorem ff_RX0_9 : FF RX0 9 6 0 (.array .int) := ⟨0, _, RX0, TX0, 13, tyX0, rfl, rfl, inX0, by decide, wf_RX0_9, tyX0_ok, nmX0, rfl, rfl, by decide +kernel⟩
theorem ff_RX0_31 : FF RX0 31 6 6 (.array .int) := ⟨0, _, RX0, TX0, 13, tyX0, rfl, rfl, inX0, by decide, wf_RX0_31, tyX0_ok, nmX0, rfl, rfl, by decide +kernel⟩
theorem ff_RX0_34 : FF RX0 34 6 7 (.array .int) := ⟨0, _, RX0, TX0, 13, tyX0, rfl, rfl, inX0, by decide, wf_RX0_34, tyX0_ok, nmX0, rfl, rfl, by decide +kernel⟩
theorem ff_RX0_37 : FF RX0 37 6 8 (.array .int) := ⟨0, _, RX0, TX0, 13, tyX0, rfl, rfl, inX0, by decide, wf_RX0_37, tyX0_ok, nmX0, rfl, rfl, by decide +kernel⟩
theorem ff_RX0_40 : FF RX0 40 6 9 (.array .int) := ⟨0, _, RX0, TX0, 13, tyX0, rfl, rfl, inX0, by decide, wf_RX0_40, tyX0_ok, nmX0, rfl, rfl, by decide +kernel⟩
theorem ff_RX0_43 : FF RX0 43 6 10 (.array .int) := ⟨0, _, RX0, TX0, 13, tyX0, rfl, rfl, inX0, by decide, wf_RX0_43, tyX0_ok, nmX0, rfl, rfl, by decide +kernel⟩
theorem ff_RX0_46 : FF RX0 46 6 11 (.array .int) := ⟨0, _, RX0, TX0, 13, tyX0, rfl, rfl, inX0, by decide, wf_RX0_46, tyX0_ok, nmX0, rfl, rfl, by decide +kernel⟩
theorem ff_RX0_49 : FF RX0 49 6 12 (.array .int) := ⟨0, _, RX0, TX0, 13, tyX0, rfl, rfl, inX0, by decide, wf_RX0_49, tyX0_ok, nmX0, rfl, rfl, by decide +kernel⟩
theorem wcl_RX2_9 : Cond.classLink RX2 9 RX1 ∈ gtb := gtb_of 95 (by decide +kernel) (by decide +kernel)
theorem win_RX1 : Cond.instantiable RX1 6 ∈ gtb := gtb_of 97 (by decide +kernel) (by decide +kernel)
theorem nw_RX2_9 : nwW RX2 9 1 [.int 0, .int 0, .int 0, .int 0, .int 0, .int 0] 6 := ⟨RX1, TX1, tyX1, rfl, inX1, tyX1_ok, wcl_RX2_9, win_RX1, wi_RX1, fun j hj => by rcases (show j = 0 ∨ j = 1 ∨ j = 2 ∨ j = 3 ∨ j = 4 ∨ j = 5 by omega) with rfl | rfl | rfl | rfl | rfl | rfl <;> rfl⟩
theorem wm_X1_init : Cond.instanceMethod yX1_init ∈ gtb := gtb_of 99 (by decide +kernel) (by decide +kernel)
theorem wc_X1_init : Cond.code yX1_init cX1_init 1 none ∈ gtb := gtb_of 100 (by decide +kernel) (by decide +kernel)
theorem cin_RX2_58 : CIN RX2 58 mtX1_init := ⟨⟨RX5, by decide +kernel⟩, wm_X1_init, wi_RX1, wc_X1_init, rfl, rfl, ⟨by decide +kernel, by decide +kernel, by decide +kernel⟩⟩
theorem wl_RX2_3 : Cond.methodLink RX2 3 objectInit ∈ gtb := gtb_of 94 (by decide +kernel) (by decide +kernel)
theorem ff_RX2_11 : FF RX2 11 2 0 (.array (.object "PrimedPumps$Pump")) := ⟨2, _, RX2, TX2, 14, tyX2, rfl, rfl, inX2, by decide, wf_RX2_11, tyX2_ok, nmX2, rfl, rfl, by decide +kernel⟩
theorem ff_RX2_17 : FF RX2 17 2 1 (.array .int) := ⟨2, _, RX2, TX2, 14, tyX2, rfl, rfl, inX2, by decide, wf_RX2_17, tyX2_ok, nmX2, rfl, rfl, by decide +kernel⟩
theorem wl_RX6_1 : Cond.methodLink RX6 1 objectInit ∈ gtb := gtb_of 921 (by decide +kernel) (by decide +kernel)
theorem ff_RX6_7 : FF RX6 7 7 0 (.array .int) := ⟨6, _, RX6, TX6, 24, tyX6, rfl, rfl, inX6, by decide, wf_RX6_7, tyX6_ok, nmX6, rfl, rfl, by decide +kernel⟩
theorem ff_RX6_13 : FF RX6 13 7 1 (.array .int) := ⟨6, _, RX6, TX6, 24, tyX6, rfl, rfl, inX6, by decide, wf_RX6_13, tyX6_ok, nmX6, rfl, rfl, by decide +kernel⟩
theorem ff_RX6_16 : FF RX6 16 7 2 (.array .int) := ⟨6, _, RX6, TX6, 24, tyX6, rfl, rfl, inX6, by decide, wf_RX6_16, tyX6_ok, nmX6, rfl, rfl, by decide +kernel⟩
theorem ff_RX6_19 : FF RX6 19 7 3 (.array .int) := ⟨6, _, RX6, TX6, 24, tyX6, rfl, rfl, inX6, by decide, wf_RX6_19, tyX6_ok, nmX6, rfl, rfl, by decide +kernel⟩
theorem ff_RX6_22 : FF RX6 22 7 5 (.array .int) := ⟨6, _, RX6, TX6, 24, tyX6, rfl, rfl, inX6, by decide, wf_RX6_22, tyX6_ok, nmX6, rfl, rfl, by decide +kernel⟩
theorem ff_RX6_25 : FF RX6 25 7 6 (.array .int) := ⟨6, _, RX6, TX6, 24, tyX6, rfl, rfl, inX6, by decide, wf_RX6_25, tyX6_ok, nmX6, rfl, rfl, by decide +kernel⟩
theorem ff_RX6_28 : FF RX6 28 7 7 (.array .int) := ⟨6, _, RX6, TX6, 24, tyX6, rfl, rfl, inX6, by decide, wf_RX6_28, tyX6_ok, nmX6, rfl, rfl, by decide +kernel⟩
theorem ff_RX6_31 : FF RX6 31 7 9 (.array .int) := ⟨6, _, RX6, TX6, 24, tyX6, rfl, rfl, inX6, by decide, wf_RX6_31, tyX6_ok, nmX6, rfl, rfl, by decide +kernel⟩
theorem ff_RX6_34 : FF RX6 34 7 10 (.array .int) := ⟨6, _, RX6, TX6, 24, tyX6, rfl, rfl, inX6, by decide, wf_RX6_34, tyX6_ok, nmX6, rfl, rfl, by decide +kernel⟩
theorem ff_RX6_37 : FF RX6 37 7 11 (.array .int) := ⟨6, _, RX6, TX6, 24, tyX6, rfl, rfl, inX6, by decide, wf_RX6_37, tyX6_ok, nmX6, rfl, rfl, by decide +kernel⟩
theorem ff_RX6_40 : FF RX6 40 7 14 (.array .int) := ⟨6, _, RX6, TX6, 24, tyX6, rfl, rfl, inX6, by decide, wf_RX6_40, tyX6_ok, nmX6, rfl, rfl, by decide +kernel⟩
theorem ff_RX6_43 : FF RX6 43 7 20 (.array .int) := ⟨6, _, RX6, TX6, 24, tyX6, rfl, rfl, inX6, by decide, wf_RX6_43, tyX6_ok, nmX6, rfl, rfl, by decide +kernel⟩
theorem ff_RX6_46 : FF RX6 46 7 21 (.array .int) := ⟨6, _, RX6, TX6, 24, tyX6, rfl, rfl, inX6, by decide, wf_RX6_46, tyX6_ok, nmX6, rfl, rfl, by decide +kernel⟩
theorem ff_RX6_49 : FF RX6 49 7 22 (.array .int) := ⟨6, _, RX6, TX6, 24, tyX6, rfl, rfl, inX6, by decide, wf_RX6_49, tyX6_ok, nmX6, rfl, rfl, by decide +kernel⟩
theorem ff_RX6_52 : FF RX6 52 7 23 (.array .int) := ⟨6, _, RX6, TX6, 24, tyX6, rfl, rfl, inX6, by decide, wf_RX6_52, tyX6_ok, nmX6, rfl, rfl, by decide +kernel⟩
theorem wcl_RX5_33 : Cond.classLink RX5 33 RX3 ∈ gtb := gtb_of 230 (by decide +kernel) (by decide +kernel)
theorem win_RX3 : Cond.instantiable RX3 3 ∈ gtb := gtb_of 280 (by decide +kernel) (by decide +kernel)
theorem nw_RX5_33 : nwW RX5 33 3 [.null, .int 0, .int 0] 3 := ⟨RX3, TX3, tyX3, rfl, inX3, tyX3_ok, wcl_RX5_33, win_RX3, wi_RX3, fun j hj => by rcases (show j = 0 ∨ j = 1 ∨ j = 2 by omega) with rfl | rfl | rfl <;> rfl⟩
theorem wm_X3_init : Cond.instanceMethod yX3_init ∈ gtb := gtb_of 282 (by decide +kernel) (by decide +kernel)
theorem wc_X3_init : Cond.code yX3_init cX3_init 1 none ∈ gtb := gtb_of 283 (by decide +kernel) (by decide +kernel)
theorem cin_RX5_50 : CIN RX5 50 mtX3_init := ⟨⟨RX5, by decide +kernel⟩, wm_X3_init, wi_RX3, wc_X3_init, rfl, rfl, ⟨by decide +kernel, by decide +kernel, by decide +kernel⟩⟩
theorem wl_RX5_1 : Cond.methodLink RX5 1 objectInit ∈ gtb := gtb_of 86 (by decide +kernel) (by decide +kernel)
theorem wcl_RX5_7 : Cond.classLink RX5 7 RX2 ∈ gtb := gtb_of 89 (by decide +kernel) (by decide +kernel)
theorem win_RX2 : Cond.instantiable RX2 14 ∈ gtb := gtb_of 90 (by decide +kernel) (by decide +kernel)
theorem nw_RX5_7 : nwW RX5 7 2 [.null, .null, .int 0, .int 0, .int 0, .int 0, .int 0, .int 0, .int 0, .int 0, .int 0, .int 0, .int 0, .int 0] 14 := ⟨RX2, TX2, tyX2, rfl, inX2, tyX2_ok, wcl_RX5_7, win_RX2, wi_RX2, fun j hj => by rcases (show j = 0 ∨ j = 1 ∨ j = 2 ∨ j = 3 ∨ j = 4 ∨ j = 5 ∨ j = 6 ∨ j = 7 ∨ j = 8 ∨ j = 9 ∨ j = 10 ∨ j = 11 ∨ j = 12 ∨ j = 13 by omega) with rfl | rfl | rfl | rfl | rfl | rfl | rfl | rfl | rfl | rfl | rfl | rfl | rfl | rfl <;> rfl⟩
theorem wl_RX5_9 : Cond.methodLink RX5 9 yX2_init ∈ gtb := gtb_of 91 (by decide +kernel) (by decide +kernel)
theorem wm_X2_init : Cond.instanceMethod yX2_init ∈ gtb := gtb_of 92 (by decide +kernel) (by decide +kernel)
theorem wc_X2_init : Cond.code yX2_init cX2_init 2 none ∈ gtb := gtb_of 93 (by decide +kernel) (by decide +kernel)
theorem ci_RX5_9 : CI RX5 9 mtX2_init := ⟨wl_RX5_9, wm_X2_init, wi_RX2, wc_X2_init, rfl, rfl, ⟨by decide +kernel, by decide +kernel, by decide +kernel⟩⟩
theorem ff_RX5_10 : FF RX5 10 1 0 (.object "PrimedPumps$Road") := ⟨5, _, RX5, TX5, 8, tyX5, rfl, rfl, inX5, by decide, wf_RX5_10, tyX5_ok, nmX5, rfl, rfl, by decide +kernel⟩
theorem ff_RX5_16 : FF RX5 16 1 1 (.object "PrimedPumps$Road") := ⟨5, _, RX5, TX5, 8, tyX5, rfl, rfl, inX5, by decide, wf_RX5_16, tyX5_ok, nmX5, rfl, rfl, by decide +kernel⟩
theorem ff_RX5_19 : FF RX5 19 1 2 (.object "PrimedPumps$Road") := ⟨5, _, RX5, TX5, 8, tyX5, rfl, rfl, inX5, by decide, wf_RX5_19, tyX5_ok, nmX5, rfl, rfl, by decide +kernel⟩
theorem wcl_RX5_26 : Cond.classLink RX5 26 RX4 ∈ gtb := gtb_of 204 (by decide +kernel) (by decide +kernel)
theorem win_RX4 : Cond.instantiable RX4 6 ∈ gtb := gtb_of 205 (by decide +kernel) (by decide +kernel)
theorem nw_RX5_26 : nwW RX5 26 4 [.null, .int 0, .int 0, .int 0, .int 0, .int 0] 6 := ⟨RX4, TX4, tyX4, rfl, inX4, tyX4_ok, wcl_RX5_26, win_RX4, wi_RX4, fun j hj => by rcases (show j = 0 ∨ j = 1 ∨ j = 2 ∨ j = 3 ∨ j = 4 ∨ j = 5 by omega) with rfl | rfl | rfl | rfl | rfl | rfl <;> rfl⟩
theorem wm_X4_init : Cond.instanceMethod yX4_init ∈ gtb := gtb_of 207 (by decide +kernel) (by decide +kernel)
theorem wc_X4_init : Cond.code yX4_init cX4_init 1 none ∈ gtb := gtb_of 208 (by decide +kernel) (by decide +kernel)
theorem cin_RX5_28 : CIN RX5 28 mtX4_init := ⟨⟨RX5, by decide +kernel⟩, wm_X4_init, wi_RX4, wc_X4_init, rfl, rfl, ⟨by decide +kernel, by decide +kernel, by decide +kernel⟩⟩
theorem ff_RX5_29 : FF RX5 29 1 4 (.object "PrimedPumps$Tape") := ⟨5, _, RX5, TX5, 8, tyX5, rfl, rfl, inX5, by decide, wf_RX5_29, tyX5_ok, nmX5, rfl, rfl, by decide +kernel⟩
theorem ff_RX5_35 : FF RX5 35 1 5 (.array (.object "PrimedPumps$Sheet")) := ⟨5, _, RX5, TX5, 8, tyX5, rfl, rfl, inX5, by decide, wf_RX5_35, tyX5_ok, nmX5, rfl, rfl, by decide +kernel⟩
theorem ff_RX5_39 : FF RX5 39 1 6 (.array .int) := ⟨5, _, RX5, TX5, 8, tyX5, rfl, rfl, inX5, by decide, wf_RX5_39, tyX5_ok, nmX5, rfl, rfl, by decide +kernel⟩
theorem wcl_RX5_43 : Cond.classLink RX5 43 RX0 ∈ gtb := gtb_of 232 (by decide +kernel) (by decide +kernel)
theorem win_RX0 : Cond.instantiable RX0 13 ∈ gtb := gtb_of 233 (by decide +kernel) (by decide +kernel)
theorem nw_RX5_43 : nwW RX5 43 0 [.null, .int 0, .int 0, .int 0, .int 0, .int 0, .null, .null, .null, .null, .null, .null, .null] 13 := ⟨RX0, TX0, tyX0, rfl, inX0, tyX0_ok, wcl_RX5_43, win_RX0, wi_RX0, fun j hj => by rcases (show j = 0 ∨ j = 1 ∨ j = 2 ∨ j = 3 ∨ j = 4 ∨ j = 5 ∨ j = 6 ∨ j = 7 ∨ j = 8 ∨ j = 9 ∨ j = 10 ∨ j = 11 ∨ j = 12 by omega) with rfl | rfl | rfl | rfl | rfl | rfl | rfl | rfl | rfl | rfl | rfl | rfl | rfl <;> rfl⟩
theorem wl_RX5_45 : Cond.methodLink RX5 45 yX0_init ∈ gtb := gtb_of 234 (by decide +kernel) (by decide +kernel)
theorem wm_X0_init : Cond.instanceMethod yX0_init ∈ gtb := gtb_of 235 (by decide +kernel) (by decide +kernel)
theorem wc_X0_init : Cond.code yX0_init cX0_init 2 none ∈ gtb := gtb_of 236 (by decide +kernel) (by decide +kernel)
theorem ci_RX5_45 : CI RX5 45 mtX0_init := ⟨wl_RX5_45, wm_X0_init, wi_RX0, wc_X0_init, rfl, rfl, ⟨by decide +kernel, by decide +kernel, by decide +kernel⟩⟩
theorem ff_RX5_46 : FF RX5 46 1 7 (.object "PrimedPumps$Planner") := ⟨5, _, RX5, TX5, 8, tyX5, rfl, rfl, inX5, by decide, wf_RX5_46, tyX5_ok, nmX5, rfl, rfl, by decide +kernel⟩
theorem cc_Pump {h : Ht} {ρ : Nat → Nat} {t b : Nat} {F : Nat → va_E} : CvM h mtX1_init { frames := 1, cells := 0, slots := 0, locals := 12 } 0 0 [.ref b] ρ t F (fun ρ' t' F' => ρ' = ρ ∧ t' = t ∧ F' = F) := by
  refine cvm_of [some (.ref b)] 0 (by decide +kernel) (Nat.le_of_ble_eq_true rfl) rfl ?_
  refine c_aload_n dX1_init_0 rfl ?_
  refine c_objinit ⟨wl_RX1_3, wm_oi, wc_oi⟩ dX1_init_1 (Nat.le_of_ble_eq_true rfl) (Nat.le_of_ble_eq_true rfl) ?_
  exact c_vret rfl dX1_init_4 ⟨rfl, rfl, rfl⟩
theorem cc_Sheet {h : Ht} {ρ : Nat → Nat} {t k b : Nat} {F : Nat → va_E} (hk : k < t) (hb : ρ k = b) (hF : F k = .inr (3, [.null, .int 0, .int 0])) : CvM h mtX3_init { frames := 1, cells := 1, slots := 40, locals := 12 } 1 40 [.ref b] ρ t F (fun ρ' t' F' => t' = t + 1 ∧ (∀ j, j < t → ρ' j = ρ j) ∧ (∀ j, j < t → j ≠ k → F' j = F j) ∧ F' k = .inr (3, [.ref (ρ' t), .int 0, .int 0]) ∧ F' t = .inl (h.2.2.1, 40, .inl (fun _ => 0))) := by
  refine cvm_of [some (.ref b)] 0 (by decide +kernel) (Nat.le_of_ble_eq_true rfl) rfl ?_
  refine c_aload_n dX3_init_0 rfl ?_
  refine c_objinit ⟨wl_RX3_3, wm_oi, wc_oi⟩ dX3_init_1 (Nat.le_of_ble_eq_true rfl) (Nat.le_of_ble_eq_true rfl) ?_
  refine c_aload_n dX3_init_4 rfl ?_
  refine c_bipush (40 : Int32) dX3_init_5 (by decide) ?_
  refine c_newa 40 w_arr (by decide) (by decide) (Nat.le_of_ble_eq_true rfl) (Nat.le_of_ble_eq_true rfl) (Nat.le_of_ble_eq_true rfl) dX3_init_7 (fun r1 F1 q1 a1 b1 c1 d1 => ?_)
  refine c_putF 5 ff_RX3_9 rfl rfl (by omega) ((b1 _ (by omega)).trans hb) ((d1 _ (by omega)).trans hF) (Nat.le_of_ble_eq_true rfl) rfl rfl dX3_init_9 (fun F2 c2 d2 => ?_)
  have c2 : F2 k = .inr (3, [.ref q1, .int 0, .int 0]) := c2
  refine c_aload_n dX3_init_12 rfl ?_
  refine c_iconst (0 : Int32) dX3_init_13 (by decide) ?_
  refine c_put 5 fw_RX3_15 rfl (by omega) ((b1 _ (by omega)).trans hb) c2 (Nat.le_of_ble_eq_true rfl) (by decide +kernel) (by decide +kernel) dX3_init_14 (fun F3 c3 d3 => ?_)
  have c3 : F3 k = .inr (3, [.ref q1, .int 0, .int 0]) := c3
  refine c_aload_n dX3_init_17 rfl ?_
  refine c_iconst (0 : Int32) dX3_init_18 (by decide) ?_
  refine c_put 5 fw_RX3_19 rfl (by omega) ((b1 _ (by omega)).trans hb) c3 (Nat.le_of_ble_eq_true rfl) (by decide +kernel) (by decide +kernel) dX3_init_19 (fun F4 c4 d4 => ?_)
  have c4 : F4 k = .inr (3, [.ref q1, .int 0, .int 0]) := c4
  have e1 : r1 t = q1 := a1
  exact c_vret rfl dX3_init_22 ⟨rfl, (fun j h1 => ((b1 j (by omega)).trans rfl)), (fun j h1 h2 => ((d4 j (by omega)).trans ((d3 j (by omega)).trans ((d2 j (by omega)).trans ((d1 j (by omega)).trans rfl))))), by rw [e1]; exact c4, ((d4 _ (by omega)).trans ((d3 _ (by omega)).trans ((d2 _ (by omega)).trans c1)))⟩
theorem cc_Tape {h : Ht} {ρ : Nat → Nat} {t k b : Nat} {F : Nat → va_E} (hk : k < t) (hb : ρ k = b) (hF : F k = .inr (4, [.null, .int 0, .int 0, .int 0, .int 0, .int 0])) : CvM h mtX4_init { frames := 1, cells := 1, slots := 120, locals := 12 } 1 120 [.ref b] ρ t F (fun ρ' t' F' => t' = t + 1 ∧ (∀ j, j < t → ρ' j = ρ j) ∧ (∀ j, j < t → j ≠ k → F' j = F j) ∧ F' k = .inr (4, [.ref (ρ' t), .int 0, .int 3, .int 0, .int 0, .int 0]) ∧ F' t = .inl (h.2.2.1, 120, .inl (fun _ => 0))) := by
  refine cvm_of [some (.ref b)] 0 (by decide +kernel) (Nat.le_of_ble_eq_true rfl) rfl ?_
  refine c_aload_n dX4_init_0 rfl ?_
  refine c_objinit ⟨wl_RX4_3, wm_oi, wc_oi⟩ dX4_init_1 (Nat.le_of_ble_eq_true rfl) (Nat.le_of_ble_eq_true rfl) ?_
  refine c_aload_n dX4_init_4 rfl ?_
  refine c_bipush (120 : Int32) dX4_init_5 (by decide) ?_
  refine c_newa 120 w_arr (by decide) (by decide) (Nat.le_of_ble_eq_true rfl) (Nat.le_of_ble_eq_true rfl) (Nat.le_of_ble_eq_true rfl) dX4_init_7 (fun r1 F1 q1 a1 b1 c1 d1 => ?_)
  refine c_putF 4 ff_RX4_9 rfl rfl (by omega) ((b1 _ (by omega)).trans hb) ((d1 _ (by omega)).trans hF) (Nat.le_of_ble_eq_true rfl) rfl rfl dX4_init_9 (fun F2 c2 d2 => ?_)
  have c2 : F2 k = .inr (4, [.ref q1, .int 0, .int 0, .int 0, .int 0, .int 0]) := c2
  refine c_aload_n dX4_init_12 rfl ?_
  refine c_iconst (0 : Int32) dX4_init_13 (by decide) ?_
  refine c_put 4 fw_RX4_15 rfl (by omega) ((b1 _ (by omega)).trans hb) c2 (Nat.le_of_ble_eq_true rfl) (by decide +kernel) (by decide +kernel) dX4_init_14 (fun F3 c3 d3 => ?_)
  have c3 : F3 k = .inr (4, [.ref q1, .int 0, .int 0, .int 0, .int 0, .int 0]) := c3
  refine c_aload_n dX4_init_17 rfl ?_
  refine c_iconst (3 : Int32) dX4_init_18 (by decide) ?_
  refine c_put 4 fw_RX4_19 rfl (by omega) ((b1 _ (by omega)).trans hb) c3 (Nat.le_of_ble_eq_true rfl) (by decide +kernel) (by decide +kernel) dX4_init_19 (fun F4 c4 d4 => ?_)
  have c4 : F4 k = .inr (4, [.ref q1, .int 0, .int 3, .int 0, .int 0, .int 0]) := c4
  refine c_aload_n dX4_init_22 rfl ?_
  refine c_iconst (0 : Int32) dX4_init_23 (by decide) ?_
  refine c_put 4 fw_RX4_22 rfl (by omega) ((b1 _ (by omega)).trans hb) c4 (Nat.le_of_ble_eq_true rfl) (by decide +kernel) (by decide +kernel) dX4_init_24 (fun F5 c5 d5 => ?_)
  have c5 : F5 k = .inr (4, [.ref q1, .int 0, .int 3, .int 0, .int 0, .int 0]) := c5
  refine c_aload_n dX4_init_27 rfl ?_
  refine c_iconst (0 : Int32) dX4_init_28 (by decide) ?_
  refine c_put 4 fw_RX4_25 rfl (by omega) ((b1 _ (by omega)).trans hb) c5 (Nat.le_of_ble_eq_true rfl) (by decide +kernel) (by decide +kernel) dX4_init_29 (fun F6 c6 d6 => ?_)
  have c6 : F6 k = .inr (4, [.ref q1, .int 0, .int 3, .int 0, .int 0, .int 0]) := c6
  refine c_aload_n dX4_init_32 rfl ?_
  refine c_iconst (0 : Int32) dX4_init_33 (by decide) ?_
  refine c_put 4 fw_RX4_28 rfl (by omega) ((b1 _ (by omega)).trans hb) c6 (Nat.le_of_ble_eq_true rfl) (by decide +kernel) (by decide +kernel) dX4_init_34 (fun F7 c7 d7 => ?_)
  have c7 : F7 k = .inr (4, [.ref q1, .int 0, .int 3, .int 0, .int 0, .int 0]) := c7
  have e1 : r1 t = q1 := a1
  exact c_vret rfl dX4_init_37 ⟨rfl, (fun j h1 => ((b1 j (by omega)).trans rfl)), (fun j h1 h2 => ((d7 j (by omega)).trans ((d6 j (by omega)).trans ((d5 j (by omega)).trans ((d4 j (by omega)).trans ((d3 j (by omega)).trans ((d2 j (by omega)).trans ((d1 j (by omega)).trans rfl)))))))), by rw [e1]; exact c7, ((d7 _ (by omega)).trans ((d6 _ (by omega)).trans ((d5 _ (by omega)).trans ((d4 _ (by omega)).trans ((d3 _ (by omega)).trans ((d2 _ (by omega)).trans c1))))))⟩
theorem pl_loop {h : Ht} {ρ : Nat → Nat} {t k pm b q : Nat} {rm : Room} {mc ms c0 s0 : Nat} {Q : (Nat → Nat) → Nat → (Nat → va_E) → Prop} {fs : List Value} (hk : k < t) (hpm : pm < t) (hne : k ≠ pm) (hb : ρ k = b) (hq : ρ pm = q) (hfs : fs[11]? = some (.ref q)) : ∀ (n i : Nat) (F : Nat → va_E) (f : Nat → Int32), i + n = 2048 → F k = .inr (0, fs) → F pm = .inl (h.2.2.1, 2048, .inl f) → (∀ j, j < i → f j = -1) → (∀ (F' : Nat → va_E) (f' : Nat → Int32), F' pm = .inl (h.2.2.1, 2048, .inl f') → (∀ j, j < 2048 → f' j = -1) → (∀ j, j ≠ pm → F' j = F j) → Cv h mtX0_init rm mc ms c0 s0 117 [some (.ref b), some (.int (nI 2048))] [] ρ t F' Q) → Cv h mtX0_init rm mc ms c0 s0 97 [some (.ref b), some (.int (nI i))] [] ρ t F Q := by
  intro n
  induction n with
  | zero =>
    intro i F f hi hF hP hf kk
    have e : i = 2048 := by omega
    subst e
    refine c_iload_n dX0_init_97 rfl ?_
    refine c_sipush (2048 : Int32) dX0_init_98 (by decide) ?_
    refine c_icmp_ge 117 dX0_init_101 (by decide) (fun _ => ?_) (fun z => absurd (by decide) z)
    exact kk F f hP hf (fun _ _ => rfl)
  | succ n ih =>
    intro i F f hi hF hP hf kk
    have hlt : i < 2048 := by omega
    refine c_iload_n dX0_init_97 rfl ?_
    refine c_sipush (2048 : Int32) dX0_init_98 (by decide) ?_
    refine c_icmp_ge 117 dX0_init_101 (by decide) (fun z => absurd z (nI_ge (b := 2048) hlt (by decide))) (fun _ => ?_)
    refine c_aload_n dX0_init_104 rfl ?_
    refine c_getR 6 9 fa_RX0_46 rfl hk hb hF hfs dX0_init_105 ?_
    refine c_iload_n dX0_init_108 rfl ?_
    refine c_iconst (-1 : Int32) dX0_init_109 (by decide) ?_
    refine c_iast hpm hq hP (vp_in_nI hlt (by decide)) dX0_init_110 (fun F1 c1 d1 => ?_)
    refine c_iinc (nI (i + 1)) dX0_init_111 rfl (nI_1 i) (by decide) rfl ?_
    refine c_goto 97 dX0_init_114 (by decide) ?_
    rw [nI_clamp (by omega)] at c1
    refine ih (i + 1) F1 _ (by omega) ((d1 k hne).trans hF) c1 (fun j hj => ?_) (fun F2 f2 g1 g2 g3 => kk F2 f2 g1 g2 (fun j hj => (g3 j hj).trans (d1 j hj)))
    by_cases e : j = i
    · subst e
      simp [upd]
    · simp [upd, e, hf j (by omega)]
theorem cc_Planner {h : Ht} {ρ : Nat → Nat} {t k b : Nat} {F : Nat → va_E} (hk : k < t) (hb : ρ k = b) (hF : F k = .inr (0, [.null, .int 0, .int 0, .int 0, .int 0, .int 0, .null, .null, .null, .null, .null, .null, .null])) : CvM h mtX0_init { frames := 1, cells := 8, slots := 4238, locals := 12 } 8 4238 [.ref b] ρ t F (fun ρ' t' F' => t' = t + 8 ∧ (∀ j, j < t → ρ' j = ρ j) ∧ (∀ j, j < t → j ≠ k → F' j = F j) ∧ F' k = .inr (0, [.ref (ρ' t), .int 0, .int 0, .int 0, .int 1, .int 0, .ref (ρ' (t + 1)), .ref (ρ' (t + 2)), .ref (ρ' (t + 3)), .ref (ρ' (t + 4)), .ref (ρ' (t + 5)), .ref (ρ' (t + 6)), .ref (ρ' (t + 7))]) ∧ F' t = .inl (h.2.2.1, 8, .inl (fun _ => 0)) ∧ F' (t + 1) = .inl (h.2.2.1, 10, .inl (fun _ => 0)) ∧ F' (t + 2) = .inl (h.2.2.1, 100, .inl (fun _ => 0)) ∧ F' (t + 3) = .inl (h.2.2.1, 8, .inl (fun _ => 0)) ∧ F' (t + 4) = .inl (h.2.2.1, 8, .inl (fun _ => 0)) ∧ F' (t + 5) = .inl (h.2.2.1, 8, .inl (fun _ => 0)) ∧ (∃ f, F' (t + 6) = .inl (h.2.2.1, 2048, .inl f) ∧ ∀ j, j < 2048 → f j = -1) ∧ F' (t + 7) = .inl (h.2.2.1, 2048, .inl (fun _ => 0))) := by
  refine cvm_of [some (.ref b), none] 1 (by decide +kernel) (Nat.le_of_ble_eq_true rfl) rfl ?_
  refine c_aload_n dX0_init_0 rfl ?_
  refine c_objinit ⟨wl_RX0_3, wm_oi, wc_oi⟩ dX0_init_1 (Nat.le_of_ble_eq_true rfl) (Nat.le_of_ble_eq_true rfl) ?_
  refine c_aload_n dX0_init_4 rfl ?_
  refine c_bipush (8 : Int32) dX0_init_5 (by decide) ?_
  refine c_newa 8 w_arr (by decide) (by decide) (Nat.le_of_ble_eq_true rfl) (Nat.le_of_ble_eq_true rfl) (Nat.le_of_ble_eq_true rfl) dX0_init_7 (fun r1 F1 q1 a1 b1 c1 d1 => ?_)
  refine c_putF 6 ff_RX0_9 rfl rfl (by omega) ((b1 _ (by omega)).trans hb) ((d1 _ (by omega)).trans hF) (Nat.le_of_ble_eq_true rfl) rfl rfl dX0_init_9 (fun F2 c2 d2 => ?_)
  have c2 : F2 k = .inr (0, [.ref q1, .int 0, .int 0, .int 0, .int 0, .int 0, .null, .null, .null, .null, .null, .null, .null]) := c2
  refine c_aload_n dX0_init_12 rfl ?_
  refine c_iconst (0 : Int32) dX0_init_13 (by decide) ?_
  refine c_put 6 fw_RX0_15 rfl (by omega) ((b1 _ (by omega)).trans hb) c2 (Nat.le_of_ble_eq_true rfl) (by decide +kernel) (by decide +kernel) dX0_init_14 (fun F3 c3 d3 => ?_)
  have c3 : F3 k = .inr (0, [.ref q1, .int 0, .int 0, .int 0, .int 0, .int 0, .null, .null, .null, .null, .null, .null, .null]) := c3
  refine c_aload_n dX0_init_17 rfl ?_
  refine c_iconst (0 : Int32) dX0_init_18 (by decide) ?_
  refine c_put 6 fw_RX0_19 rfl (by omega) ((b1 _ (by omega)).trans hb) c3 (Nat.le_of_ble_eq_true rfl) (by decide +kernel) (by decide +kernel) dX0_init_19 (fun F4 c4 d4 => ?_)
  have c4 : F4 k = .inr (0, [.ref q1, .int 0, .int 0, .int 0, .int 0, .int 0, .null, .null, .null, .null, .null, .null, .null]) := c4
  refine c_aload_n dX0_init_22 rfl ?_
  refine c_iconst (0 : Int32) dX0_init_23 (by decide) ?_
  refine c_put 6 fw_RX0_22 rfl (by omega) ((b1 _ (by omega)).trans hb) c4 (Nat.le_of_ble_eq_true rfl) (by decide +kernel) (by decide +kernel) dX0_init_24 (fun F5 c5 d5 => ?_)
  have c5 : F5 k = .inr (0, [.ref q1, .int 0, .int 0, .int 0, .int 0, .int 0, .null, .null, .null, .null, .null, .null, .null]) := c5
  refine c_aload_n dX0_init_27 rfl ?_
  refine c_iconst (1 : Int32) dX0_init_28 (by decide) ?_
  refine c_put 6 fw_RX0_25 rfl (by omega) ((b1 _ (by omega)).trans hb) c5 (Nat.le_of_ble_eq_true rfl) (by decide +kernel) (by decide +kernel) dX0_init_29 (fun F6 c6 d6 => ?_)
  have c6 : F6 k = .inr (0, [.ref q1, .int 0, .int 0, .int 0, .int 1, .int 0, .null, .null, .null, .null, .null, .null, .null]) := c6
  refine c_aload_n dX0_init_32 rfl ?_
  refine c_iconst (0 : Int32) dX0_init_33 (by decide) ?_
  refine c_put 6 fw_RX0_28 rfl (by omega) ((b1 _ (by omega)).trans hb) c6 (Nat.le_of_ble_eq_true rfl) (by decide +kernel) (by decide +kernel) dX0_init_34 (fun F7 c7 d7 => ?_)
  have c7 : F7 k = .inr (0, [.ref q1, .int 0, .int 0, .int 0, .int 1, .int 0, .null, .null, .null, .null, .null, .null, .null]) := c7
  refine c_aload_n dX0_init_37 rfl ?_
  refine c_bipush (10 : Int32) dX0_init_38 (by decide) ?_
  refine c_newa 10 w_arr (by decide) (by decide) (Nat.le_of_ble_eq_true rfl) (Nat.le_of_ble_eq_true rfl) (Nat.le_of_ble_eq_true rfl) dX0_init_40 (fun r8 F8 q8 a8 b8 c8 d8 => ?_)
  refine c_putF 6 ff_RX0_31 rfl rfl (by omega) ((b8 _ (by omega)).trans ((b1 _ (by omega)).trans hb)) ((d8 _ (by omega)).trans c7) (Nat.le_of_ble_eq_true rfl) rfl rfl dX0_init_42 (fun F9 c9 d9 => ?_)
  have c9 : F9 k = .inr (0, [.ref q1, .int 0, .int 0, .int 0, .int 1, .int 0, .ref q8, .null, .null, .null, .null, .null, .null]) := c9
  refine c_aload_n dX0_init_45 rfl ?_
  refine c_bipush (100 : Int32) dX0_init_46 (by decide) ?_
  refine c_newa 100 w_arr (by decide) (by decide) (Nat.le_of_ble_eq_true rfl) (Nat.le_of_ble_eq_true rfl) (Nat.le_of_ble_eq_true rfl) dX0_init_48 (fun r10 F10 q10 a10 b10 c10 d10 => ?_)
  refine c_putF 6 ff_RX0_34 rfl rfl (by omega) ((b10 _ (by omega)).trans ((b8 _ (by omega)).trans ((b1 _ (by omega)).trans hb))) ((d10 _ (by omega)).trans c9) (Nat.le_of_ble_eq_true rfl) rfl rfl dX0_init_50 (fun F11 c11 d11 => ?_)
  have c11 : F11 k = .inr (0, [.ref q1, .int 0, .int 0, .int 0, .int 1, .int 0, .ref q8, .ref q10, .null, .null, .null, .null, .null]) := c11
  refine c_aload_n dX0_init_53 rfl ?_
  refine c_bipush (8 : Int32) dX0_init_54 (by decide) ?_
  refine c_newa 8 w_arr (by decide) (by decide) (Nat.le_of_ble_eq_true rfl) (Nat.le_of_ble_eq_true rfl) (Nat.le_of_ble_eq_true rfl) dX0_init_56 (fun r12 F12 q12 a12 b12 c12 d12 => ?_)
  refine c_putF 6 ff_RX0_37 rfl rfl (by omega) ((b12 _ (by omega)).trans ((b10 _ (by omega)).trans ((b8 _ (by omega)).trans ((b1 _ (by omega)).trans hb)))) ((d12 _ (by omega)).trans c11) (Nat.le_of_ble_eq_true rfl) rfl rfl dX0_init_58 (fun F13 c13 d13 => ?_)
  have c13 : F13 k = .inr (0, [.ref q1, .int 0, .int 0, .int 0, .int 1, .int 0, .ref q8, .ref q10, .ref q12, .null, .null, .null, .null]) := c13
  refine c_aload_n dX0_init_61 rfl ?_
  refine c_bipush (8 : Int32) dX0_init_62 (by decide) ?_
  refine c_newa 8 w_arr (by decide) (by decide) (Nat.le_of_ble_eq_true rfl) (Nat.le_of_ble_eq_true rfl) (Nat.le_of_ble_eq_true rfl) dX0_init_64 (fun r14 F14 q14 a14 b14 c14 d14 => ?_)
  refine c_putF 6 ff_RX0_40 rfl rfl (by omega) ((b14 _ (by omega)).trans ((b12 _ (by omega)).trans ((b10 _ (by omega)).trans ((b8 _ (by omega)).trans ((b1 _ (by omega)).trans hb))))) ((d14 _ (by omega)).trans c13) (Nat.le_of_ble_eq_true rfl) rfl rfl dX0_init_66 (fun F15 c15 d15 => ?_)
  have c15 : F15 k = .inr (0, [.ref q1, .int 0, .int 0, .int 0, .int 1, .int 0, .ref q8, .ref q10, .ref q12, .ref q14, .null, .null, .null]) := c15
  refine c_aload_n dX0_init_69 rfl ?_
  refine c_bipush (8 : Int32) dX0_init_70 (by decide) ?_
  refine c_newa 8 w_arr (by decide) (by decide) (Nat.le_of_ble_eq_true rfl) (Nat.le_of_ble_eq_true rfl) (Nat.le_of_ble_eq_true rfl) dX0_init_72 (fun r16 F16 q16 a16 b16 c16 d16 => ?_)
  refine c_putF 6 ff_RX0_43 rfl rfl (by omega) ((b16 _ (by omega)).trans ((b14 _ (by omega)).trans ((b12 _ (by omega)).trans ((b10 _ (by omega)).trans ((b8 _ (by omega)).trans ((b1 _ (by omega)).trans hb)))))) ((d16 _ (by omega)).trans c15) (Nat.le_of_ble_eq_true rfl) rfl rfl dX0_init_74 (fun F17 c17 d17 => ?_)
  have c17 : F17 k = .inr (0, [.ref q1, .int 0, .int 0, .int 0, .int 1, .int 0, .ref q8, .ref q10, .ref q12, .ref q14, .ref q16, .null, .null]) := c17
  refine c_aload_n dX0_init_77 rfl ?_
  refine c_sipush (2048 : Int32) dX0_init_78 (by decide) ?_
  refine c_newa 2048 w_arr (by decide) (by decide) (Nat.le_of_ble_eq_true rfl) (Nat.le_of_ble_eq_true rfl) (Nat.le_of_ble_eq_true rfl) dX0_init_81 (fun r18 F18 q18 a18 b18 c18 d18 => ?_)
  refine c_putF 6 ff_RX0_46 rfl rfl (by omega) ((b18 _ (by omega)).trans ((b16 _ (by omega)).trans ((b14 _ (by omega)).trans ((b12 _ (by omega)).trans ((b10 _ (by omega)).trans ((b8 _ (by omega)).trans ((b1 _ (by omega)).trans hb))))))) ((d18 _ (by omega)).trans c17) (Nat.le_of_ble_eq_true rfl) rfl rfl dX0_init_83 (fun F19 c19 d19 => ?_)
  have c19 : F19 k = .inr (0, [.ref q1, .int 0, .int 0, .int 0, .int 1, .int 0, .ref q8, .ref q10, .ref q12, .ref q14, .ref q16, .ref q18, .null]) := c19
  refine c_aload_n dX0_init_86 rfl ?_
  refine c_sipush (2048 : Int32) dX0_init_87 (by decide) ?_
  refine c_newa 2048 w_arr (by decide) (by decide) (Nat.le_of_ble_eq_true rfl) (Nat.le_of_ble_eq_true rfl) (Nat.le_of_ble_eq_true rfl) dX0_init_90 (fun r20 F20 q20 a20 b20 c20 d20 => ?_)
  refine c_putF 6 ff_RX0_49 rfl rfl (by omega) ((b20 _ (by omega)).trans ((b18 _ (by omega)).trans ((b16 _ (by omega)).trans ((b14 _ (by omega)).trans ((b12 _ (by omega)).trans ((b10 _ (by omega)).trans ((b8 _ (by omega)).trans ((b1 _ (by omega)).trans hb)))))))) ((d20 _ (by omega)).trans c19) (Nat.le_of_ble_eq_true rfl) rfl rfl dX0_init_92 (fun F21 c21 d21 => ?_)
  have c21 : F21 k = .inr (0, [.ref q1, .int 0, .int 0, .int 0, .int 1, .int 0, .ref q8, .ref q10, .ref q12, .ref q14, .ref q16, .ref q18, .ref q20]) := c21
  refine c_iconst (0 : Int32) dX0_init_95 (by decide) ?_
  refine c_istore_n dX0_init_96 (by decide) rfl ?_
  have e0 : r20 (t + 0) = q1 := ((b20 _ (by omega)).trans ((b18 _ (by omega)).trans ((b16 _ (by omega)).trans ((b14 _ (by omega)).trans ((b12 _ (by omega)).trans ((b10 _ (by omega)).trans ((b8 _ (by omega)).trans a1)))))))
  have e1 : r20 (t + 1) = q8 := ((b20 _ (by omega)).trans ((b18 _ (by omega)).trans ((b16 _ (by omega)).trans ((b14 _ (by omega)).trans ((b12 _ (by omega)).trans ((b10 _ (by omega)).trans a8))))))
  have e2 : r20 (t + 2) = q10 := ((b20 _ (by omega)).trans ((b18 _ (by omega)).trans ((b16 _ (by omega)).trans ((b14 _ (by omega)).trans ((b12 _ (by omega)).trans a10)))))
  have e3 : r20 (t + 3) = q12 := ((b20 _ (by omega)).trans ((b18 _ (by omega)).trans ((b16 _ (by omega)).trans ((b14 _ (by omega)).trans a12))))
  have e4 : r20 (t + 4) = q14 := ((b20 _ (by omega)).trans ((b18 _ (by omega)).trans ((b16 _ (by omega)).trans a14)))
  have e5 : r20 (t + 5) = q16 := ((b20 _ (by omega)).trans ((b18 _ (by omega)).trans a16))
  have e6 : r20 (t + 6) = q18 := ((b20 _ (by omega)).trans a18)
  have e7 : r20 (t + 7) = q20 := a20
  refine pl_loop (k := k) (pm := t + 6) (by omega) (by omega) (by omega) ((b20 _ (by omega)).trans ((b18 _ (by omega)).trans ((b16 _ (by omega)).trans ((b14 _ (by omega)).trans ((b12 _ (by omega)).trans ((b10 _ (by omega)).trans ((b8 _ (by omega)).trans ((b1 _ (by omega)).trans hb)))))))) e6 rfl 2048 0 _ _ rfl c21 ((d21 _ (by omega)).trans ((d20 _ (by omega)).trans ((d19 _ (by omega)).trans c18))) (fun j hj => absurd hj (Nat.not_lt_zero j)) (fun F9 f9 g1 g2 g3 => ?_)
  have kf : ∀ j, j < t → j ≠ k → F21 j = F j := (fun j h1 h2 => ((d21 j (by omega)).trans ((d20 j (by omega)).trans ((d19 j (by omega)).trans ((d18 j (by omega)).trans ((d17 j (by omega)).trans ((d16 j (by omega)).trans ((d15 j (by omega)).trans ((d14 j (by omega)).trans ((d13 j (by omega)).trans ((d12 j (by omega)).trans ((d11 j (by omega)).trans ((d10 j (by omega)).trans ((d9 j (by omega)).trans ((d8 j (by omega)).trans ((d7 j (by omega)).trans ((d6 j (by omega)).trans ((d5 j (by omega)).trans ((d4 j (by omega)).trans ((d3 j (by omega)).trans ((d2 j (by omega)).trans ((d1 j (by omega)).trans rfl))))))))))))))))))))))
  refine c_vret rfl dX0_init_117 ⟨rfl, (fun j h1 => ((b20 j (by omega)).trans ((b18 j (by omega)).trans ((b16 j (by omega)).trans ((b14 j (by omega)).trans ((b12 j (by omega)).trans ((b10 j (by omega)).trans ((b8 j (by omega)).trans ((b1 j (by omega)).trans rfl))))))))), fun j h1 h2 => (g3 j (by omega)).trans (kf j h1 h2), ?_, (g3 _ (by omega)).trans ((d21 _ (by omega)).trans ((d20 _ (by omega)).trans ((d19 _ (by omega)).trans ((d18 _ (by omega)).trans ((d17 _ (by omega)).trans ((d16 _ (by omega)).trans ((d15 _ (by omega)).trans ((d14 _ (by omega)).trans ((d13 _ (by omega)).trans ((d12 _ (by omega)).trans ((d11 _ (by omega)).trans ((d10 _ (by omega)).trans ((d9 _ (by omega)).trans ((d8 _ (by omega)).trans ((d7 _ (by omega)).trans ((d6 _ (by omega)).trans ((d5 _ (by omega)).trans ((d4 _ (by omega)).trans ((d3 _ (by omega)).trans ((d2 _ (by omega)).trans c1)))))))))))))))))))), (g3 _ (by omega)).trans ((d21 _ (by omega)).trans ((d20 _ (by omega)).trans ((d19 _ (by omega)).trans ((d18 _ (by omega)).trans ((d17 _ (by omega)).trans ((d16 _ (by omega)).trans ((d15 _ (by omega)).trans ((d14 _ (by omega)).trans ((d13 _ (by omega)).trans ((d12 _ (by omega)).trans ((d11 _ (by omega)).trans ((d10 _ (by omega)).trans ((d9 _ (by omega)).trans c8))))))))))))), (g3 _ (by omega)).trans ((d21 _ (by omega)).trans ((d20 _ (by omega)).trans ((d19 _ (by omega)).trans ((d18 _ (by omega)).trans ((d17 _ (by omega)).trans ((d16 _ (by omega)).trans ((d15 _ (by omega)).trans ((d14 _ (by omega)).trans ((d13 _ (by omega)).trans ((d12 _ (by omega)).trans ((d11 _ (by omega)).trans c10))))))))))), (g3 _ (by omega)).trans ((d21 _ (by omega)).trans ((d20 _ (by omega)).trans ((d19 _ (by omega)).trans ((d18 _ (by omega)).trans ((d17 _ (by omega)).trans ((d16 _ (by omega)).trans ((d15 _ (by omega)).trans ((d14 _ (by omega)).trans ((d13 _ (by omega)).trans c12))))))))), (g3 _ (by omega)).trans ((d21 _ (by omega)).trans ((d20 _ (by omega)).trans ((d19 _ (by omega)).trans ((d18 _ (by omega)).trans ((d17 _ (by omega)).trans ((d16 _ (by omega)).trans ((d15 _ (by omega)).trans c14))))))), (g3 _ (by omega)).trans ((d21 _ (by omega)).trans ((d20 _ (by omega)).trans ((d19 _ (by omega)).trans ((d18 _ (by omega)).trans ((d17 _ (by omega)).trans c16))))), ⟨f9, g1, g2⟩, (g3 _ (by omega)).trans ((d21 _ (by omega)).trans c20)⟩
  rw [show r20 t = _ from e0, e1, e2, e3, e4, e5, e6, e7]
  exact (g3 k (by omega)).trans c21
theorem rp_loop {h : Ht} {t k b q : Nat} {Q : (Nat → Nat) → Nat → (Nat → va_E) → Prop} {fs : List Value} {F0 : Nat → va_E} {ρ0 : Nat → Nat} (hk : k < t) (hb : ρ0 k = b) (hq : ρ0 t = q) (hfs : fs[0]? = some (.ref q)) : ∀ (n i : Nat) (ρ : Nat → Nat) (F : Nat → va_E) (f : Nat → Option Nat), i + n = 8 → (∀ j, j < t + 2 → ρ j = ρ0 j) → F k = .inr (2, fs) → F t = .inl (h.2.2.2.1, 8, .inr (.inr (.inr (.inr f)))) → (∀ j, j < t + 2 → j ≠ t → F j = F0 j) → (∀ j, j < i → f j = some (ρ (t + 2 + j)) ∧ F (t + 2 + j) = .inr (1, [.int 0, .int 0, .int 0, .int 0, .int 0, .int 0])) → (∀ (ρ' : Nat → Nat) (F' : Nat → va_E) (f' : Nat → Option Nat), (∀ j, j < t + 2 → ρ' j = ρ0 j) → F' t = .inl (h.2.2.2.1, 8, .inr (.inr (.inr (.inr f')))) → (∀ j, j < t + 2 → j ≠ t → F' j = F0 j) → (∀ j, j < 8 → f' j = some (ρ' (t + 2 + j)) ∧ F' (t + 2 + j) = .inr (1, [.int 0, .int 0, .int 0, .int 0, .int 0, .int 0])) → Cv h mtX2_init { frames := 2, cells := 10, slots := 66, locals := 32 } 10 66 10 66 109 [some (.ref b), some (.int (nI 8))] [] ρ' (t + 10) F' Q) → Cv h mtX2_init { frames := 2, cells := 10, slots := 66, locals := 32 } 10 66 (2 + i) (18 + 6 * i) 84 [some (.ref b), some (.int (nI i))] [] ρ (t + 2 + i) F Q := by
  intro n
  induction n with
  | zero =>
    intro i ρ F f hi hr hF hP ho hf kk
    have e : i = 8 := by omega
    subst e
    refine c_iload_n dX2_init_84 rfl ?_
    refine c_bipush (8 : Int32) dX2_init_85 (by decide) ?_
    refine c_icmp_ge 109 dX2_init_87 (by decide) (fun _ => ?_) (fun z => absurd (by decide) z)
    exact kk ρ F f hr hP ho hf
  | succ n ih =>
    intro i ρ F f hi hr hF hP ho hf kk
    have hlt : i < 8 := by omega
    refine c_iload_n dX2_init_84 rfl ?_
    refine c_bipush (8 : Int32) dX2_init_85 (by decide) ?_
    refine c_icmp_ge 109 dX2_init_87 (by decide) (fun z => absurd z (nI_ge (b := 8) hlt (by decide))) (fun _ => ?_)
    refine c_aload_n dX2_init_90 rfl ?_
    refine c_getR 2 3 fa_RX2_11 rfl (by omega) ((hr k (by omega)).trans hb) hF hfs dX2_init_91 ?_
    refine c_iload_n dX2_init_94 rfl ?_
    refine c_new nw_RX2_9 (by show 2 + i + 1 ≤ 10; omega) (by show 18 + 6 * i + 6 ≤ 66; omega) dX2_init_95 (fun r1 F1 q1 a1 b1 c1 d1 => ?_)
    refine c_dup dX2_init_98 ?_
    refine c_callN (S := [.ref q1, .int (nI i), .ref q]) cin_RX2_58 ⟨Nat.le_of_ble_eq_true rfl, Nat.le_of_ble_eq_true rfl⟩ rfl rfl ⟨by show 2 + i + 1 + 0 ≤ 10; omega, by show 18 + 6 * i + 6 + 0 ≤ 66; omega⟩ (Nat.le_of_ble_eq_true rfl) dX2_init_99 cc_Pump (fun r2 t2 F2 z => ?_)
    obtain ⟨rfl, rfl, rfl⟩ := z
    refine c_aastP (k := t) (k2 := t + 2 + i) (by omega) ((b1 t (by omega)).trans ((hr t (by omega)).trans hq)) ((d1 t (by omega)).trans hP) (by omega) a1 c1 (vp_in_nI hlt (by decide)) dX2_init_102 (fun F3 c3 d3 => ?_)
    refine c_iinc (nI (i + 1)) dX2_init_103 rfl (nI_1 i) (by decide) rfl ?_
    refine c_goto 84 dX2_init_106 (by decide) ?_
    rw [nI_clamp (by omega)] at c3
    refine ih (i + 1) r2 F3 _ (by omega) (fun j hj => (b1 j (by omega)).trans (hr j hj)) ((d3 k (by omega)).trans ((d1 k (by omega)).trans hF)) c3 (fun j h1 h2 => (d3 j h2).trans ((d1 j (by omega)).trans (ho j h1 h2))) (fun j hj => ?_) kk
    by_cases e : j = i
    · subst e
      exact ⟨by rw [up_self, a1], (d3 _ (by omega)).trans c1⟩
    · obtain ⟨g1, g2⟩ := hf j (by omega)
      refine ⟨?_, (d3 _ (by omega)).trans ((d1 _ (by omega)).trans g2)⟩
      rw [up_ne e, g1, b1 _ (by omega)]
theorem rs_loop {h : Ht} {ρ : Nat → Nat} {t k pm b q : Nat} {rm : Room} {mc ms c0 s0 : Nat} {Q : (Nat → Nat) → Nat → (Nat → va_E) → Prop} {fs : List Value} (hk : k < t) (hpm : pm < t) (hne : k ≠ pm) (hb : ρ k = b) (hq : ρ pm = q) (hfs : fs[1]? = some (.ref q)) : ∀ (n i : Nat) (F : Nat → va_E) (f : Nat → Int32), i + n = 10 → F k = .inr (2, fs) → F pm = .inl (h.2.2.1, 10, .inl f) → (∀ j, j < i → f j = -1) → (∀ (F' : Nat → va_E) (f' : Nat → Int32), F' pm = .inl (h.2.2.1, 10, .inl f') → (∀ j, j < 10 → f' j = -1) → (∀ j, j ≠ pm → F' j = F j) → Cv h mtX2_init rm mc ms c0 s0 130 [some (.ref b), some (.int (nI 10))] [] ρ t F' Q) → Cv h mtX2_init rm mc ms c0 s0 111 [some (.ref b), some (.int (nI i))] [] ρ t F Q := by
  intro n
  induction n with
  | zero =>
    intro i F f hi hF hP hf kk
    have e : i = 10 := by omega
    subst e
    refine c_iload_n dX2_init_111 rfl ?_
    refine c_bipush (10 : Int32) dX2_init_112 (by decide) ?_
    refine c_icmp_ge 130 dX2_init_114 (by decide) (fun _ => ?_) (fun z => absurd (by decide) z)
    exact kk F f hP hf (fun _ _ => rfl)
  | succ n ih =>
    intro i F f hi hF hP hf kk
    have hlt : i < 10 := by omega
    refine c_iload_n dX2_init_111 rfl ?_
    refine c_bipush (10 : Int32) dX2_init_112 (by decide) ?_
    refine c_icmp_ge 130 dX2_init_114 (by decide) (fun z => absurd z (nI_ge (b := 10) hlt (by decide))) (fun _ => ?_)
    refine c_aload_n dX2_init_117 rfl ?_
    refine c_getR 2 4 fa_RX2_17 rfl hk hb hF hfs dX2_init_118 ?_
    refine c_iload_n dX2_init_121 rfl ?_
    refine c_iconst (-1 : Int32) dX2_init_122 (by decide) ?_
    refine c_iast hpm hq hP (vp_in_nI hlt (by decide)) dX2_init_123 (fun F1 c1 d1 => ?_)
    refine c_iinc (nI (i + 1)) dX2_init_124 rfl (nI_1 i) (by decide) rfl ?_
    refine c_goto 111 dX2_init_127 (by decide) ?_
    rw [nI_clamp (by omega)] at c1
    refine ih (i + 1) F1 _ (by omega) ((d1 k hne).trans hF) c1 (fun j hj => ?_) (fun F2 f2 g1 g2 g3 => kk F2 f2 g1 g2 (fun j hj => (g3 j hj).trans (d1 j hj)))
    by_cases e : j = i
    · subst e
      simp [upd]
    · simp [upd, e, hf j (by omega)]
def RoadQ (h : Ht) (ρ : Nat → Nat) (t k : Nat) (F : Nat → va_E) (ρ' : Nat → Nat) (t' : Nat) (F' : Nat → va_E) : Prop := t' = t + 10 ∧ (∀ j, j < t → ρ' j = ρ j) ∧ (∀ j, j < t → j ≠ k → F' j = F j) ∧ F' k = .inr (2, [.ref (ρ' t), .ref (ρ' (t + 1)), .int 0, .int 0, .int 0, .int 0, .int 40, .int 5, .int 0, .int 0, .int 0, .int 0, .int 0, .int 1]) ∧ (∃ f, F' t = .inl (h.2.2.2.1, 8, .inr (.inr (.inr (.inr f)))) ∧ ∀ j, j < 8 → f j = some (ρ' (t + 2 + j))) ∧ (∃ f, F' (t + 1) = .inl (h.2.2.1, 10, .inl f) ∧ ∀ j, j < 10 → f j = -1) ∧ ∀ j, j < 8 → F' (t + 2 + j) = .inr (1, [.int 0, .int 0, .int 0, .int 0, .int 0, .int 0])
theorem cc_Road {h : Ht} {ρ : Nat → Nat} {t k b : Nat} {F : Nat → va_E} (hk : k < t) (hb : ρ k = b) (hF : F k = .inr (2, [.null, .null, .int 0, .int 0, .int 0, .int 0, .int 0, .int 0, .int 0, .int 0, .int 0, .int 0, .int 0, .int 0])) : CvM h mtX2_init { frames := 2, cells := 10, slots := 66, locals := 32 } 10 66 [.ref b] ρ t F (RoadQ h ρ t k F) := by
  refine cvm_of [some (.ref b), none] 1 (by decide +kernel) (Nat.le_of_ble_eq_true rfl) rfl ?_
  refine c_aload_n dX2_init_0 rfl ?_
  refine c_objinit ⟨wl_RX2_3, wm_oi, wc_oi⟩ dX2_init_1 (Nat.le_of_ble_eq_true rfl) (Nat.le_of_ble_eq_true rfl) ?_
  refine c_aload_n dX2_init_4 rfl ?_
  refine c_bipush (8 : Int32) dX2_init_5 (by decide) ?_
  refine c_anewP 8 wcl_RX2_9 (by decide) (by decide) (Nat.le_of_ble_eq_true rfl) (Nat.le_of_ble_eq_true rfl) (Nat.le_of_ble_eq_true rfl) dX2_init_7 (fun r1 F1 q1 a1 b1 c1 d1 => ?_)
  refine c_putF 2 ff_RX2_11 rfl rfl (by omega) ((b1 _ (by omega)).trans hb) ((d1 _ (by omega)).trans hF) (Nat.le_of_ble_eq_true rfl) rfl rfl dX2_init_10 (fun F2 c2 d2 => ?_)
  have c2 : F2 k = .inr (2, [.ref q1, .null, .int 0, .int 0, .int 0, .int 0, .int 0, .int 0, .int 0, .int 0, .int 0, .int 0, .int 0, .int 0]) := c2
  refine c_aload_n dX2_init_13 rfl ?_
  refine c_bipush (10 : Int32) dX2_init_14 (by decide) ?_
  refine c_newa 10 w_arr (by decide) (by decide) (Nat.le_of_ble_eq_true rfl) (Nat.le_of_ble_eq_true rfl) (Nat.le_of_ble_eq_true rfl) dX2_init_16 (fun r3 F3 q3 a3 b3 c3 d3 => ?_)
  refine c_putF 2 ff_RX2_17 rfl rfl (by omega) ((b3 _ (by omega)).trans ((b1 _ (by omega)).trans hb)) ((d3 _ (by omega)).trans c2) (Nat.le_of_ble_eq_true rfl) rfl rfl dX2_init_18 (fun F4 c4 d4 => ?_)
  have c4 : F4 k = .inr (2, [.ref q1, .ref q3, .int 0, .int 0, .int 0, .int 0, .int 0, .int 0, .int 0, .int 0, .int 0, .int 0, .int 0, .int 0]) := c4
  refine c_aload_n dX2_init_21 rfl ?_
  refine c_iconst (0 : Int32) dX2_init_22 (by decide) ?_
  refine c_put 2 fw_RX2_21 rfl (by omega) ((b3 _ (by omega)).trans ((b1 _ (by omega)).trans hb)) c4 (Nat.le_of_ble_eq_true rfl) (by decide +kernel) (by decide +kernel) dX2_init_23 (fun F5 c5 d5 => ?_)
  have c5 : F5 k = .inr (2, [.ref q1, .ref q3, .int 0, .int 0, .int 0, .int 0, .int 0, .int 0, .int 0, .int 0, .int 0, .int 0, .int 0, .int 0]) := c5
  refine c_aload_n dX2_init_26 rfl ?_
  refine c_iconst (0 : Int32) dX2_init_27 (by decide) ?_
  refine c_put 2 fw_RX2_25 rfl (by omega) ((b3 _ (by omega)).trans ((b1 _ (by omega)).trans hb)) c5 (Nat.le_of_ble_eq_true rfl) (by decide +kernel) (by decide +kernel) dX2_init_28 (fun F6 c6 d6 => ?_)
  have c6 : F6 k = .inr (2, [.ref q1, .ref q3, .int 0, .int 0, .int 0, .int 0, .int 0, .int 0, .int 0, .int 0, .int 0, .int 0, .int 0, .int 0]) := c6
  refine c_aload_n dX2_init_31 rfl ?_
  refine c_iconst (0 : Int32) dX2_init_32 (by decide) ?_
  refine c_put 2 fw_RX2_28 rfl (by omega) ((b3 _ (by omega)).trans ((b1 _ (by omega)).trans hb)) c6 (Nat.le_of_ble_eq_true rfl) (by decide +kernel) (by decide +kernel) dX2_init_33 (fun F7 c7 d7 => ?_)
  have c7 : F7 k = .inr (2, [.ref q1, .ref q3, .int 0, .int 0, .int 0, .int 0, .int 0, .int 0, .int 0, .int 0, .int 0, .int 0, .int 0, .int 0]) := c7
  refine c_aload_n dX2_init_36 rfl ?_
  refine c_iconst (0 : Int32) dX2_init_37 (by decide) ?_
  refine c_put 2 fw_RX2_31 rfl (by omega) ((b3 _ (by omega)).trans ((b1 _ (by omega)).trans hb)) c7 (Nat.le_of_ble_eq_true rfl) (by decide +kernel) (by decide +kernel) dX2_init_38 (fun F8 c8 d8 => ?_)
  have c8 : F8 k = .inr (2, [.ref q1, .ref q3, .int 0, .int 0, .int 0, .int 0, .int 0, .int 0, .int 0, .int 0, .int 0, .int 0, .int 0, .int 0]) := c8
  refine c_aload_n dX2_init_41 rfl ?_
  refine c_bipush (40 : Int32) dX2_init_42 (by decide) ?_
  refine c_put 2 fw_RX2_34 rfl (by omega) ((b3 _ (by omega)).trans ((b1 _ (by omega)).trans hb)) c8 (Nat.le_of_ble_eq_true rfl) (by decide +kernel) (by decide +kernel) dX2_init_44 (fun F9 c9 d9 => ?_)
  have c9 : F9 k = .inr (2, [.ref q1, .ref q3, .int 0, .int 0, .int 0, .int 0, .int 40, .int 0, .int 0, .int 0, .int 0, .int 0, .int 0, .int 0]) := c9
  refine c_aload_n dX2_init_47 rfl ?_
  refine c_iconst (5 : Int32) dX2_init_48 (by decide) ?_
  refine c_put 2 fw_RX2_37 rfl (by omega) ((b3 _ (by omega)).trans ((b1 _ (by omega)).trans hb)) c9 (Nat.le_of_ble_eq_true rfl) (by decide +kernel) (by decide +kernel) dX2_init_49 (fun F10 c10 d10 => ?_)
  have c10 : F10 k = .inr (2, [.ref q1, .ref q3, .int 0, .int 0, .int 0, .int 0, .int 40, .int 5, .int 0, .int 0, .int 0, .int 0, .int 0, .int 0]) := c10
  refine c_aload_n dX2_init_52 rfl ?_
  refine c_iconst (0 : Int32) dX2_init_53 (by decide) ?_
  refine c_put 2 fw_RX2_40 rfl (by omega) ((b3 _ (by omega)).trans ((b1 _ (by omega)).trans hb)) c10 (Nat.le_of_ble_eq_true rfl) (by decide +kernel) (by decide +kernel) dX2_init_54 (fun F11 c11 d11 => ?_)
  have c11 : F11 k = .inr (2, [.ref q1, .ref q3, .int 0, .int 0, .int 0, .int 0, .int 40, .int 5, .int 0, .int 0, .int 0, .int 0, .int 0, .int 0]) := c11
  refine c_aload_n dX2_init_57 rfl ?_
  refine c_iconst (0 : Int32) dX2_init_58 (by decide) ?_
  refine c_put 2 fw_RX2_43 rfl (by omega) ((b3 _ (by omega)).trans ((b1 _ (by omega)).trans hb)) c11 (Nat.le_of_ble_eq_true rfl) (by decide +kernel) (by decide +kernel) dX2_init_59 (fun F12 c12 d12 => ?_)
  have c12 : F12 k = .inr (2, [.ref q1, .ref q3, .int 0, .int 0, .int 0, .int 0, .int 40, .int 5, .int 0, .int 0, .int 0, .int 0, .int 0, .int 0]) := c12
  refine c_aload_n dX2_init_62 rfl ?_
  refine c_iconst (0 : Int32) dX2_init_63 (by decide) ?_
  refine c_put 2 fw_RX2_46 rfl (by omega) ((b3 _ (by omega)).trans ((b1 _ (by omega)).trans hb)) c12 (Nat.le_of_ble_eq_true rfl) (by decide +kernel) (by decide +kernel) dX2_init_64 (fun F13 c13 d13 => ?_)
  have c13 : F13 k = .inr (2, [.ref q1, .ref q3, .int 0, .int 0, .int 0, .int 0, .int 40, .int 5, .int 0, .int 0, .int 0, .int 0, .int 0, .int 0]) := c13
  refine c_aload_n dX2_init_67 rfl ?_
  refine c_iconst (0 : Int32) dX2_init_68 (by decide) ?_
  refine c_put 2 fw_RX2_49 rfl (by omega) ((b3 _ (by omega)).trans ((b1 _ (by omega)).trans hb)) c13 (Nat.le_of_ble_eq_true rfl) (by decide +kernel) (by decide +kernel) dX2_init_69 (fun F14 c14 d14 => ?_)
  have c14 : F14 k = .inr (2, [.ref q1, .ref q3, .int 0, .int 0, .int 0, .int 0, .int 40, .int 5, .int 0, .int 0, .int 0, .int 0, .int 0, .int 0]) := c14
  refine c_aload_n dX2_init_72 rfl ?_
  refine c_iconst (0 : Int32) dX2_init_73 (by decide) ?_
  refine c_put 2 fw_RX2_52 rfl (by omega) ((b3 _ (by omega)).trans ((b1 _ (by omega)).trans hb)) c14 (Nat.le_of_ble_eq_true rfl) (by decide +kernel) (by decide +kernel) dX2_init_74 (fun F15 c15 d15 => ?_)
  have c15 : F15 k = .inr (2, [.ref q1, .ref q3, .int 0, .int 0, .int 0, .int 0, .int 40, .int 5, .int 0, .int 0, .int 0, .int 0, .int 0, .int 0]) := c15
  refine c_aload_n dX2_init_77 rfl ?_
  refine c_iconst (1 : Int32) dX2_init_78 (by decide) ?_
  refine c_put 2 fw_RX2_55 rfl (by omega) ((b3 _ (by omega)).trans ((b1 _ (by omega)).trans hb)) c15 (Nat.le_of_ble_eq_true rfl) (by decide +kernel) (by decide +kernel) dX2_init_79 (fun F16 c16 d16 => ?_)
  have c16 : F16 k = .inr (2, [.ref q1, .ref q3, .int 0, .int 0, .int 0, .int 0, .int 40, .int 5, .int 0, .int 0, .int 0, .int 0, .int 0, .int 1]) := c16
  refine c_iconst (0 : Int32) dX2_init_82 (by decide) ?_
  refine c_istore_n dX2_init_83 (by decide) rfl ?_
  have e0 : r3 t = q1 := ((b3 _ (by omega)).trans a1)
  have e1 : r3 (t + 1) = q3 := a3
  have ek : r3 k = b := ((b3 _ (by omega)).trans ((b1 _ (by omega)).trans hb))
  have fk := c16
  have f1 := ((d16 _ (by omega)).trans ((d15 _ (by omega)).trans ((d14 _ (by omega)).trans ((d13 _ (by omega)).trans ((d12 _ (by omega)).trans ((d11 _ (by omega)).trans ((d10 _ (by omega)).trans ((d9 _ (by omega)).trans ((d8 _ (by omega)).trans ((d7 _ (by omega)).trans ((d6 _ (by omega)).trans ((d5 _ (by omega)).trans ((d4 _ (by omega)).trans c3)))))))))))))
  refine rp_loop (ρ0 := r3) (F0 := F16) hk ek e0 rfl 8 0 _ _ _ rfl (fun _ _ => rfl) fk ((d16 _ (by omega)).trans ((d15 _ (by omega)).trans ((d14 _ (by omega)).trans ((d13 _ (by omega)).trans ((d12 _ (by omega)).trans ((d11 _ (by omega)).trans ((d10 _ (by omega)).trans ((d9 _ (by omega)).trans ((d8 _ (by omega)).trans ((d7 _ (by omega)).trans ((d6 _ (by omega)).trans ((d5 _ (by omega)).trans ((d4 _ (by omega)).trans ((d3 _ (by omega)).trans ((d2 _ (by omega)).trans c1))))))))))))))) (fun _ _ _ => rfl) (fun j hj => absurd hj (Nat.not_lt_zero j)) (fun r9 F9 f9 g1 g2 g3 g4 => ?_)
  refine c_iconst (0 : Int32) dX2_init_109 (by decide) ?_
  refine c_istore_n dX2_init_110 (by decide) rfl ?_
  refine rs_loop (k := k) (pm := t + 1) (by omega) (by omega) (by omega) ((g1 k (by omega)).trans ek) ((g1 _ (by omega)).trans e1) rfl 10 0 _ _ rfl ((g3 k (by omega) (by omega)).trans fk) ((g3 _ (by omega) (by omega)).trans f1) (fun j hj => absurd hj (Nat.not_lt_zero j)) (fun F8 f8 k1 k2 k3 => ?_)
  have kf : ∀ j, j < t → j ≠ k → F16 j = F j := (fun j h1 h2 => ((d16 j (by omega)).trans ((d15 j (by omega)).trans ((d14 j (by omega)).trans ((d13 j (by omega)).trans ((d12 j (by omega)).trans ((d11 j (by omega)).trans ((d10 j (by omega)).trans ((d9 j (by omega)).trans ((d8 j (by omega)).trans ((d7 j (by omega)).trans ((d6 j (by omega)).trans ((d5 j (by omega)).trans ((d4 j (by omega)).trans ((d3 j (by omega)).trans ((d2 j (by omega)).trans ((d1 j (by omega)).trans rfl)))))))))))))))))
  have kr : ∀ j, j < t → r3 j = ρ j := (fun j h1 => ((b3 j (by omega)).trans ((b1 j (by omega)).trans rfl)))
  refine c_vret rfl dX2_init_130 ⟨rfl, fun j h1 => (g1 j (by omega)).trans (kr j h1), fun j h1 h2 => (k3 j (by omega)).trans ((g3 j (by omega) (by omega)).trans (kf j h1 h2)), ?_, ⟨f9, (k3 _ (by omega)).trans g2, fun j hj => (g4 j hj).1⟩, ⟨f8, k1, k2⟩, fun j hj => (k3 _ (by omega)).trans (g4 j hj).2⟩
  rw [show r9 t = _ from (g1 t (by omega)).trans e0, show r9 (t + 1) = _ from (g1 _ (by omega)).trans e1]
  exact (k3 k (by omega)).trans ((g3 k (by omega) (by omega)).trans fk)
theorem mo_loop {h : Ht} {ρ : Nat → Nat} {t k pm b q : Nat} {rm : Room} {mc ms c0 s0 : Nat} {Q : (Nat → Nat) → Nat → (Nat → va_E) → Prop} {fs : List Value} (hk : k < t) (hpm : pm < t) (hne : k ≠ pm) (hb : ρ k = b) (hq : ρ pm = q) (hfs : fs[0]? = some (.ref q)) : ∀ (n i : Nat) (F : Nat → va_E) (f g : Nat → Int32), i + n = 10 → F k = .inr (6, fs) → F pm = .inl (h.2.2.1, 70, .inl f) → (∀ j, j < 60 → f j = g j) → (∀ j, j < i → f (60 + j) = -1) → (∀ (F' : Nat → va_E) (f' : Nat → Int32), F' pm = .inl (h.2.2.1, 70, .inl f') → (∀ j, j < 60 → f' j = g j) → (∀ j, j < 10 → f' (60 + j) = -1) → (∀ j, j ≠ pm → F' j = F j) → Cv h mtX6_init rm mc ms c0 s0 170 [some (.ref b), some (.int (nI 10))] [] ρ t F' Q) → Cv h mtX6_init rm mc ms c0 s0 148 [some (.ref b), some (.int (nI i))] [] ρ t F Q := by
  intro n
  induction n with
  | zero =>
    intro i F f g hi hF hP hg hf kk
    have e : i = 10 := by omega
    subst e
    refine c_iload_n dX6_init_148 rfl ?_
    refine c_bipush (10 : Int32) dX6_init_149 (by decide) ?_
    refine c_icmp_ge 170 dX6_init_151 (by decide) (fun _ => ?_) (fun z => absurd (by decide) z)
    exact kk F f hP hg hf (fun _ _ => rfl)
  | succ n ih =>
    intro i F f g hi hF hP hg hf kk
    have hlt : i < 10 := by omega
    have ex : (60 : Int32) + nI i = nI (60 + i) := nI_add 60 i
    refine c_iload_n dX6_init_148 rfl ?_
    refine c_bipush (10 : Int32) dX6_init_149 (by decide) ?_
    refine c_icmp_ge 170 dX6_init_151 (by decide) (fun z => absurd z (nI_ge (b := 10) hlt (by decide))) (fun _ => ?_)
    refine c_aload_n dX6_init_154 rfl ?_
    refine c_getR 7 3 fa_RX6_7 rfl hk hb hF hfs dX6_init_155 ?_
    refine c_bipush (60 : Int32) dX6_init_158 (by decide) ?_
    refine c_iload_n dX6_init_160 rfl ?_
    refine c_iadd dX6_init_161 ?_
    refine c_iconst (-1 : Int32) dX6_init_162 (by decide) ?_
    refine c_iast hpm hq hP (by rw [ex]; exact vp_in_nI (by omega) (by decide)) dX6_init_163 (fun F1 c1 d1 => ?_)
    refine c_iinc (nI (i + 1)) dX6_init_164 rfl (nI_1 i) (by decide) rfl ?_
    refine c_goto 148 dX6_init_167 (by decide) ?_
    rw [ex, nI_clamp (by omega)] at c1
    refine ih (i + 1) F1 _ g (by omega) ((d1 k hne).trans hF) c1 (fun j hj => ?_) (fun j hj => ?_) (fun F2 f2 g1 g2 g3 g4 => kk F2 f2 g1 g2 g3 (fun j hj => (g4 j hj).trans (d1 j hj)))
    · rw [← hg j hj]
      simp [upd, show ¬ j = 60 + i by omega]
    · by_cases e : j = i
      · subst e
        simp [upd]
      · simp [upd, e, hf j (by omega)]
def ModelQ (h : Ht) (ρ : Nat → Nat) (t k : Nat) (F : Nat → va_E) (ρ' : Nat → Nat) (t' : Nat) (F' : Nat → va_E) : Prop := t' = t + 15 ∧ (∀ j, j < t → ρ' j = ρ j) ∧ (∀ j, j < t → j ≠ k → F' j = F j) ∧ F' k = .inr (6, [.ref (ρ' t), .ref (ρ' (t + 1)), .ref (ρ' (t + 2)), .ref (ρ' (t + 3)), .int 0, .ref (ρ' (t + 4)), .ref (ρ' (t + 5)), .ref (ρ' (t + 6)), .int 0, .ref (ρ' (t + 7)), .ref (ρ' (t + 8)), .ref (ρ' (t + 9)), .int 0, .long 0, .ref (ρ' (t + 10)), .int 0, .int 0, .int 0, .int 0, .int 0, .ref (ρ' (t + 11)), .ref (ρ' (t + 12)), .ref (ρ' (t + 13)), .ref (ρ' (t + 14))]) ∧ (∃ f, F' t = .inl (h.2.2.1, 70, .inl f) ∧ (∀ j, j < 60 → f j = upd (upd (upd (fun _ => 0) 1 1) 2 40) 3 5 j) ∧ ∀ j, j < 10 → f (60 + j) = -1) ∧ F' (t + 1) = .inl (h.2.2.1, 70, .inl (fun _ => 0)) ∧ F' (t + 2) = .inl (h.2.2.1, 70, .inl (fun _ => 0)) ∧ F' (t + 3) = .inl (h.2.2.1, 7, .inl (fun _ => 0)) ∧ F' (t + 4) = .inl (h.2.2.1, 8, .inl (fun _ => 0)) ∧ F' (t + 5) = .inl (h.2.2.1, 8, .inl (fun _ => 0)) ∧ F' (t + 6) = .inl (h.2.2.1, 64, .inl (fun _ => 0)) ∧ F' (t + 7) = .inl (h.2.2.1, 2048, .inl (fun _ => 0)) ∧ F' (t + 8) = .inl (h.2.2.1, 40, .inl (fun _ => 0)) ∧ F' (t + 9) = .inl (h.2.2.1, 8, .inl (fun _ => 0)) ∧ F' (t + 10) = .inl (h.2.2.1, 120, .inl (fun _ => 0)) ∧ F' (t + 11) = .inl (h.2.2.1, 4, .inl (fun _ => 0)) ∧ F' (t + 12) = .inl (h.2.2.1, 4, .inl (fun _ => 0)) ∧ F' (t + 13) = .inl (h.2.2.1, 160, .inl (fun _ => 0)) ∧ F' (t + 14) = .inl (h.2.2.1, 40, .inl (fun _ => 0))
set_option maxRecDepth 20000 in
theorem cc_Model {h : Ht} {ρ : Nat → Nat} {t k b : Nat} {F : Nat → va_E} (hk : k < t) (hb : ρ k = b) (hF : F k = .inr (6, [.null, .null, .null, .null, .int 0, .null, .null, .null, .int 0, .null, .null, .null, .int 0, .long 0, .null, .int 0, .int 0, .int 0, .int 0, .int 0, .null, .null, .null, .null])) : CvM h mtX6_init { frames := 1, cells := 15, slots := 2721, locals := 12 } 15 2721 [.ref b] ρ t F (ModelQ h ρ t k F) := by
  refine cvm_of [some (.ref b), none] 1 (by decide +kernel) (Nat.le_of_ble_eq_true rfl) rfl ?_
  refine c_aload_n dX6_init_0 rfl ?_
  refine c_objinit ⟨wl_RX6_1, wm_oi, wc_oi⟩ dX6_init_1 (Nat.le_of_ble_eq_true rfl) (Nat.le_of_ble_eq_true rfl) ?_
  refine c_aload_n dX6_init_4 rfl ?_
  refine c_bipush (70 : Int32) dX6_init_5 (by decide) ?_
  refine c_newa 70 w_arr (by decide) (by decide) (Nat.le_of_ble_eq_true rfl) (Nat.le_of_ble_eq_true rfl) (Nat.le_of_ble_eq_true rfl) dX6_init_7 (fun r1 F1 q1 a1 b1 c1 d1 => ?_)
  refine c_putF 7 ff_RX6_7 rfl rfl (by omega) ((b1 _ (by omega)).trans hb) ((d1 _ (by omega)).trans hF) (Nat.le_of_ble_eq_true rfl) rfl rfl dX6_init_9 (fun F2 c2 d2 => ?_)
  have c2 : F2 k = .inr (6, [.ref q1, .null, .null, .null, .int 0, .null, .null, .null, .int 0, .null, .null, .null, .int 0, .long 0, .null, .int 0, .int 0, .int 0, .int 0, .int 0, .null, .null, .null, .null]) := c2
  refine c_aload_n dX6_init_12 rfl ?_
  refine c_bipush (70 : Int32) dX6_init_13 (by decide) ?_
  refine c_newa 70 w_arr (by decide) (by decide) (Nat.le_of_ble_eq_true rfl) (Nat.le_of_ble_eq_true rfl) (Nat.le_of_ble_eq_true rfl) dX6_init_15 (fun r3 F3 q3 a3 b3 c3 d3 => ?_)
  refine c_putF 7 ff_RX6_13 rfl rfl (by omega) ((b3 _ (by omega)).trans ((b1 _ (by omega)).trans hb)) ((d3 _ (by omega)).trans c2) (Nat.le_of_ble_eq_true rfl) rfl rfl dX6_init_17 (fun F4 c4 d4 => ?_)
  have c4 : F4 k = .inr (6, [.ref q1, .ref q3, .null, .null, .int 0, .null, .null, .null, .int 0, .null, .null, .null, .int 0, .long 0, .null, .int 0, .int 0, .int 0, .int 0, .int 0, .null, .null, .null, .null]) := c4
  refine c_aload_n dX6_init_20 rfl ?_
  refine c_bipush (70 : Int32) dX6_init_21 (by decide) ?_
  refine c_newa 70 w_arr (by decide) (by decide) (Nat.le_of_ble_eq_true rfl) (Nat.le_of_ble_eq_true rfl) (Nat.le_of_ble_eq_true rfl) dX6_init_23 (fun r5 F5 q5 a5 b5 c5 d5 => ?_)
  refine c_putF 7 ff_RX6_16 rfl rfl (by omega) ((b5 _ (by omega)).trans ((b3 _ (by omega)).trans ((b1 _ (by omega)).trans hb))) ((d5 _ (by omega)).trans c4) (Nat.le_of_ble_eq_true rfl) rfl rfl dX6_init_25 (fun F6 c6 d6 => ?_)
  have c6 : F6 k = .inr (6, [.ref q1, .ref q3, .ref q5, .null, .int 0, .null, .null, .null, .int 0, .null, .null, .null, .int 0, .long 0, .null, .int 0, .int 0, .int 0, .int 0, .int 0, .null, .null, .null, .null]) := c6
  refine c_aload_n dX6_init_28 rfl ?_
  refine c_bipush (7 : Int32) dX6_init_29 (by decide) ?_
  refine c_newa 7 w_arr (by decide) (by decide) (Nat.le_of_ble_eq_true rfl) (Nat.le_of_ble_eq_true rfl) (Nat.le_of_ble_eq_true rfl) dX6_init_31 (fun r7 F7 q7 a7 b7 c7 d7 => ?_)
  refine c_putF 7 ff_RX6_19 rfl rfl (by omega) ((b7 _ (by omega)).trans ((b5 _ (by omega)).trans ((b3 _ (by omega)).trans ((b1 _ (by omega)).trans hb)))) ((d7 _ (by omega)).trans c6) (Nat.le_of_ble_eq_true rfl) rfl rfl dX6_init_33 (fun F8 c8 d8 => ?_)
  have c8 : F8 k = .inr (6, [.ref q1, .ref q3, .ref q5, .ref q7, .int 0, .null, .null, .null, .int 0, .null, .null, .null, .int 0, .long 0, .null, .int 0, .int 0, .int 0, .int 0, .int 0, .null, .null, .null, .null]) := c8
  refine c_aload_n dX6_init_36 rfl ?_
  refine c_bipush (8 : Int32) dX6_init_37 (by decide) ?_
  refine c_newa 8 w_arr (by decide) (by decide) (Nat.le_of_ble_eq_true rfl) (Nat.le_of_ble_eq_true rfl) (Nat.le_of_ble_eq_true rfl) dX6_init_39 (fun r9 F9 q9 a9 b9 c9 d9 => ?_)
  refine c_putF 7 ff_RX6_22 rfl rfl (by omega) ((b9 _ (by omega)).trans ((b7 _ (by omega)).trans ((b5 _ (by omega)).trans ((b3 _ (by omega)).trans ((b1 _ (by omega)).trans hb))))) ((d9 _ (by omega)).trans c8) (Nat.le_of_ble_eq_true rfl) rfl rfl dX6_init_41 (fun F10 c10 d10 => ?_)
  have c10 : F10 k = .inr (6, [.ref q1, .ref q3, .ref q5, .ref q7, .int 0, .ref q9, .null, .null, .int 0, .null, .null, .null, .int 0, .long 0, .null, .int 0, .int 0, .int 0, .int 0, .int 0, .null, .null, .null, .null]) := c10
  refine c_aload_n dX6_init_44 rfl ?_
  refine c_bipush (8 : Int32) dX6_init_45 (by decide) ?_
  refine c_newa 8 w_arr (by decide) (by decide) (Nat.le_of_ble_eq_true rfl) (Nat.le_of_ble_eq_true rfl) (Nat.le_of_ble_eq_true rfl) dX6_init_47 (fun r11 F11 q11 a11 b11 c11 d11 => ?_)
  refine c_putF 7 ff_RX6_25 rfl rfl (by omega) ((b11 _ (by omega)).trans ((b9 _ (by omega)).trans ((b7 _ (by omega)).trans ((b5 _ (by omega)).trans ((b3 _ (by omega)).trans ((b1 _ (by omega)).trans hb)))))) ((d11 _ (by omega)).trans c10) (Nat.le_of_ble_eq_true rfl) rfl rfl dX6_init_49 (fun F12 c12 d12 => ?_)
  have c12 : F12 k = .inr (6, [.ref q1, .ref q3, .ref q5, .ref q7, .int 0, .ref q9, .ref q11, .null, .int 0, .null, .null, .null, .int 0, .long 0, .null, .int 0, .int 0, .int 0, .int 0, .int 0, .null, .null, .null, .null]) := c12
  refine c_aload_n dX6_init_52 rfl ?_
  refine c_bipush (64 : Int32) dX6_init_53 (by decide) ?_
  refine c_newa 64 w_arr (by decide) (by decide) (Nat.le_of_ble_eq_true rfl) (Nat.le_of_ble_eq_true rfl) (Nat.le_of_ble_eq_true rfl) dX6_init_55 (fun r13 F13 q13 a13 b13 c13 d13 => ?_)
  refine c_putF 7 ff_RX6_28 rfl rfl (by omega) ((b13 _ (by omega)).trans ((b11 _ (by omega)).trans ((b9 _ (by omega)).trans ((b7 _ (by omega)).trans ((b5 _ (by omega)).trans ((b3 _ (by omega)).trans ((b1 _ (by omega)).trans hb))))))) ((d13 _ (by omega)).trans c12) (Nat.le_of_ble_eq_true rfl) rfl rfl dX6_init_57 (fun F14 c14 d14 => ?_)
  have c14 : F14 k = .inr (6, [.ref q1, .ref q3, .ref q5, .ref q7, .int 0, .ref q9, .ref q11, .ref q13, .int 0, .null, .null, .null, .int 0, .long 0, .null, .int 0, .int 0, .int 0, .int 0, .int 0, .null, .null, .null, .null]) := c14
  refine c_aload_n dX6_init_60 rfl ?_
  refine c_sipush (2048 : Int32) dX6_init_61 (by decide) ?_
  refine c_newa 2048 w_arr (by decide) (by decide) (Nat.le_of_ble_eq_true rfl) (Nat.le_of_ble_eq_true rfl) (Nat.le_of_ble_eq_true rfl) dX6_init_64 (fun r15 F15 q15 a15 b15 c15 d15 => ?_)
  refine c_putF 7 ff_RX6_31 rfl rfl (by omega) ((b15 _ (by omega)).trans ((b13 _ (by omega)).trans ((b11 _ (by omega)).trans ((b9 _ (by omega)).trans ((b7 _ (by omega)).trans ((b5 _ (by omega)).trans ((b3 _ (by omega)).trans ((b1 _ (by omega)).trans hb)))))))) ((d15 _ (by omega)).trans c14) (Nat.le_of_ble_eq_true rfl) rfl rfl dX6_init_66 (fun F16 c16 d16 => ?_)
  have c16 : F16 k = .inr (6, [.ref q1, .ref q3, .ref q5, .ref q7, .int 0, .ref q9, .ref q11, .ref q13, .int 0, .ref q15, .null, .null, .int 0, .long 0, .null, .int 0, .int 0, .int 0, .int 0, .int 0, .null, .null, .null, .null]) := c16
  refine c_aload_n dX6_init_69 rfl ?_
  refine c_bipush (40 : Int32) dX6_init_70 (by decide) ?_
  refine c_newa 40 w_arr (by decide) (by decide) (Nat.le_of_ble_eq_true rfl) (Nat.le_of_ble_eq_true rfl) (Nat.le_of_ble_eq_true rfl) dX6_init_72 (fun r17 F17 q17 a17 b17 c17 d17 => ?_)
  refine c_putF 7 ff_RX6_34 rfl rfl (by omega) ((b17 _ (by omega)).trans ((b15 _ (by omega)).trans ((b13 _ (by omega)).trans ((b11 _ (by omega)).trans ((b9 _ (by omega)).trans ((b7 _ (by omega)).trans ((b5 _ (by omega)).trans ((b3 _ (by omega)).trans ((b1 _ (by omega)).trans hb))))))))) ((d17 _ (by omega)).trans c16) (Nat.le_of_ble_eq_true rfl) rfl rfl dX6_init_74 (fun F18 c18 d18 => ?_)
  have c18 : F18 k = .inr (6, [.ref q1, .ref q3, .ref q5, .ref q7, .int 0, .ref q9, .ref q11, .ref q13, .int 0, .ref q15, .ref q17, .null, .int 0, .long 0, .null, .int 0, .int 0, .int 0, .int 0, .int 0, .null, .null, .null, .null]) := c18
  refine c_aload_n dX6_init_77 rfl ?_
  refine c_bipush (8 : Int32) dX6_init_78 (by decide) ?_
  refine c_newa 8 w_arr (by decide) (by decide) (Nat.le_of_ble_eq_true rfl) (Nat.le_of_ble_eq_true rfl) (Nat.le_of_ble_eq_true rfl) dX6_init_80 (fun r19 F19 q19 a19 b19 c19 d19 => ?_)
  refine c_putF 7 ff_RX6_37 rfl rfl (by omega) ((b19 _ (by omega)).trans ((b17 _ (by omega)).trans ((b15 _ (by omega)).trans ((b13 _ (by omega)).trans ((b11 _ (by omega)).trans ((b9 _ (by omega)).trans ((b7 _ (by omega)).trans ((b5 _ (by omega)).trans ((b3 _ (by omega)).trans ((b1 _ (by omega)).trans hb)))))))))) ((d19 _ (by omega)).trans c18) (Nat.le_of_ble_eq_true rfl) rfl rfl dX6_init_82 (fun F20 c20 d20 => ?_)
  have c20 : F20 k = .inr (6, [.ref q1, .ref q3, .ref q5, .ref q7, .int 0, .ref q9, .ref q11, .ref q13, .int 0, .ref q15, .ref q17, .ref q19, .int 0, .long 0, .null, .int 0, .int 0, .int 0, .int 0, .int 0, .null, .null, .null, .null]) := c20
  refine c_aload_n dX6_init_85 rfl ?_
  refine c_bipush (120 : Int32) dX6_init_86 (by decide) ?_
  refine c_newa 120 w_arr (by decide) (by decide) (Nat.le_of_ble_eq_true rfl) (Nat.le_of_ble_eq_true rfl) (Nat.le_of_ble_eq_true rfl) dX6_init_88 (fun r21 F21 q21 a21 b21 c21 d21 => ?_)
  refine c_putF 7 ff_RX6_40 rfl rfl (by omega) ((b21 _ (by omega)).trans ((b19 _ (by omega)).trans ((b17 _ (by omega)).trans ((b15 _ (by omega)).trans ((b13 _ (by omega)).trans ((b11 _ (by omega)).trans ((b9 _ (by omega)).trans ((b7 _ (by omega)).trans ((b5 _ (by omega)).trans ((b3 _ (by omega)).trans ((b1 _ (by omega)).trans hb))))))))))) ((d21 _ (by omega)).trans c20) (Nat.le_of_ble_eq_true rfl) rfl rfl dX6_init_90 (fun F22 c22 d22 => ?_)
  have c22 : F22 k = .inr (6, [.ref q1, .ref q3, .ref q5, .ref q7, .int 0, .ref q9, .ref q11, .ref q13, .int 0, .ref q15, .ref q17, .ref q19, .int 0, .long 0, .ref q21, .int 0, .int 0, .int 0, .int 0, .int 0, .null, .null, .null, .null]) := c22
  refine c_aload_n dX6_init_93 rfl ?_
  refine c_iconst (4 : Int32) dX6_init_94 (by decide) ?_
  refine c_newa 4 w_arr (by decide) (by decide) (Nat.le_of_ble_eq_true rfl) (Nat.le_of_ble_eq_true rfl) (Nat.le_of_ble_eq_true rfl) dX6_init_95 (fun r23 F23 q23 a23 b23 c23 d23 => ?_)
  refine c_putF 7 ff_RX6_43 rfl rfl (by omega) ((b23 _ (by omega)).trans ((b21 _ (by omega)).trans ((b19 _ (by omega)).trans ((b17 _ (by omega)).trans ((b15 _ (by omega)).trans ((b13 _ (by omega)).trans ((b11 _ (by omega)).trans ((b9 _ (by omega)).trans ((b7 _ (by omega)).trans ((b5 _ (by omega)).trans ((b3 _ (by omega)).trans ((b1 _ (by omega)).trans hb)))))))))))) ((d23 _ (by omega)).trans c22) (Nat.le_of_ble_eq_true rfl) rfl rfl dX6_init_97 (fun F24 c24 d24 => ?_)
  have c24 : F24 k = .inr (6, [.ref q1, .ref q3, .ref q5, .ref q7, .int 0, .ref q9, .ref q11, .ref q13, .int 0, .ref q15, .ref q17, .ref q19, .int 0, .long 0, .ref q21, .int 0, .int 0, .int 0, .int 0, .int 0, .ref q23, .null, .null, .null]) := c24
  refine c_aload_n dX6_init_100 rfl ?_
  refine c_iconst (4 : Int32) dX6_init_101 (by decide) ?_
  refine c_newa 4 w_arr (by decide) (by decide) (Nat.le_of_ble_eq_true rfl) (Nat.le_of_ble_eq_true rfl) (Nat.le_of_ble_eq_true rfl) dX6_init_102 (fun r25 F25 q25 a25 b25 c25 d25 => ?_)
  refine c_putF 7 ff_RX6_46 rfl rfl (by omega) ((b25 _ (by omega)).trans ((b23 _ (by omega)).trans ((b21 _ (by omega)).trans ((b19 _ (by omega)).trans ((b17 _ (by omega)).trans ((b15 _ (by omega)).trans ((b13 _ (by omega)).trans ((b11 _ (by omega)).trans ((b9 _ (by omega)).trans ((b7 _ (by omega)).trans ((b5 _ (by omega)).trans ((b3 _ (by omega)).trans ((b1 _ (by omega)).trans hb))))))))))))) ((d25 _ (by omega)).trans c24) (Nat.le_of_ble_eq_true rfl) rfl rfl dX6_init_104 (fun F26 c26 d26 => ?_)
  have c26 : F26 k = .inr (6, [.ref q1, .ref q3, .ref q5, .ref q7, .int 0, .ref q9, .ref q11, .ref q13, .int 0, .ref q15, .ref q17, .ref q19, .int 0, .long 0, .ref q21, .int 0, .int 0, .int 0, .int 0, .int 0, .ref q23, .ref q25, .null, .null]) := c26
  refine c_aload_n dX6_init_107 rfl ?_
  refine c_sipush (160 : Int32) dX6_init_108 (by decide) ?_
  refine c_newa 160 w_arr (by decide) (by decide) (Nat.le_of_ble_eq_true rfl) (Nat.le_of_ble_eq_true rfl) (Nat.le_of_ble_eq_true rfl) dX6_init_111 (fun r27 F27 q27 a27 b27 c27 d27 => ?_)
  refine c_putF 7 ff_RX6_49 rfl rfl (by omega) ((b27 _ (by omega)).trans ((b25 _ (by omega)).trans ((b23 _ (by omega)).trans ((b21 _ (by omega)).trans ((b19 _ (by omega)).trans ((b17 _ (by omega)).trans ((b15 _ (by omega)).trans ((b13 _ (by omega)).trans ((b11 _ (by omega)).trans ((b9 _ (by omega)).trans ((b7 _ (by omega)).trans ((b5 _ (by omega)).trans ((b3 _ (by omega)).trans ((b1 _ (by omega)).trans hb)))))))))))))) ((d27 _ (by omega)).trans c26) (Nat.le_of_ble_eq_true rfl) rfl rfl dX6_init_113 (fun F28 c28 d28 => ?_)
  have c28 : F28 k = .inr (6, [.ref q1, .ref q3, .ref q5, .ref q7, .int 0, .ref q9, .ref q11, .ref q13, .int 0, .ref q15, .ref q17, .ref q19, .int 0, .long 0, .ref q21, .int 0, .int 0, .int 0, .int 0, .int 0, .ref q23, .ref q25, .ref q27, .null]) := c28
  refine c_aload_n dX6_init_116 rfl ?_
  refine c_bipush (40 : Int32) dX6_init_117 (by decide) ?_
  refine c_newa 40 w_arr (by decide) (by decide) (Nat.le_of_ble_eq_true rfl) (Nat.le_of_ble_eq_true rfl) (Nat.le_of_ble_eq_true rfl) dX6_init_119 (fun r29 F29 q29 a29 b29 c29 d29 => ?_)
  refine c_putF 7 ff_RX6_52 rfl rfl (by omega) ((b29 _ (by omega)).trans ((b27 _ (by omega)).trans ((b25 _ (by omega)).trans ((b23 _ (by omega)).trans ((b21 _ (by omega)).trans ((b19 _ (by omega)).trans ((b17 _ (by omega)).trans ((b15 _ (by omega)).trans ((b13 _ (by omega)).trans ((b11 _ (by omega)).trans ((b9 _ (by omega)).trans ((b7 _ (by omega)).trans ((b5 _ (by omega)).trans ((b3 _ (by omega)).trans ((b1 _ (by omega)).trans hb))))))))))))))) ((d29 _ (by omega)).trans c28) (Nat.le_of_ble_eq_true rfl) rfl rfl dX6_init_121 (fun F30 c30 d30 => ?_)
  have c30 : F30 k = .inr (6, [.ref q1, .ref q3, .ref q5, .ref q7, .int 0, .ref q9, .ref q11, .ref q13, .int 0, .ref q15, .ref q17, .ref q19, .int 0, .long 0, .ref q21, .int 0, .int 0, .int 0, .int 0, .int 0, .ref q23, .ref q25, .ref q27, .ref q29]) := c30
  refine c_aload_n dX6_init_124 rfl ?_
  refine c_getR 7 3 fa_RX6_7 rfl (by omega) ((b29 _ (by omega)).trans ((b27 _ (by omega)).trans ((b25 _ (by omega)).trans ((b23 _ (by omega)).trans ((b21 _ (by omega)).trans ((b19 _ (by omega)).trans ((b17 _ (by omega)).trans ((b15 _ (by omega)).trans ((b13 _ (by omega)).trans ((b11 _ (by omega)).trans ((b9 _ (by omega)).trans ((b7 _ (by omega)).trans ((b5 _ (by omega)).trans ((b3 _ (by omega)).trans ((b1 _ (by omega)).trans hb))))))))))))))) c30 rfl dX6_init_125 ?_
  refine c_iconst (1 : Int32) dX6_init_128 (by decide) ?_
  refine c_iconst (1 : Int32) dX6_init_129 (by decide) ?_
  refine c_iast (by omega) ((b29 _ (by omega)).trans ((b27 _ (by omega)).trans ((b25 _ (by omega)).trans ((b23 _ (by omega)).trans ((b21 _ (by omega)).trans ((b19 _ (by omega)).trans ((b17 _ (by omega)).trans ((b15 _ (by omega)).trans ((b13 _ (by omega)).trans ((b11 _ (by omega)).trans ((b9 _ (by omega)).trans ((b7 _ (by omega)).trans ((b5 _ (by omega)).trans ((b3 _ (by omega)).trans a1)))))))))))))) ((d30 _ (by omega)).trans ((d29 _ (by omega)).trans ((d28 _ (by omega)).trans ((d27 _ (by omega)).trans ((d26 _ (by omega)).trans ((d25 _ (by omega)).trans ((d24 _ (by omega)).trans ((d23 _ (by omega)).trans ((d22 _ (by omega)).trans ((d21 _ (by omega)).trans ((d20 _ (by omega)).trans ((d19 _ (by omega)).trans ((d18 _ (by omega)).trans ((d17 _ (by omega)).trans ((d16 _ (by omega)).trans ((d15 _ (by omega)).trans ((d14 _ (by omega)).trans ((d13 _ (by omega)).trans ((d12 _ (by omega)).trans ((d11 _ (by omega)).trans ((d10 _ (by omega)).trans ((d9 _ (by omega)).trans ((d8 _ (by omega)).trans ((d7 _ (by omega)).trans ((d6 _ (by omega)).trans ((d5 _ (by omega)).trans ((d4 _ (by omega)).trans ((d3 _ (by omega)).trans ((d2 _ (by omega)).trans c1))))))))))))))))))))))))))))) (by unfold vp_in; decide) dX6_init_130 (fun F31 c31 d31 => ?_)
  refine c_aload_n dX6_init_131 rfl ?_
  refine c_getR 7 3 fa_RX6_7 rfl (by omega) ((b29 _ (by omega)).trans ((b27 _ (by omega)).trans ((b25 _ (by omega)).trans ((b23 _ (by omega)).trans ((b21 _ (by omega)).trans ((b19 _ (by omega)).trans ((b17 _ (by omega)).trans ((b15 _ (by omega)).trans ((b13 _ (by omega)).trans ((b11 _ (by omega)).trans ((b9 _ (by omega)).trans ((b7 _ (by omega)).trans ((b5 _ (by omega)).trans ((b3 _ (by omega)).trans ((b1 _ (by omega)).trans hb))))))))))))))) ((d31 _ (by omega)).trans c30) rfl dX6_init_132 ?_
  refine c_iconst (2 : Int32) dX6_init_135 (by decide) ?_
  refine c_bipush (40 : Int32) dX6_init_136 (by decide) ?_
  refine c_iast (by omega) ((b29 _ (by omega)).trans ((b27 _ (by omega)).trans ((b25 _ (by omega)).trans ((b23 _ (by omega)).trans ((b21 _ (by omega)).trans ((b19 _ (by omega)).trans ((b17 _ (by omega)).trans ((b15 _ (by omega)).trans ((b13 _ (by omega)).trans ((b11 _ (by omega)).trans ((b9 _ (by omega)).trans ((b7 _ (by omega)).trans ((b5 _ (by omega)).trans ((b3 _ (by omega)).trans a1)))))))))))))) c31 (by unfold vp_in; decide) dX6_init_138 (fun F32 c32 d32 => ?_)
  refine c_aload_n dX6_init_139 rfl ?_
  refine c_getR 7 3 fa_RX6_7 rfl (by omega) ((b29 _ (by omega)).trans ((b27 _ (by omega)).trans ((b25 _ (by omega)).trans ((b23 _ (by omega)).trans ((b21 _ (by omega)).trans ((b19 _ (by omega)).trans ((b17 _ (by omega)).trans ((b15 _ (by omega)).trans ((b13 _ (by omega)).trans ((b11 _ (by omega)).trans ((b9 _ (by omega)).trans ((b7 _ (by omega)).trans ((b5 _ (by omega)).trans ((b3 _ (by omega)).trans ((b1 _ (by omega)).trans hb))))))))))))))) ((d32 _ (by omega)).trans ((d31 _ (by omega)).trans c30)) rfl dX6_init_140 ?_
  refine c_iconst (3 : Int32) dX6_init_143 (by decide) ?_
  refine c_iconst (5 : Int32) dX6_init_144 (by decide) ?_
  refine c_iast (by omega) ((b29 _ (by omega)).trans ((b27 _ (by omega)).trans ((b25 _ (by omega)).trans ((b23 _ (by omega)).trans ((b21 _ (by omega)).trans ((b19 _ (by omega)).trans ((b17 _ (by omega)).trans ((b15 _ (by omega)).trans ((b13 _ (by omega)).trans ((b11 _ (by omega)).trans ((b9 _ (by omega)).trans ((b7 _ (by omega)).trans ((b5 _ (by omega)).trans ((b3 _ (by omega)).trans a1)))))))))))))) c32 (by unfold vp_in; decide) dX6_init_145 (fun F33 c33 d33 => ?_)
  refine c_iconst (0 : Int32) dX6_init_146 (by decide) ?_
  refine c_istore_n dX6_init_147 (by decide) rfl ?_
  have e0 : r29 (t + 0) = q1 := ((b29 _ (by omega)).trans ((b27 _ (by omega)).trans ((b25 _ (by omega)).trans ((b23 _ (by omega)).trans ((b21 _ (by omega)).trans ((b19 _ (by omega)).trans ((b17 _ (by omega)).trans ((b15 _ (by omega)).trans ((b13 _ (by omega)).trans ((b11 _ (by omega)).trans ((b9 _ (by omega)).trans ((b7 _ (by omega)).trans ((b5 _ (by omega)).trans ((b3 _ (by omega)).trans a1))))))))))))))
  have e1 : r29 (t + 1) = q3 := ((b29 _ (by omega)).trans ((b27 _ (by omega)).trans ((b25 _ (by omega)).trans ((b23 _ (by omega)).trans ((b21 _ (by omega)).trans ((b19 _ (by omega)).trans ((b17 _ (by omega)).trans ((b15 _ (by omega)).trans ((b13 _ (by omega)).trans ((b11 _ (by omega)).trans ((b9 _ (by omega)).trans ((b7 _ (by omega)).trans ((b5 _ (by omega)).trans a3)))))))))))))
  have e2 : r29 (t + 2) = q5 := ((b29 _ (by omega)).trans ((b27 _ (by omega)).trans ((b25 _ (by omega)).trans ((b23 _ (by omega)).trans ((b21 _ (by omega)).trans ((b19 _ (by omega)).trans ((b17 _ (by omega)).trans ((b15 _ (by omega)).trans ((b13 _ (by omega)).trans ((b11 _ (by omega)).trans ((b9 _ (by omega)).trans ((b7 _ (by omega)).trans a5))))))))))))
  have e3 : r29 (t + 3) = q7 := ((b29 _ (by omega)).trans ((b27 _ (by omega)).trans ((b25 _ (by omega)).trans ((b23 _ (by omega)).trans ((b21 _ (by omega)).trans ((b19 _ (by omega)).trans ((b17 _ (by omega)).trans ((b15 _ (by omega)).trans ((b13 _ (by omega)).trans ((b11 _ (by omega)).trans ((b9 _ (by omega)).trans a7)))))))))))
  have e4 : r29 (t + 4) = q9 := ((b29 _ (by omega)).trans ((b27 _ (by omega)).trans ((b25 _ (by omega)).trans ((b23 _ (by omega)).trans ((b21 _ (by omega)).trans ((b19 _ (by omega)).trans ((b17 _ (by omega)).trans ((b15 _ (by omega)).trans ((b13 _ (by omega)).trans ((b11 _ (by omega)).trans a9))))))))))
  have e5 : r29 (t + 5) = q11 := ((b29 _ (by omega)).trans ((b27 _ (by omega)).trans ((b25 _ (by omega)).trans ((b23 _ (by omega)).trans ((b21 _ (by omega)).trans ((b19 _ (by omega)).trans ((b17 _ (by omega)).trans ((b15 _ (by omega)).trans ((b13 _ (by omega)).trans a11)))))))))
  have e6 : r29 (t + 6) = q13 := ((b29 _ (by omega)).trans ((b27 _ (by omega)).trans ((b25 _ (by omega)).trans ((b23 _ (by omega)).trans ((b21 _ (by omega)).trans ((b19 _ (by omega)).trans ((b17 _ (by omega)).trans ((b15 _ (by omega)).trans a13))))))))
  have e7 : r29 (t + 7) = q15 := ((b29 _ (by omega)).trans ((b27 _ (by omega)).trans ((b25 _ (by omega)).trans ((b23 _ (by omega)).trans ((b21 _ (by omega)).trans ((b19 _ (by omega)).trans ((b17 _ (by omega)).trans a15)))))))
  have e8 : r29 (t + 8) = q17 := ((b29 _ (by omega)).trans ((b27 _ (by omega)).trans ((b25 _ (by omega)).trans ((b23 _ (by omega)).trans ((b21 _ (by omega)).trans ((b19 _ (by omega)).trans a17))))))
  have e9 : r29 (t + 9) = q19 := ((b29 _ (by omega)).trans ((b27 _ (by omega)).trans ((b25 _ (by omega)).trans ((b23 _ (by omega)).trans ((b21 _ (by omega)).trans a19)))))
  have e10 : r29 (t + 10) = q21 := ((b29 _ (by omega)).trans ((b27 _ (by omega)).trans ((b25 _ (by omega)).trans ((b23 _ (by omega)).trans a21))))
  have e11 : r29 (t + 11) = q23 := ((b29 _ (by omega)).trans ((b27 _ (by omega)).trans ((b25 _ (by omega)).trans a23)))
  have e12 : r29 (t + 12) = q25 := ((b29 _ (by omega)).trans ((b27 _ (by omega)).trans a25))
  have e13 : r29 (t + 13) = q27 := ((b29 _ (by omega)).trans a27)
  have e14 : r29 (t + 14) = q29 := a29
  refine mo_loop (k := k) (pm := t) (by omega) (by omega) (by omega) ((b29 _ (by omega)).trans ((b27 _ (by omega)).trans ((b25 _ (by omega)).trans ((b23 _ (by omega)).trans ((b21 _ (by omega)).trans ((b19 _ (by omega)).trans ((b17 _ (by omega)).trans ((b15 _ (by omega)).trans ((b13 _ (by omega)).trans ((b11 _ (by omega)).trans ((b9 _ (by omega)).trans ((b7 _ (by omega)).trans ((b5 _ (by omega)).trans ((b3 _ (by omega)).trans ((b1 _ (by omega)).trans hb))))))))))))))) e0 rfl 10 0 _ _ _ rfl ((d33 _ (by omega)).trans ((d32 _ (by omega)).trans ((d31 _ (by omega)).trans c30))) c33 (fun j hj => rfl) (fun j hj => absurd hj (Nat.not_lt_zero j)) (fun F9 f9 g1 g2 g3 g4 => ?_)
  have kf : ∀ j, j < t → j ≠ k → F33 j = F j := (fun j h1 h2 => ((d33 j (by omega)).trans ((d32 j (by omega)).trans ((d31 j (by omega)).trans ((d30 j (by omega)).trans ((d29 j (by omega)).trans ((d28 j (by omega)).trans ((d27 j (by omega)).trans ((d26 j (by omega)).trans ((d25 j (by omega)).trans ((d24 j (by omega)).trans ((d23 j (by omega)).trans ((d22 j (by omega)).trans ((d21 j (by omega)).trans ((d20 j (by omega)).trans ((d19 j (by omega)).trans ((d18 j (by omega)).trans ((d17 j (by omega)).trans ((d16 j (by omega)).trans ((d15 j (by omega)).trans ((d14 j (by omega)).trans ((d13 j (by omega)).trans ((d12 j (by omega)).trans ((d11 j (by omega)).trans ((d10 j (by omega)).trans ((d9 j (by omega)).trans ((d8 j (by omega)).trans ((d7 j (by omega)).trans ((d6 j (by omega)).trans ((d5 j (by omega)).trans ((d4 j (by omega)).trans ((d3 j (by omega)).trans ((d2 j (by omega)).trans ((d1 j (by omega)).trans rfl))))))))))))))))))))))))))))))))))
  refine c_vret rfl dX6_init_170 ⟨rfl, (fun j h1 => ((b29 j (by omega)).trans ((b27 j (by omega)).trans ((b25 j (by omega)).trans ((b23 j (by omega)).trans ((b21 j (by omega)).trans ((b19 j (by omega)).trans ((b17 j (by omega)).trans ((b15 j (by omega)).trans ((b13 j (by omega)).trans ((b11 j (by omega)).trans ((b9 j (by omega)).trans ((b7 j (by omega)).trans ((b5 j (by omega)).trans ((b3 j (by omega)).trans ((b1 j (by omega)).trans rfl)))))))))))))))), fun j h1 h2 => (g4 j (by omega)).trans (kf j h1 h2), ?_, ⟨f9, g1, g2, g3⟩, (g4 _ (by omega)).trans ((d33 _ (by omega)).trans ((d32 _ (by omega)).trans ((d31 _ (by omega)).trans ((d30 _ (by omega)).trans ((d29 _ (by omega)).trans ((d28 _ (by omega)).trans ((d27 _ (by omega)).trans ((d26 _ (by omega)).trans ((d25 _ (by omega)).trans ((d24 _ (by omega)).trans ((d23 _ (by omega)).trans ((d22 _ (by omega)).trans ((d21 _ (by omega)).trans ((d20 _ (by omega)).trans ((d19 _ (by omega)).trans ((d18 _ (by omega)).trans ((d17 _ (by omega)).trans ((d16 _ (by omega)).trans ((d15 _ (by omega)).trans ((d14 _ (by omega)).trans ((d13 _ (by omega)).trans ((d12 _ (by omega)).trans ((d11 _ (by omega)).trans ((d10 _ (by omega)).trans ((d9 _ (by omega)).trans ((d8 _ (by omega)).trans ((d7 _ (by omega)).trans ((d6 _ (by omega)).trans ((d5 _ (by omega)).trans ((d4 _ (by omega)).trans c3)))))))))))))))))))))))))))))), (g4 _ (by omega)).trans ((d33 _ (by omega)).trans ((d32 _ (by omega)).trans ((d31 _ (by omega)).trans ((d30 _ (by omega)).trans ((d29 _ (by omega)).trans ((d28 _ (by omega)).trans ((d27 _ (by omega)).trans ((d26 _ (by omega)).trans ((d25 _ (by omega)).trans ((d24 _ (by omega)).trans ((d23 _ (by omega)).trans ((d22 _ (by omega)).trans ((d21 _ (by omega)).trans ((d20 _ (by omega)).trans ((d19 _ (by omega)).trans ((d18 _ (by omega)).trans ((d17 _ (by omega)).trans ((d16 _ (by omega)).trans ((d15 _ (by omega)).trans ((d14 _ (by omega)).trans ((d13 _ (by omega)).trans ((d12 _ (by omega)).trans ((d11 _ (by omega)).trans ((d10 _ (by omega)).trans ((d9 _ (by omega)).trans ((d8 _ (by omega)).trans ((d7 _ (by omega)).trans ((d6 _ (by omega)).trans c5)))))))))))))))))))))))))))), (g4 _ (by omega)).trans ((d33 _ (by omega)).trans ((d32 _ (by omega)).trans ((d31 _ (by omega)).trans ((d30 _ (by omega)).trans ((d29 _ (by omega)).trans ((d28 _ (by omega)).trans ((d27 _ (by omega)).trans ((d26 _ (by omega)).trans ((d25 _ (by omega)).trans ((d24 _ (by omega)).trans ((d23 _ (by omega)).trans ((d22 _ (by omega)).trans ((d21 _ (by omega)).trans ((d20 _ (by omega)).trans ((d19 _ (by omega)).trans ((d18 _ (by omega)).trans ((d17 _ (by omega)).trans ((d16 _ (by omega)).trans ((d15 _ (by omega)).trans ((d14 _ (by omega)).trans ((d13 _ (by omega)).trans ((d12 _ (by omega)).trans ((d11 _ (by omega)).trans ((d10 _ (by omega)).trans ((d9 _ (by omega)).trans ((d8 _ (by omega)).trans c7)))))))))))))))))))))))))), (g4 _ (by omega)).trans ((d33 _ (by omega)).trans ((d32 _ (by omega)).trans ((d31 _ (by omega)).trans ((d30 _ (by omega)).trans ((d29 _ (by omega)).trans ((d28 _ (by omega)).trans ((d27 _ (by omega)).trans ((d26 _ (by omega)).trans ((d25 _ (by omega)).trans ((d24 _ (by omega)).trans ((d23 _ (by omega)).trans ((d22 _ (by omega)).trans ((d21 _ (by omega)).trans ((d20 _ (by omega)).trans ((d19 _ (by omega)).trans ((d18 _ (by omega)).trans ((d17 _ (by omega)).trans ((d16 _ (by omega)).trans ((d15 _ (by omega)).trans ((d14 _ (by omega)).trans ((d13 _ (by omega)).trans ((d12 _ (by omega)).trans ((d11 _ (by omega)).trans ((d10 _ (by omega)).trans c9)))))))))))))))))))))))), (g4 _ (by omega)).trans ((d33 _ (by omega)).trans ((d32 _ (by omega)).trans ((d31 _ (by omega)).trans ((d30 _ (by omega)).trans ((d29 _ (by omega)).trans ((d28 _ (by omega)).trans ((d27 _ (by omega)).trans ((d26 _ (by omega)).trans ((d25 _ (by omega)).trans ((d24 _ (by omega)).trans ((d23 _ (by omega)).trans ((d22 _ (by omega)).trans ((d21 _ (by omega)).trans ((d20 _ (by omega)).trans ((d19 _ (by omega)).trans ((d18 _ (by omega)).trans ((d17 _ (by omega)).trans ((d16 _ (by omega)).trans ((d15 _ (by omega)).trans ((d14 _ (by omega)).trans ((d13 _ (by omega)).trans ((d12 _ (by omega)).trans c11)))))))))))))))))))))), (g4 _ (by omega)).trans ((d33 _ (by omega)).trans ((d32 _ (by omega)).trans ((d31 _ (by omega)).trans ((d30 _ (by omega)).trans ((d29 _ (by omega)).trans ((d28 _ (by omega)).trans ((d27 _ (by omega)).trans ((d26 _ (by omega)).trans ((d25 _ (by omega)).trans ((d24 _ (by omega)).trans ((d23 _ (by omega)).trans ((d22 _ (by omega)).trans ((d21 _ (by omega)).trans ((d20 _ (by omega)).trans ((d19 _ (by omega)).trans ((d18 _ (by omega)).trans ((d17 _ (by omega)).trans ((d16 _ (by omega)).trans ((d15 _ (by omega)).trans ((d14 _ (by omega)).trans c13)))))))))))))))))))), (g4 _ (by omega)).trans ((d33 _ (by omega)).trans ((d32 _ (by omega)).trans ((d31 _ (by omega)).trans ((d30 _ (by omega)).trans ((d29 _ (by omega)).trans ((d28 _ (by omega)).trans ((d27 _ (by omega)).trans ((d26 _ (by omega)).trans ((d25 _ (by omega)).trans ((d24 _ (by omega)).trans ((d23 _ (by omega)).trans ((d22 _ (by omega)).trans ((d21 _ (by omega)).trans ((d20 _ (by omega)).trans ((d19 _ (by omega)).trans ((d18 _ (by omega)).trans ((d17 _ (by omega)).trans ((d16 _ (by omega)).trans c15)))))))))))))))))), (g4 _ (by omega)).trans ((d33 _ (by omega)).trans ((d32 _ (by omega)).trans ((d31 _ (by omega)).trans ((d30 _ (by omega)).trans ((d29 _ (by omega)).trans ((d28 _ (by omega)).trans ((d27 _ (by omega)).trans ((d26 _ (by omega)).trans ((d25 _ (by omega)).trans ((d24 _ (by omega)).trans ((d23 _ (by omega)).trans ((d22 _ (by omega)).trans ((d21 _ (by omega)).trans ((d20 _ (by omega)).trans ((d19 _ (by omega)).trans ((d18 _ (by omega)).trans c17)))))))))))))))), (g4 _ (by omega)).trans ((d33 _ (by omega)).trans ((d32 _ (by omega)).trans ((d31 _ (by omega)).trans ((d30 _ (by omega)).trans ((d29 _ (by omega)).trans ((d28 _ (by omega)).trans ((d27 _ (by omega)).trans ((d26 _ (by omega)).trans ((d25 _ (by omega)).trans ((d24 _ (by omega)).trans ((d23 _ (by omega)).trans ((d22 _ (by omega)).trans ((d21 _ (by omega)).trans ((d20 _ (by omega)).trans c19)))))))))))))), (g4 _ (by omega)).trans ((d33 _ (by omega)).trans ((d32 _ (by omega)).trans ((d31 _ (by omega)).trans ((d30 _ (by omega)).trans ((d29 _ (by omega)).trans ((d28 _ (by omega)).trans ((d27 _ (by omega)).trans ((d26 _ (by omega)).trans ((d25 _ (by omega)).trans ((d24 _ (by omega)).trans ((d23 _ (by omega)).trans ((d22 _ (by omega)).trans c21)))))))))))), (g4 _ (by omega)).trans ((d33 _ (by omega)).trans ((d32 _ (by omega)).trans ((d31 _ (by omega)).trans ((d30 _ (by omega)).trans ((d29 _ (by omega)).trans ((d28 _ (by omega)).trans ((d27 _ (by omega)).trans ((d26 _ (by omega)).trans ((d25 _ (by omega)).trans ((d24 _ (by omega)).trans c23)))))))))), (g4 _ (by omega)).trans ((d33 _ (by omega)).trans ((d32 _ (by omega)).trans ((d31 _ (by omega)).trans ((d30 _ (by omega)).trans ((d29 _ (by omega)).trans ((d28 _ (by omega)).trans ((d27 _ (by omega)).trans ((d26 _ (by omega)).trans c25)))))))), (g4 _ (by omega)).trans ((d33 _ (by omega)).trans ((d32 _ (by omega)).trans ((d31 _ (by omega)).trans ((d30 _ (by omega)).trans ((d29 _ (by omega)).trans ((d28 _ (by omega)).trans c27)))))), (g4 _ (by omega)).trans ((d33 _ (by omega)).trans ((d32 _ (by omega)).trans ((d31 _ (by omega)).trans ((d30 _ (by omega)).trans c29))))⟩
  rw [show r29 t = _ from e0, e1, e2, e3, e4, e5, e6, e7, e8, e9, e10, e11, e12, e13, e14]
  exact (g4 k (by omega)).trans ((d33 _ (by omega)).trans ((d32 _ (by omega)).trans ((d31 _ (by omega)).trans c30)))
def ShQ (h : Ht) (ρ' : Nat → Nat) (F' : Nat → va_E) (t k i : Nat) : Prop := F' (t + 2 * i) = .inr (3, [.ref (ρ' (t + 2 * i + 1)), .int 0, .int 0]) ∧ F' (t + 2 * i + 1) = .inl (h.2.2.1, 40, .inl (fun _ => 0))
theorem ps_loop {h : Ht} {t k pm b q : Nat} {c0 s0 : Nat} {Q : (Nat → Nat) → Nat → (Nat → va_E) → Prop} {fs : List Value} {F0 : Nat → va_E} {ρ0 : Nat → Nat} {rm : Room} {mc ms : Nat} (hk : k < t) (hpm : pm < t) (hne : k ≠ pm) (hb : ρ0 k = b) (hq : ρ0 pm = q) (hfs : fs[5]? = some (.ref q)) (hR : 2 ≤ rm.frames ∧ 32 ≤ rm.locals) (hc : c0 + 8 ≤ rm.cells) (hs : s0 + 172 ≤ rm.slots) : ∀ (n i : Nat) (ρ : Nat → Nat) (F : Nat → va_E) (f : Nat → Option Nat), i + n = 4 → (∀ j, j < t → ρ j = ρ0 j) → F k = .inr (5, fs) → F pm = .inl (h.2.2.2.2, 4, .inr (.inr (.inr (.inr f)))) → (∀ j, j < t → j ≠ pm → F j = F0 j) → (∀ j, j < i → f j = some (ρ (t + 2 * j)) ∧ ShQ h ρ F t k j) → (∀ (ρ' : Nat → Nat) (F' : Nat → va_E) (f' : Nat → Option Nat), (∀ j, j < t → ρ' j = ρ0 j) → F' pm = .inl (h.2.2.2.2, 4, .inr (.inr (.inr (.inr f')))) → (∀ j, j < t → j ≠ pm → F' j = F0 j) → (∀ j, j < 4 → f' j = some (ρ' (t + 2 * j)) ∧ ShQ h ρ' F' t k j) → Cv h mtX5_init rm mc ms (c0 + 8) (s0 + 172) 106 [some (.ref b), some (.int (nI 4))] [] ρ' (t + 8) F' Q) → Cv h mtX5_init rm mc ms (c0 + 2 * i) (s0 + 43 * i) 82 [some (.ref b), some (.int (nI i))] [] ρ (t + 2 * i) F Q := by
  intro n
  induction n with
  | zero =>
    intro i ρ F f hi hr hF hP ho hf kk
    have e : i = 4 := by omega
    subst e
    refine c_iload_n dX5_init_82 rfl ?_
    refine c_iconst (4 : Int32) dX5_init_83 (by decide) ?_
    refine c_icmp_ge 106 dX5_init_84 (by decide) (fun _ => ?_) (fun z => absurd (by decide) z)
    exact kk ρ F f hr hP ho hf
  | succ n ih =>
    intro i ρ F f hi hr hF hP ho hf kk
    have hlt : i < 4 := by omega
    refine c_iload_n dX5_init_82 rfl ?_
    refine c_iconst (4 : Int32) dX5_init_83 (by decide) ?_
    refine c_icmp_ge 106 dX5_init_84 (by decide) (fun z => absurd z (nI_ge (b := 4) hlt (by decide))) (fun _ => ?_)
    refine c_aload_n dX5_init_87 rfl ?_
    refine c_getR 1 38 fa_RX5_35 rfl (by omega) ((hr k (by omega)).trans hb) hF hfs dX5_init_88 ?_
    refine c_iload_n dX5_init_91 rfl ?_
    refine c_new nw_RX5_33 (by omega) (by omega) dX5_init_92 (fun r1 F1 q1 a1 b1 c1 d1 => ?_)
    refine c_dup dX5_init_95 ?_
    refine c_callN (S := [.ref q1, .int (nI i), .ref q]) (rm2 := { frames := 1, cells := 1, slots := 40, locals := 12 }) (mc2 := 1) (ms2 := 40) cin_RX5_50 ⟨hR.1, hR.2⟩ rfl rfl ⟨by omega, by omega⟩ (Nat.le_of_ble_eq_true rfl) dX5_init_96 (cc_Sheet (k := t + 2 * i) (by omega) a1 c1) (fun r2 t2 F2 z => ?_)
    obtain ⟨rfl, z2, z3, z4, z5⟩ := z
    refine c_aastS (k := pm) (k2 := t + 2 * i) (by omega) ((z2 pm (by omega)).trans ((b1 pm (by omega)).trans ((hr pm (by omega)).trans hq))) ((z3 pm (by omega) (by omega)).trans ((d1 pm (by omega)).trans hP)) (by omega) ((z2 _ (by omega)).trans a1) z4 (vp_in_nI hlt (by decide)) dX5_init_99 (fun F3 c3 d3 => ?_)
    refine c_iinc (nI (i + 1)) dX5_init_100 rfl (nI_1 i) (by decide) rfl ?_
    refine c_goto 82 dX5_init_103 (by decide) ?_
    rw [nI_clamp (by omega)] at c3
    refine ih (i + 1) r2 F3 _ (by omega) (fun j hj => (z2 j (by omega)).trans ((b1 j (by omega)).trans (hr j hj))) ((d3 k (by omega)).trans ((z3 k (by omega) (by omega)).trans ((d1 k (by omega)).trans hF))) c3 (fun j h1 h2 => (d3 j h2).trans ((z3 j (by omega) (by omega)).trans ((d1 j (by omega)).trans (ho j h1 h2)))) (fun j hj => ?_) kk
    by_cases e : j = i
    · subst e
      exact ⟨by rw [up_self, (z2 _ (by omega)).trans a1], (d3 _ (by omega)).trans z4, (d3 _ (by omega)).trans z5⟩
    · obtain ⟨g1, g2, g3⟩ := hf j (by omega)
      refine ⟨?_, (d3 _ (by omega)).trans ((z3 _ (by omega) (by omega)).trans ((d1 _ (by omega)).trans ?_)), (d3 _ (by omega)).trans ((z3 _ (by omega) (by omega)).trans ((d1 _ (by omega)).trans g3))⟩
      · rw [up_ne e, g1, z2 _ (by omega), b1 _ (by omega)]
      · rw [g2, z2 _ (by omega), b1 _ (by omega)]
def RoadC (h : Ht) (ρ : Nat → Nat) (F : Nat → va_E) (r : Nat) : Prop := F r = .inr (2, [.ref (ρ (r + 1)), .ref (ρ (r + 2)), .int 0, .int 0, .int 0, .int 0, .int 40, .int 5, .int 0, .int 0, .int 0, .int 0, .int 0, .int 1]) ∧ (∃ f, F (r + 1) = .inl (h.2.2.2.1, 8, .inr (.inr (.inr (.inr f)))) ∧ ∀ j, j < 8 → f j = some (ρ (r + 3 + j))) ∧ (∃ f, F (r + 2) = .inl (h.2.2.1, 10, .inl f) ∧ ∀ j, j < 10 → f j = -1) ∧ ∀ j, j < 8 → F (r + 3 + j) = .inr (1, [.int 0, .int 0, .int 0, .int 0, .int 0, .int 0])
theorem RoadC.of {h : Ht} {ρ ρ' : Nat → Nat} {F F' : Nat → va_E} {r t : Nat} (z : RoadQ h ρ (r + 1) r F ρ' t F') : RoadC h ρ' F' r := by
  obtain ⟨-, -, -, z4, z5, z6, z7⟩ := z
  refine ⟨z4, z5, z6, fun j hj => z7 j hj⟩
theorem RoadC.to {h : Ht} {ρ ρ' : Nat → Nat} {F F' : Nat → va_E} {r : Nat} (z : RoadC h ρ F r) (h1 : ∀ j, r ≤ j → j < r + 11 → ρ' j = ρ j) (h2 : ∀ j, r ≤ j → j < r + 11 → F' j = F j) : RoadC h ρ' F' r := by
  obtain ⟨z4, ⟨f, z5, z6⟩, ⟨f2, z7, z8⟩, z9⟩ := z
  refine ⟨?_, ⟨f, (h2 _ (by omega) (by omega)).trans z5, fun j hj => ?_⟩, ⟨f2, (h2 _ (by omega) (by omega)).trans z7, z8⟩, fun j hj => (h2 _ (by omega) (by omega)).trans (z9 j hj)⟩
  · rw [h1 _ (by omega) (by omega), h1 _ (by omega) (by omega)]
    exact (h2 _ (by omega) (by omega)).trans z4
  · rw [h1 _ (by omega) (by omega)]
    exact z6 j hj
def PlanC (h : Ht) (ρ : Nat → Nat) (F : Nat → va_E) (r t : Nat) : Prop := F r = .inr (0, [.ref (ρ t), .int 0, .int 0, .int 0, .int 1, .int 0, .ref (ρ (t + 1)), .ref (ρ (t + 2)), .ref (ρ (t + 3)), .ref (ρ (t + 4)), .ref (ρ (t + 5)), .ref (ρ (t + 6)), .ref (ρ (t + 7))]) ∧ F t = .inl (h.2.2.1, 8, .inl (fun _ => 0)) ∧ F (t + 1) = .inl (h.2.2.1, 10, .inl (fun _ => 0)) ∧ F (t + 2) = .inl (h.2.2.1, 100, .inl (fun _ => 0)) ∧ F (t + 3) = .inl (h.2.2.1, 8, .inl (fun _ => 0)) ∧ F (t + 4) = .inl (h.2.2.1, 8, .inl (fun _ => 0)) ∧ F (t + 5) = .inl (h.2.2.1, 8, .inl (fun _ => 0)) ∧ (∃ f, F (t + 6) = .inl (h.2.2.1, 2048, .inl f) ∧ ∀ j, j < 2048 → f j = -1) ∧ F (t + 7) = .inl (h.2.2.1, 2048, .inl (fun _ => 0))
theorem PlanC.to {h : Ht} {ρ ρ' : Nat → Nat} {F F' : Nat → va_E} {r t : Nat} (z : PlanC h ρ F r t) (h0 : F' r = F r) (h1 : ∀ j, t ≤ j → j < t + 8 → ρ' j = ρ j) (h2 : ∀ j, t ≤ j → j < t + 8 → F' j = F j) : PlanC h ρ' F' r t := by
  obtain ⟨z1, z2, z3, z4, z5, z6, z7, ⟨f, z8, z9⟩, z10⟩ := z
  refine ⟨?_, (h2 _ (by omega) (by omega)).trans z2, (h2 _ (by omega) (by omega)).trans z3, (h2 _ (by omega) (by omega)).trans z4, (h2 _ (by omega) (by omega)).trans z5, (h2 _ (by omega) (by omega)).trans z6, (h2 _ (by omega) (by omega)).trans z7, ⟨f, (h2 _ (by omega) (by omega)).trans z8, z9⟩, (h2 _ (by omega) (by omega)).trans z10⟩
  rw [h1 t (by omega) (by omega), h1 (t + 1) (by omega) (by omega), h1 (t + 2) (by omega) (by omega), h1 (t + 3) (by omega) (by omega), h1 (t + 4) (by omega) (by omega), h1 (t + 5) (by omega) (by omega), h1 (t + 6) (by omega) (by omega), h1 (t + 7) (by omega) (by omega)]
  exact h0.trans z1
def PPQ (h : Ht) (b : Nat) (ρ : Nat → Nat) (t : Nat) (F : Nat → va_E) : Prop := t = 55 ∧ ρ 0 = b ∧ F 0 = .inr (5, [.ref (ρ 1), .ref (ρ 12), .ref (ρ 23), .int 0, .ref (ρ 34), .ref (ρ 36), .ref (ρ 37), .ref (ρ 38)]) ∧ RoadC h ρ F 1 ∧ RoadC h ρ F 12 ∧ RoadC h ρ F 23 ∧ F 34 = .inr (4, [.ref (ρ 35), .int 0, .int 3, .int 0, .int 0, .int 0]) ∧ F 35 = .inl (h.2.2.1, 120, .inl (fun _ => 0)) ∧ (∃ f, F 36 = .inl (h.2.2.2.2, 4, .inr (.inr (.inr (.inr f)))) ∧ ∀ j, j < 4 → f j = some (ρ (47 + 2 * j))) ∧ F 37 = .inl (h.2.2.1, 7, .inl (fun _ => 0)) ∧ PlanC h ρ F 38 39 ∧ ∀ j, j < 4 → ShQ h ρ F 47 0 j
set_option maxRecDepth 20000 in
theorem cc_PP {h : Ht} {ρ : Nat → Nat} {b : Nat} {F : Nat → va_E} (hb : ρ 0 = b) (hF : F 0 = .inr (5, [.null, .null, .null, .int 0, .null, .null, .null, .null])) : CvM h mtX5_init { frames := 3, cells := 54, slots := 4800, locals := 53 } 54 4800 [.ref b] ρ 1 F (PPQ h b) := by
  refine cvm_of [some (.ref b), none] 1 (by decide +kernel) (Nat.le_of_ble_eq_true rfl) rfl ?_
  refine c_aload_n dX5_init_0 rfl ?_
  refine c_objinit ⟨wl_RX5_1, wm_oi, wc_oi⟩ dX5_init_1 (Nat.le_of_ble_eq_true rfl) (Nat.le_of_ble_eq_true rfl) ?_
  refine c_aload_n dX5_init_4 rfl ?_
  refine c_new nw_RX5_7 (Nat.le_of_ble_eq_true rfl) (Nat.le_of_ble_eq_true rfl) dX5_init_5 (fun r1 F1 q1 a1 b1 c1 d1 => ?_)
  refine c_dup dX5_init_8 ?_
  refine c_callI (S := [.ref q1, .ref b]) (rm2 := { frames := 2, cells := 10, slots := 66, locals := 32 }) (mc2 := 10) (ms2 := 66) ci_RX5_9 ⟨Nat.le_of_ble_eq_true rfl, Nat.le_of_ble_eq_true rfl⟩ rfl rfl ⟨Nat.le_of_ble_eq_true rfl, Nat.le_of_ble_eq_true rfl⟩ (Nat.le_of_ble_eq_true rfl) dX5_init_9 (cc_Road (k := 1) (by omega) a1 c1) (fun r2 t2 F2 z2 => ?_)
  have y2 := z2
  obtain ⟨rfl, e2, f2, -, -, -, -⟩ := z2
  have k2 := RoadC.of (r := 1) y2
  refine c_putF 1 ff_RX5_10 rfl rfl (by omega) ((e2 0 (by omega)).trans ((b1 0 (by omega)).trans hb)) ((f2 0 (by omega) (by omega)).trans ((d1 0 (by omega)).trans hF)) (Nat.le_of_ble_eq_true rfl) rfl rfl dX5_init_12 (fun F3 c3 d3 => ?_)
  have c3 : F3 0 = .inr (5, [.ref q1, .null, .null, .int 0, .null, .null, .null, .null]) := c3
  refine c_aload_n dX5_init_15 rfl ?_
  refine c_new nw_RX5_7 (Nat.le_of_ble_eq_true rfl) (Nat.le_of_ble_eq_true rfl) dX5_init_16 (fun r4 F4 q4 a4 b4 c4 d4 => ?_)
  refine c_dup dX5_init_19 ?_
  refine c_callI (S := [.ref q4, .ref b]) (rm2 := { frames := 2, cells := 10, slots := 66, locals := 32 }) (mc2 := 10) (ms2 := 66) ci_RX5_9 ⟨Nat.le_of_ble_eq_true rfl, Nat.le_of_ble_eq_true rfl⟩ rfl rfl ⟨Nat.le_of_ble_eq_true rfl, Nat.le_of_ble_eq_true rfl⟩ (Nat.le_of_ble_eq_true rfl) dX5_init_20 (cc_Road (k := 12) (by omega) a4 c4) (fun r5 t5 F5 z5 => ?_)
  have y5 := z5
  obtain ⟨rfl, e5, f5, -, -, -, -⟩ := z5
  have k5 := RoadC.of (r := 12) y5
  refine c_putF 1 ff_RX5_16 rfl rfl (by omega) ((e5 0 (by omega)).trans ((b4 0 (by omega)).trans ((e2 0 (by omega)).trans ((b1 0 (by omega)).trans hb)))) ((f5 0 (by omega) (by omega)).trans ((d4 0 (by omega)).trans c3)) (Nat.le_of_ble_eq_true rfl) rfl rfl dX5_init_23 (fun F6 c6 d6 => ?_)
  have c6 : F6 0 = .inr (5, [.ref q1, .ref q4, .null, .int 0, .null, .null, .null, .null]) := c6
  refine c_aload_n dX5_init_26 rfl ?_
  refine c_new nw_RX5_7 (Nat.le_of_ble_eq_true rfl) (Nat.le_of_ble_eq_true rfl) dX5_init_27 (fun r7 F7 q7 a7 b7 c7 d7 => ?_)
  refine c_dup dX5_init_30 ?_
  refine c_callI (S := [.ref q7, .ref b]) (rm2 := { frames := 2, cells := 10, slots := 66, locals := 32 }) (mc2 := 10) (ms2 := 66) ci_RX5_9 ⟨Nat.le_of_ble_eq_true rfl, Nat.le_of_ble_eq_true rfl⟩ rfl rfl ⟨Nat.le_of_ble_eq_true rfl, Nat.le_of_ble_eq_true rfl⟩ (Nat.le_of_ble_eq_true rfl) dX5_init_31 (cc_Road (k := 23) (by omega) a7 c7) (fun r8 t8 F8 z8 => ?_)
  have y8 := z8
  obtain ⟨rfl, e8, f8, -, -, -, -⟩ := z8
  have k8 := RoadC.of (r := 23) y8
  refine c_putF 1 ff_RX5_19 rfl rfl (by omega) ((e8 0 (by omega)).trans ((b7 0 (by omega)).trans ((e5 0 (by omega)).trans ((b4 0 (by omega)).trans ((e2 0 (by omega)).trans ((b1 0 (by omega)).trans hb)))))) ((f8 0 (by omega) (by omega)).trans ((d7 0 (by omega)).trans c6)) (Nat.le_of_ble_eq_true rfl) rfl rfl dX5_init_34 (fun F9 c9 d9 => ?_)
  have c9 : F9 0 = .inr (5, [.ref q1, .ref q4, .ref q7, .int 0, .null, .null, .null, .null]) := c9
  refine c_aload_n dX5_init_37 rfl ?_
  refine c_iconst (0 : Int32) dX5_init_38 (by decide) ?_
  refine c_put 1 fw_RX5_22 rfl (by omega) ((e8 0 (by omega)).trans ((b7 0 (by omega)).trans ((e5 0 (by omega)).trans ((b4 0 (by omega)).trans ((e2 0 (by omega)).trans ((b1 0 (by omega)).trans hb)))))) c9 (Nat.le_of_ble_eq_true rfl) (by decide +kernel) (by decide +kernel) dX5_init_39 (fun F10 c10 d10 => ?_)
  have c10 : F10 0 = .inr (5, [.ref q1, .ref q4, .ref q7, .int 0, .null, .null, .null, .null]) := c10
  refine c_aload_n dX5_init_42 rfl ?_
  refine c_new nw_RX5_26 (Nat.le_of_ble_eq_true rfl) (Nat.le_of_ble_eq_true rfl) dX5_init_43 (fun r11 F11 q11 a11 b11 c11 d11 => ?_)
  refine c_dup dX5_init_46 ?_
  refine c_callN (S := [.ref q11, .ref b]) (rm2 := { frames := 1, cells := 1, slots := 120, locals := 12 }) (mc2 := 1) (ms2 := 120) cin_RX5_28 ⟨Nat.le_of_ble_eq_true rfl, Nat.le_of_ble_eq_true rfl⟩ rfl rfl ⟨Nat.le_of_ble_eq_true rfl, Nat.le_of_ble_eq_true rfl⟩ (Nat.le_of_ble_eq_true rfl) dX5_init_47 (cc_Tape (k := 34) (by omega) a11 c11) (fun r12 t12 F12 z12 => ?_)
  have y12 := z12
  obtain ⟨rfl, e12, f12, u12, v12⟩ := z12
  refine c_putF 1 ff_RX5_29 rfl rfl (by omega) ((e12 0 (by omega)).trans ((b11 0 (by omega)).trans ((e8 0 (by omega)).trans ((b7 0 (by omega)).trans ((e5 0 (by omega)).trans ((b4 0 (by omega)).trans ((e2 0 (by omega)).trans ((b1 0 (by omega)).trans hb)))))))) ((f12 0 (by omega) (by omega)).trans ((d11 0 (by omega)).trans c10)) (Nat.le_of_ble_eq_true rfl) rfl rfl dX5_init_50 (fun F13 c13 d13 => ?_)
  have c13 : F13 0 = .inr (5, [.ref q1, .ref q4, .ref q7, .int 0, .ref q11, .null, .null, .null]) := c13
  refine c_aload_n dX5_init_53 rfl ?_
  refine c_iconst (4 : Int32) dX5_init_54 (by decide) ?_
  refine c_anewS 4 wcl_RX5_33 (by decide) (by decide) (Nat.le_of_ble_eq_true rfl) (Nat.le_of_ble_eq_true rfl) (Nat.le_of_ble_eq_true rfl) dX5_init_55 (fun r14 F14 q14 a14 b14 c14 d14 => ?_)
  refine c_putF 1 ff_RX5_35 rfl rfl (by omega) ((b14 0 (by omega)).trans ((e12 0 (by omega)).trans ((b11 0 (by omega)).trans ((e8 0 (by omega)).trans ((b7 0 (by omega)).trans ((e5 0 (by omega)).trans ((b4 0 (by omega)).trans ((e2 0 (by omega)).trans ((b1 0 (by omega)).trans hb))))))))) ((d14 0 (by omega)).trans c13) (Nat.le_of_ble_eq_true rfl) rfl rfl dX5_init_58 (fun F15 c15 d15 => ?_)
  have c15 : F15 0 = .inr (5, [.ref q1, .ref q4, .ref q7, .int 0, .ref q11, .ref q14, .null, .null]) := c15
  refine c_aload_n dX5_init_61 rfl ?_
  refine c_bipush (7 : Int32) dX5_init_62 (by decide) ?_
  refine c_newa 7 w_arr (by decide) (by decide) (Nat.le_of_ble_eq_true rfl) (Nat.le_of_ble_eq_true rfl) (Nat.le_of_ble_eq_true rfl) dX5_init_64 (fun r16 F16 q16 a16 b16 c16 d16 => ?_)
  refine c_putF 1 ff_RX5_39 rfl rfl (by omega) ((b16 0 (by omega)).trans ((b14 0 (by omega)).trans ((e12 0 (by omega)).trans ((b11 0 (by omega)).trans ((e8 0 (by omega)).trans ((b7 0 (by omega)).trans ((e5 0 (by omega)).trans ((b4 0 (by omega)).trans ((e2 0 (by omega)).trans ((b1 0 (by omega)).trans hb)))))))))) ((d16 0 (by omega)).trans c15) (Nat.le_of_ble_eq_true rfl) rfl rfl dX5_init_66 (fun F17 c17 d17 => ?_)
  have c17 : F17 0 = .inr (5, [.ref q1, .ref q4, .ref q7, .int 0, .ref q11, .ref q14, .ref q16, .null]) := c17
  refine c_aload_n dX5_init_69 rfl ?_
  refine c_new nw_RX5_43 (Nat.le_of_ble_eq_true rfl) (Nat.le_of_ble_eq_true rfl) dX5_init_70 (fun r18 F18 q18 a18 b18 c18 d18 => ?_)
  refine c_dup dX5_init_73 ?_
  refine c_callI (S := [.ref q18, .ref b]) (rm2 := { frames := 1, cells := 8, slots := 4238, locals := 12 }) (mc2 := 8) (ms2 := 4238) ci_RX5_45 ⟨Nat.le_of_ble_eq_true rfl, Nat.le_of_ble_eq_true rfl⟩ rfl rfl ⟨Nat.le_of_ble_eq_true rfl, Nat.le_of_ble_eq_true rfl⟩ (Nat.le_of_ble_eq_true rfl) dX5_init_74 (cc_Planner (k := 38) (by omega) a18 c18) (fun r19 t19 F19 z19 => ?_)
  have y19 := z19
  obtain ⟨rfl, e19, f19, g19⟩ := z19
  have kp : PlanC h r19 F19 38 39 := g19
  refine c_putF 1 ff_RX5_46 rfl rfl (by omega) ((e19 0 (by omega)).trans ((b18 0 (by omega)).trans ((b16 0 (by omega)).trans ((b14 0 (by omega)).trans ((e12 0 (by omega)).trans ((b11 0 (by omega)).trans ((e8 0 (by omega)).trans ((b7 0 (by omega)).trans ((e5 0 (by omega)).trans ((b4 0 (by omega)).trans ((e2 0 (by omega)).trans ((b1 0 (by omega)).trans hb)))))))))))) ((f19 0 (by omega) (by omega)).trans ((d18 0 (by omega)).trans c17)) (Nat.le_of_ble_eq_true rfl) rfl rfl dX5_init_77 (fun F20 c20 d20 => ?_)
  have c20 : F20 0 = .inr (5, [.ref q1, .ref q4, .ref q7, .int 0, .ref q11, .ref q14, .ref q16, .ref q18]) := c20
  refine c_iconst (0 : Int32) dX5_init_80 (by decide) ?_
  refine c_istore_n dX5_init_81 (by decide) rfl ?_
  have f0 := c20
  have f36 := ((d20 36 (by omega)).trans ((f19 36 (by omega) (by omega)).trans ((d18 36 (by omega)).trans ((d17 36 (by omega)).trans ((d16 36 (by omega)).trans ((d15 36 (by omega)).trans c14))))))
  have r0 := ((e19 0 (by omega)).trans ((b18 0 (by omega)).trans ((b16 0 (by omega)).trans ((b14 0 (by omega)).trans ((e12 0 (by omega)).trans ((b11 0 (by omega)).trans ((e8 0 (by omega)).trans ((b7 0 (by omega)).trans ((e5 0 (by omega)).trans ((b4 0 (by omega)).trans ((e2 0 (by omega)).trans ((b1 0 (by omega)).trans hb))))))))))))
  have r36 := ((e19 36 (by omega)).trans ((b18 36 (by omega)).trans ((b16 36 (by omega)).trans a14)))
  refine ps_loop (h := h) (t := 47) (k := 0) (pm := 36) (ρ0 := r19) (F0 := F20) (by omega) (by omega) (by omega) r0 r36 rfl ⟨Nat.le_of_ble_eq_true rfl, Nat.le_of_ble_eq_true rfl⟩ (c0 := 46) (s0 := 4628) (Nat.le_of_ble_eq_true rfl) (Nat.le_of_ble_eq_true rfl) 4 0 _ _ _ rfl (fun _ _ => rfl) f0 f36 (fun _ _ _ => rfl) (fun j hj => absurd hj (Nat.not_lt_zero j)) (fun r9 F9 f9 g1 g2 g3 g4 => ?_)
  have kr1 : RoadC h r9 F9 1 := k2.to (fun j h1 h2 => (g1 j (by omega)).trans ((e19 j (by omega)).trans ((b18 j (by omega)).trans ((b16 j (by omega)).trans ((b14 j (by omega)).trans ((e12 j (by omega)).trans ((b11 j (by omega)).trans ((e8 j (by omega)).trans ((b7 j (by omega)).trans ((e5 j (by omega)).trans ((b4 j (by omega)).trans rfl))))))))))) (fun j h1 h2 => (g3 j (by omega) (by omega)).trans ((d20 j (by omega)).trans ((f19 j (by omega) (by omega)).trans ((d18 j (by omega)).trans ((d17 j (by omega)).trans ((d16 j (by omega)).trans ((d15 j (by omega)).trans ((d14 j (by omega)).trans ((d13 j (by omega)).trans ((f12 j (by omega) (by omega)).trans ((d11 j (by omega)).trans ((d10 j (by omega)).trans ((d9 j (by omega)).trans ((f8 j (by omega) (by omega)).trans ((d7 j (by omega)).trans ((d6 j (by omega)).trans ((f5 j (by omega) (by omega)).trans ((d4 j (by omega)).trans ((d3 j (by omega)).trans rfl)))))))))))))))))))
  have kr12 : RoadC h r9 F9 12 := k5.to (fun j h1 h2 => (g1 j (by omega)).trans ((e19 j (by omega)).trans ((b18 j (by omega)).trans ((b16 j (by omega)).trans ((b14 j (by omega)).trans ((e12 j (by omega)).trans ((b11 j (by omega)).trans ((e8 j (by omega)).trans ((b7 j (by omega)).trans rfl))))))))) (fun j h1 h2 => (g3 j (by omega) (by omega)).trans ((d20 j (by omega)).trans ((f19 j (by omega) (by omega)).trans ((d18 j (by omega)).trans ((d17 j (by omega)).trans ((d16 j (by omega)).trans ((d15 j (by omega)).trans ((d14 j (by omega)).trans ((d13 j (by omega)).trans ((f12 j (by omega) (by omega)).trans ((d11 j (by omega)).trans ((d10 j (by omega)).trans ((d9 j (by omega)).trans ((f8 j (by omega) (by omega)).trans ((d7 j (by omega)).trans ((d6 j (by omega)).trans rfl))))))))))))))))
  have kr23 : RoadC h r9 F9 23 := k8.to (fun j h1 h2 => (g1 j (by omega)).trans ((e19 j (by omega)).trans ((b18 j (by omega)).trans ((b16 j (by omega)).trans ((b14 j (by omega)).trans ((e12 j (by omega)).trans ((b11 j (by omega)).trans rfl))))))) (fun j h1 h2 => (g3 j (by omega) (by omega)).trans ((d20 j (by omega)).trans ((f19 j (by omega) (by omega)).trans ((d18 j (by omega)).trans ((d17 j (by omega)).trans ((d16 j (by omega)).trans ((d15 j (by omega)).trans ((d14 j (by omega)).trans ((d13 j (by omega)).trans ((f12 j (by omega) (by omega)).trans ((d11 j (by omega)).trans ((d10 j (by omega)).trans ((d9 j (by omega)).trans rfl)))))))))))))
  have kp2 : PlanC h r9 F9 38 39 := kp.to ((g3 38 (by omega) (by omega)).trans ((d20 38 (by omega)).trans rfl)) (fun j h1 h2 => (g1 j (by omega)).trans rfl) (fun j h1 h2 => (g3 j (by omega) (by omega)).trans ((d20 j (by omega)).trans rfl))
  have p1 : r9 1 = q1 := (g1 1 (by omega)).trans ((e19 1 (by omega)).trans ((b18 1 (by omega)).trans ((b16 1 (by omega)).trans ((b14 1 (by omega)).trans ((e12 1 (by omega)).trans ((b11 1 (by omega)).trans ((e8 1 (by omega)).trans ((b7 1 (by omega)).trans ((e5 1 (by omega)).trans ((b4 1 (by omega)).trans ((e2 1 (by omega)).trans a1)))))))))))
  have p12 : r9 12 = q4 := (g1 12 (by omega)).trans ((e19 12 (by omega)).trans ((b18 12 (by omega)).trans ((b16 12 (by omega)).trans ((b14 12 (by omega)).trans ((e12 12 (by omega)).trans ((b11 12 (by omega)).trans ((e8 12 (by omega)).trans ((b7 12 (by omega)).trans ((e5 12 (by omega)).trans a4)))))))))
  have p23 : r9 23 = q7 := (g1 23 (by omega)).trans ((e19 23 (by omega)).trans ((b18 23 (by omega)).trans ((b16 23 (by omega)).trans ((b14 23 (by omega)).trans ((e12 23 (by omega)).trans ((b11 23 (by omega)).trans ((e8 23 (by omega)).trans a7)))))))
  have p34 : r9 34 = q11 := (g1 34 (by omega)).trans ((e19 34 (by omega)).trans ((b18 34 (by omega)).trans ((b16 34 (by omega)).trans ((b14 34 (by omega)).trans ((e12 34 (by omega)).trans a11)))))
  have p36 : r9 36 = q14 := (g1 36 (by omega)).trans ((e19 36 (by omega)).trans ((b18 36 (by omega)).trans ((b16 36 (by omega)).trans a14)))
  have p37 : r9 37 = q16 := (g1 37 (by omega)).trans ((e19 37 (by omega)).trans ((b18 37 (by omega)).trans a16))
  have p38 : r9 38 = q18 := (g1 38 (by omega)).trans ((e19 38 (by omega)).trans a18)
  have p35 : r9 35 = r12 35 := (g1 35 (by omega)).trans ((e19 35 (by omega)).trans ((b18 35 (by omega)).trans ((b16 35 (by omega)).trans ((b14 35 (by omega)).trans rfl))))
  refine c_vret rfl dX5_init_106 ⟨rfl, (g1 0 (by omega)).trans r0, ?_, kr1, kr12, kr23, ?_, (g3 35 (by omega) (by omega)).trans ((d20 35 (by omega)).trans ((f19 35 (by omega) (by omega)).trans ((d18 35 (by omega)).trans ((d17 35 (by omega)).trans ((d16 35 (by omega)).trans ((d15 35 (by omega)).trans ((d14 35 (by omega)).trans ((d13 35 (by omega)).trans v12)))))))), ⟨f9, g2, fun j hj => (g4 j hj).1⟩, (g3 37 (by omega) (by omega)).trans ((d20 37 (by omega)).trans ((f19 37 (by omega) (by omega)).trans ((d18 37 (by omega)).trans ((d17 37 (by omega)).trans c16)))), kp2, fun j hj => (g4 j hj).2⟩
  · rw [p1, p12, p23, p34, p36, p37, p38]
    exact (g3 0 (by omega) (by omega)).trans f0
  · rw [p35]
    exact (g3 34 (by omega) (by omega)).trans ((d20 34 (by omega)).trans ((f19 34 (by omega) (by omega)).trans ((d18 34 (by omega)).trans ((d17 34 (by omega)).trans ((d16 34 (by omega)).trans ((d15 34 (by omega)).trans ((d14 34 (by omega)).trans ((d13 34 (by omega)).trans u12))))))))
