/-! String constants: rows, and the JDK's own methods that are reached on them -/
def Sr (r : Nat) : Prop := ∃ i, i < 14 ∧ r = 1000 + i
theorem sr_of (i : Nat) (h : i < 14) : Sr (1000 + i) := ⟨i, h, rfl⟩
def jsl (r : Nat) : Nat := strLen.getD (r - 1000) 0
def jslen (r : Nat) : Int32 := nI (jsl r)
def jschr (r k : Nat) : Int32 := (strByt.getD (r - 1000) []).getD k 0 &&& 255
section ES
variable {g : Gt} {μ : Mt} {fr lo pc : Nat} {L L' : List (Option Value)} {S : List Value} {M : Me} {Q : Option Value → Me → Prop}
theorem strIx_lt {i : Nat} {q : Nat × String} (h : strIx[i]? = some q) : i < 14 := (List.getElem?_eq_some_iff.mp h).1
theorem e_ldcS {idx r' : Nat} {tx : String} (i : Nat) (he : 1000 + i = r') (hd : decode μ.2.1 pc = .ok (.ldc idx, 2)) (hi : strIx[i]? = some (idx, tx)) (hc : μ.1.cls = RX4) (k : Ev g μ fr lo (pc + 2) L (.ref r' :: S) M Q) : Ev g μ fr lo pc L S M Q := by
  subst he
  intro p e s m args below meth c H locs A ls C hP hD hS h
  have kk := k p e s m args below meth c H locs A ls C hP hD hS h
  have e1 : (Value.ref (1000 + i) :: S).map (rv (gp g)) = .ref (gS g i) :: S.map (rv (gp g)) := by
    show Value.ref (gp g (1000 + i)) :: _ = _
    rw [(C.G.2.2.2.2.2.2.2.2 i (strIx_lt hi)).1]
  rw [e1] at kk
  exact va_ldcS C.ex C.by_ (by rw [← hc]; exact C.ow) (C.G.2.2.1 i _ hi) hd kk
theorem e_callStr {idx n b f2 l2 : Nat} {ν : Mt} {as st : List Value} (cv : CV μ.1.cls idx ν n) (ib : Sr b) (hR : f2 + 1 ≤ fr ∧ 8 + (ν.2.2.1 + 11) + l2 ≤ lo) (hn : as.length = n) (hst : as.reverse ++ .ref b :: S = st) (h8 : (S.map fun v => v.category).sum ≤ 8) (hd : decode μ.2.1 pc = .ok (.invokevirtual idx, 3)) (hcl : ν.1.cls = "java/lang/String") (hM : EvM g ν f2 l2 (.ref b :: as) M (fun r M' => Ev g μ fr lo (pc + 3) L (r.toList ++ S) M' Q)) : Ev g μ fr lo pc L st M Q := by
  subst hst
  obtain ⟨i, hi, rfl⟩ := ib
  intro p e s m args below meth c H locs A ls C hP hD hS h
  obtain ⟨c1, c2, c3, c4, c5, c6⟩ := cv
  have hrec := vk_recv C.G.2.1 hi hS
  rw [← hcl, ← (C.G.2.2.2.2.2.2.2.2 i hi).1] at hrec
  have hpre := ev_pre (as := .ref (1000 + i) :: as) C hP hD hS
  have hcat : ∀ l : List Value, ((l.map (rv (gp g))).map fun v => v.category) = l.map fun v => v.category := by
    intro l
    rw [List.map_map]
    congr 1
    funext v
    exact rv_cat _ v
  refine ev_run (M0 := M) C hD hS h (va_runV (As := as.map (rv (gp g))) (rest := S.map (rv (gp g))) (C := ν.1.cls) ⟨C.ex, C.by_, C.ml, C.ow, C.ts⟩ (hM H.size) ⟨callB_of n C.ts (mws_good c5) rfl rfl rfl (C.gt c4) (C.gt c1) c6 hR, C.gt c2, C.gt c3⟩ ⟨hpre.1, hrec, hpre.2⟩ rfl (by rw [List.length_map]; exact hn) h.1 ?_ (lv_room (by rw [hcat]; exact h8)) hd ⟨Nat.le_refl _, Nat.le_refl _⟩)
  show (as.reverse ++ .ref (1000 + i) :: S).map (rv (gp g)) = (as.map (rv (gp g))).reverse ++ .ref (gp g (1000 + i)) :: S.map (rv (gp g))
  rw [List.map_append, List.map_reverse]
  rfl
theorem e_getSv {idx i : Nat} (hi : i < 14) (hl : Cond.fieldLink μ.1.cls idx "java/lang/String" "value" "[B" ∈ gtb) (hd : decode μ.2.1 pc = .ok (.getfield idx, 3)) (k : Ev g μ fr lo (pc + 3) L (.ref (2000 + i) :: S) M Q) : Ev g μ fr lo pc L (.ref (1000 + i) :: S) M Q := by
  intro p e s m args below meth c H locs A ls C hP hD hS h
  have kk := k p e s m args below meth c H locs A ls C hP hD hS h
  obtain ⟨e1, e2⟩ := C.G.2.2.2.2.2.2.2.2 i hi
  have f1 : (Value.ref (1000 + i) :: S).map (rv (gp g)) = .ref (gS g i) :: S.map (rv (gp g)) := by
    show Value.ref (gp g (1000 + i)) :: _ = _
    rw [e1]
  have f2 : (Value.ref (2000 + i) :: S).map (rv (gp g)) = .ref (gV g i) :: S.map (rv (gp g)) := by
    show Value.ref (gp g (2000 + i)) :: _ = _
    rw [e2]
  rw [f2] at kk
  rw [f1]
  exact vk_getf C.ex C.by_ (C.G.2.1.1 i hi).2.2.1 hS C.ow (C.gt hl) (fun _ z => z) hd kk
theorem e_getSc {idx i : Nat} (hi : i < 14) (hl : Cond.fieldLink μ.1.cls idx "java/lang/String" "coder" "B" ∈ gtb) (hd : decode μ.2.1 pc = .ok (.getfield idx, 3)) (k : Ev g μ fr lo (pc + 3) L (.int 0 :: S) M Q) : Ev g μ fr lo pc L (.ref (1000 + i) :: S) M Q := by
  intro p e s m args below meth c H locs A ls C hP hD hS h
  have kk := k p e s m args below meth c H locs A ls C hP hD hS h
  obtain ⟨e1, e2⟩ := C.G.2.2.2.2.2.2.2.2 i hi
  have f1 : (Value.ref (1000 + i) :: S).map (rv (gp g)) = .ref (gS g i) :: S.map (rv (gp g)) := by
    show Value.ref (gp g (1000 + i)) :: _ = _
    rw [e1]
  rw [f1]
  exact vk_getf C.ex C.by_ (C.G.2.1.1 i hi).2.1 hS C.ow (C.gt hl) (fun _ z => z) hd kk
theorem e_gsC {idx : Nat} (hl : Cond.fieldLink μ.1.cls idx "java/lang/String" "COMPACT_STRINGS" "Z" ∈ gtb) (hd : decode μ.2.1 pc = .ok (.getstatic idx, 3)) (k : Ev g μ fr lo (pc + 3) L (.int 1 :: S) M Q) : Ev g μ fr lo pc L S M Q := by
  intro p e s m args below meth c H locs A ls C hP hD hS h
  exact va_gets C.ex C.by_ C.G.2.2.2.1 hS C.ow (C.gt hl) (fun _ z => z) hd (k p e s m args below meth c H locs A ls C hP hD hS h)
theorem e_gsF {idx : Nat} (hl : Cond.fieldLink μ.1.cls idx "jdk/internal/util/Preconditions" "SIOOBE_FORMATTER" "Ljava/util/function/BiFunction;" ∈ gtb) (hd : decode μ.2.1 pc = .ok (.getstatic idx, 3)) (k : ∀ v : Value, v.category = 1 → (v = .null ∨ v = .ref 998) → Ev g μ fr lo (pc + 3) L (v :: S) M Q) : Ev g μ fr lo pc L S M Q := by
  intro p e s m args below meth c H locs A ls C hP hD hS h
  rcases C.G.2.2.2.2.1 with z | z
  · exact va_gets C.ex C.by_ z hS C.ow (C.gt hl) (fun _ z => z) hd (k .null rfl (Or.inl rfl) p e s m args below meth c H locs A ls C hP hD hS h)
  · exact va_gets C.ex C.by_ z hS C.ow (C.gt hl) (fun _ z => z) hd (k (.ref 998) rfl (Or.inr rfl) p e s m args below meth c H locs A ls C hP hD hS h)
theorem e_gsT {idx : Nat} (hc : μ.1.cls = RX1) (h37 : idx = 37) (hd : decode μ.2.1 pc = .ok (.getstatic idx, 3)) (k : Ev g μ fr lo (pc + 3) L (.ref 999 :: S) M Q) : Ev g μ fr lo pc L S M Q := by
  subst h37
  intro p e s m args below meth c H locs A ls C hP hD hS h
  have kk := k p e s m args below meth c H locs A ls C hP hD hS h
  have f1 : (Value.ref 999 :: S).map (rv (gp g)) = .ref (gT g) :: S.map (rv (gp g)) := by
    show Value.ref (gp g 999) :: _ = _
    rw [C.G.2.2.2.2.2.2.2.1]
  rw [f1] at kk
  have hw : va_Nw (.fieldLinkNest RX1 37 RX5 "KIND_ABOVE" "[I" RX5) s := C.G.1 _ (by decide +kernel)
  exact va_getsN C.ex C.by_ C.G.2.2.2.2.2.1 hS (by rw [← hc]; exact C.ow) (va_Nw.use rfl hw) (fun _ z => z) hd kk
theorem e_ialdT {i : Int32} {q : Nat} (hin : vp_in i 7) (hk : i.toNatClampNeg = q) (hd : decode μ.2.1 pc = .ok (.iaload, 1)) (k : Ev g μ fr lo (pc + 1) L (.int (kAbove.getD q 0) :: S) M Q) : Ev g μ fr lo pc L (.int i :: .ref 999 :: S) M Q := by
  subst hk
  intro p e s m args below meth c H locs A ls C hP hD hS h
  have f1 : (Value.int i :: .ref 999 :: S).map (rv (gp g)) = .int i :: .ref (gT g) :: S.map (rv (gp g)) := by
    show Value.int i :: .ref (gp g 999) :: _ = _
    rw [C.G.2.2.2.2.2.2.2.1]
  rw [f1]
  exact va_ti C.ex C.by_ C.G.2.2.2.2.2.2.1 hS hin rfl hd (k p e s m args below meth c H locs A ls C hP hD hS h)
theorem e_alenS {i : Nat} (hi : i < 14) (hd : decode μ.2.1 pc = .ok (.arraylength, 1)) (k : Ev g μ fr lo (pc + 1) L (.int (nI (strLen.getD i 0)) :: S) M Q) : Ev g μ fr lo pc L (.ref (2000 + i) :: S) M Q := by
  intro p e s m args below meth c H locs A ls C hP hD hS h
  have f1 : (Value.ref (2000 + i) :: S).map (rv (gp g)) = .ref (gV g i) :: S.map (rv (gp g)) := by
    show Value.ref (gp g (2000 + i)) :: _ = _
    rw [(C.G.2.2.2.2.2.2.2.2 i hi).2]
  rw [f1]
  exact va_tlen C.ex C.by_ (C.G.2.1.1 i hi).2.2.2 hS rfl hd (k p e s m args below meth c H locs A ls C hP hD hS h)
theorem e_baldS {i q : Nat} {x : Int32} (hi : i < 14) (hin : vp_in x (strLen.getD i 0)) (hk : x.toNatClampNeg = q) (hd : decode μ.2.1 pc = .ok (.baload, 1)) (k : Ev g μ fr lo (pc + 1) L (.int ((strByt.getD i []).getD q 0) :: S) M Q) : Ev g μ fr lo pc L (.int x :: .ref (2000 + i) :: S) M Q := by
  subst hk
  intro p e s m args below meth c H locs A ls C hP hD hS h
  have f1 : (Value.int x :: .ref (2000 + i) :: S).map (rv (gp g)) = .int x :: .ref (gV g i) :: S.map (rv (gp g)) := by
    show Value.int x :: .ref (gp g (2000 + i)) :: _ = _
    rw [(C.G.2.2.2.2.2.2.2.2 i hi).2]
  rw [f1]
  exact va_tb C.ex C.by_ (C.G.2.1.1 i hi).2.2.2 hS hin rfl hd (k p e s m args below meth c H locs A ls C hP hD hS h)
theorem e_i2c {x : Int32} (hd : decode μ.2.1 pc = .ok (.i2c, 1)) (k : Ev g μ fr lo (pc + 1) L (.int (x.toUInt32 % 65536).toInt32 :: S) M Q) : Ev g μ fr lo pc L (.int x :: S) M Q :=
  fun p e s m args below meth c H locs A ls C hP hD hS h => lv_i2c (v := (x.toUInt32 % 65536).toInt32) C.ex C.by_ hd rfl (k p e s m args below meth c H locs A ls C hP hD hS h)
end ES
section CS_
variable {g : Gt} {M : Me} {Q : Option Value → Me → Prop}
theorem ctS_coder {i : Nat} (hi : i < 14) (h : Q (some (.int 0)) M) : EvM g mtJ0_coder_7d493 0 0 [.ref (1000 + i)] M Q := by
  refine evm_of [some (.ref (1000 + i))] 0 (by decide +kernel) (Nat.le_of_ble_eq_true rfl) rfl ?_
  refine e_gsC wf_RJ0_38 dJ0_coder_7d493_0 ?_
  refine e_if_eq 13 dJ0_coder_7d493_3 (by decide) (fun c1 => absurd c1 (by decide)) (fun c1 => ?_)
  refine e_aload_n dJ0_coder_7d493_6 rfl ?_
  refine e_getSc hi wf_RJ0_15 dJ0_coder_7d493_7 ?_
  refine e_goto 14 dJ0_coder_7d493_10 (by decide) ?_
  exact e_nret rfl (by decide +kernel) dJ0_coder_7d493_14 h
theorem ctS_isLatin1 {i : Nat} (hi : i < 14) (h : Q (some (.int 1)) M) : EvM g mtJ0_isLatin1_aae02 0 0 [.ref (1000 + i)] M Q := by
  refine evm_of [some (.ref (1000 + i))] 0 (by decide +kernel) (Nat.le_of_ble_eq_true rfl) rfl ?_
  refine e_gsC wf_RJ0_38 dJ0_isLatin1_aae02_0 ?_
  refine e_if_eq 17 dJ0_isLatin1_aae02_3 (by decide) (fun c1 => absurd c1 (by decide)) (fun c1 => ?_)
  refine e_aload_n dJ0_isLatin1_aae02_6 rfl ?_
  refine e_getSc hi wf_RJ0_15 dJ0_isLatin1_aae02_7 ?_
  refine e_if_ne 17 dJ0_isLatin1_aae02_10 (by decide) (fun c2 => absurd rfl c2) (fun c2 => ?_)
  refine e_iconst (1 : Int32) dJ0_isLatin1_aae02_13 (by decide) ?_
  refine e_goto 18 dJ0_isLatin1_aae02_14 (by decide) ?_
  exact e_zret rfl (Or.inr rfl) dJ0_isLatin1_aae02_18 h
theorem strLen_lt : ∀ i, i < 14 → strLen.getD i 0 < 8 := by decide +kernel
theorem ctS_length {b : Nat} (hb : Sr b) (h : Q (some (.int (jslen b))) M) : EvM g mtJ0_length_8abf5 1 20 [.ref b] M Q := by
  obtain ⟨i, hi, rfl⟩ := hb
  have e0 : jslen (1000 + i) = nI (strLen.getD i 0) >>> ((0 : Int32) &&& 31) := by
    unfold jslen jsl
    rw [show 1000 + i - 1000 = i by omega]
    exact (sb_shr0 _).symm
  rw [e0] at h
  refine evm_of [some (.ref (1000 + i))] 0 (by decide +kernel) (Nat.le_of_ble_eq_true rfl) rfl ?_
  refine e_aload_n dJ0_length_8abf5_0 rfl ?_
  refine e_getSv hi wf_RJ0_9 dJ0_length_8abf5_1 ?_
  refine e_alenS hi dJ0_length_8abf5_4 ?_
  refine e_aload_n dJ0_length_8abf5_5 rfl ?_
  refine e_callStr (f2 := 0) (l2 := 0) (ν := mtJ0_coder_7d493) (as := []) cv_RJ0_335 (sr_of i hi) ⟨Nat.le_of_ble_eq_true rfl, Nat.le_of_ble_eq_true rfl⟩ rfl rfl (Nat.le_of_ble_eq_true rfl) dJ0_length_8abf5_6 rfl ?_
  refine ctS_coder hi ?_
  show Ev g mtJ0_length_8abf5 1 20 9 [some (.ref (1000 + i))] [.int 0, .int (nI (strLen.getD i 0))] M Q
  refine e_ishr dJ0_length_8abf5_9 ?_
  exact e_iret rfl dJ0_length_8abf5_10 h
theorem ctS_check3 {x y : Int32} {v : Value} (hv : v = .null ∨ v = .ref 998) (h1 : ¬ x < 0) (h2 : x < y) (h : Q (some (.int x)) M) : EvM g mtJ3_checkIndex_8e157 0 0 [.int x, .int y, v] M Q := by
  rcases hv with rfl | rfl
  · refine evm_of [some (.int x), some (.int y), some .null] 0 (by decide +kernel) (Nat.le_of_ble_eq_true rfl) rfl ?_
    refine e_iload_n dJ3_checkIndex_8e157_0 rfl ?_
    refine e_if_lt 9 dJ3_checkIndex_8e157_1 (by decide) (fun c1 => absurd c1 h1) (fun c1 => ?_)
    refine e_iload_n dJ3_checkIndex_8e157_4 rfl ?_
    refine e_iload_n dJ3_checkIndex_8e157_5 rfl ?_
    refine e_icmp_lt 16 dJ3_checkIndex_8e157_6 (by decide) (fun c2 => ?_) (fun c2 => absurd h2 c2)
    refine e_iload_n dJ3_checkIndex_8e157_16 rfl ?_
    exact e_iret rfl dJ3_checkIndex_8e157_17 h
  · refine evm_of [some (.int x), some (.int y), some (.ref 998)] 0 (by decide +kernel) (Nat.le_of_ble_eq_true rfl) rfl ?_
    refine e_iload_n dJ3_checkIndex_8e157_0 rfl ?_
    refine e_if_lt 9 dJ3_checkIndex_8e157_1 (by decide) (fun c1 => absurd c1 h1) (fun c1 => ?_)
    refine e_iload_n dJ3_checkIndex_8e157_4 rfl ?_
    refine e_iload_n dJ3_checkIndex_8e157_5 rfl ?_
    refine e_icmp_lt 16 dJ3_checkIndex_8e157_6 (by decide) (fun c2 => ?_) (fun c2 => absurd h2 c2)
    refine e_iload_n dJ3_checkIndex_8e157_16 rfl ?_
    exact e_iret rfl dJ3_checkIndex_8e157_17 h
theorem ctS_check0 {x y : Int32} (h1 : ¬ x < 0) (h2 : x < y) (h : Q none M) : EvM g mtJ0_checkIndex_df160 1 22 [.int x, .int y] M Q := by
  refine evm_of [some (.int x), some (.int y)] 0 (by decide +kernel) (Nat.le_of_ble_eq_true rfl) rfl ?_
  refine e_iload_n dJ0_checkIndex_df160_0 rfl ?_
  refine e_iload_n dJ0_checkIndex_df160_1 rfl ?_
  refine e_gsF wf_RJ0_1053 dJ0_checkIndex_df160_2 (fun v hc hv => ?_)
  refine e_callS (S := []) (f2 := 0) (l2 := 0) (ν := mtJ3_checkIndex_8e157) (as := [.int x, .int y, v]) cs_RJ0_1059 ⟨Nat.le_of_ble_eq_true rfl, Nat.le_of_ble_eq_true rfl⟩ rfl rfl (Nat.le_of_ble_eq_true rfl) dJ0_checkIndex_df160_5 ?_
  refine ctS_check3 hv h1 h2 ?_
  show Ev g mtJ0_checkIndex_df160 1 22 8 [some (.int x), some (.int y)] [.int x] M Q
  refine e_pop dJ0_checkIndex_df160_8 rfl ?_
  exact e_vret rfl dJ0_checkIndex_df160_9 h
theorem ctS_char1 {i q : Nat} {x : Int32} (hi : i < 14) (hin : vp_in x (strLen.getD i 0)) (hk : x.toNatClampNeg = q) (h : Q (some (.int ((strByt.getD i []).getD q 0 &&& 255))) M) : EvM g mtJ1_charAt_3b067 2 43 [.ref (2000 + i), .int x] M Q := by
  have h1 : ¬ x < 0 := fun z => hin (Or.inl z)
  have h2 : x < nI (strLen.getD i 0) := by
    obtain ⟨j, hj, rfl⟩ := vp_in_of hin (Nat.lt_trans (strLen_lt i hi) (by decide))
    exact nI_lt hj (Nat.lt_trans (strLen_lt i hi) (by decide))
  have e0 := sc_c2 ((strByt.getD i []).getD q 0)
  refine evm_of [some (.ref (2000 + i)), some (.int x)] 0 (by decide +kernel) (Nat.le_of_ble_eq_true rfl) rfl ?_
  refine e_iload_n dJ1_charAt_3b067_0 rfl ?_
  refine e_aload_n dJ1_charAt_3b067_1 rfl ?_
  refine e_alenS hi dJ1_charAt_3b067_2 ?_
  refine e_callS (S := []) (f2 := 1) (l2 := 22) (ν := mtJ0_checkIndex_df160) (as := [.int x, .int (nI (strLen.getD i 0))]) cs_RJ1_9 ⟨Nat.le_of_ble_eq_true rfl, Nat.le_of_ble_eq_true rfl⟩ rfl rfl (Nat.le_of_ble_eq_true rfl) dJ1_charAt_3b067_3 ?_
  refine ctS_check0 h1 h2 ?_
  show Ev g mtJ1_charAt_3b067 2 43 6 [some (.ref (2000 + i)), some (.int x)] [] M Q
  refine e_aload_n dJ1_charAt_3b067_6 rfl ?_
  refine e_iload_n dJ1_charAt_3b067_7 rfl ?_
  refine e_baldS hi hin hk dJ1_charAt_3b067_8 ?_
  refine e_sipush (255 : Int32) dJ1_charAt_3b067_9 (by decide) ?_
  refine e_iand dJ1_charAt_3b067_12 ?_
  refine e_i2c dJ1_charAt_3b067_13 ?_
  rw [e0]
  exact e_nret rfl (sc_nar _) dJ1_charAt_3b067_14 h
theorem ctS_charAt {b q : Nat} {x : Int32} (hb : Sr b) (hin : vp_in x (jsl b)) (hk : x.toNatClampNeg = q) (h : Q (some (.int (jschr b q))) M) : EvM g mtJ0_charAt_5068e 3 64 [.ref b, .int x] M Q := by
  obtain ⟨i, hi, rfl⟩ := hb
  have e1 : jsl (1000 + i) = strLen.getD i 0 := by
    unfold jsl
    rw [show 1000 + i - 1000 = i by omega]
  have e2 : jschr (1000 + i) q = (strByt.getD i []).getD q 0 &&& 255 := by
    unfold jschr
    rw [show 1000 + i - 1000 = i by omega]
  rw [e1] at hin
  rw [e2] at h
  have hnar := sc_nar ((strByt.getD i []).getD q 0)
  refine evm_of [some (.ref (1000 + i)), some (.int x)] 0 (by decide +kernel) (Nat.le_of_ble_eq_true rfl) rfl ?_
  refine e_aload_n dJ0_charAt_5068e_0 rfl ?_
  refine e_callStr (S := []) (f2 := 0) (l2 := 0) (ν := mtJ0_isLatin1_aae02) (as := []) cv_RJ0_492 (sr_of i hi) ⟨Nat.le_of_ble_eq_true rfl, Nat.le_of_ble_eq_true rfl⟩ rfl rfl (Nat.le_of_ble_eq_true rfl) dJ0_charAt_5068e_1 rfl ?_
  refine ctS_isLatin1 hi ?_
  show Ev g mtJ0_charAt_5068e 3 64 4 [some (.ref (1000 + i)), some (.int x)] [.int 1] M Q
  refine e_if_eq 16 dJ0_charAt_5068e_4 (by decide) (fun c1 => absurd c1 (by decide)) (fun c1 => ?_)
  refine e_aload_n dJ0_charAt_5068e_7 rfl ?_
  refine e_getSv hi wf_RJ0_9 dJ0_charAt_5068e_8 ?_
  refine e_iload_n dJ0_charAt_5068e_11 rfl ?_
  refine e_callS (S := []) (f2 := 2) (l2 := 43) (ν := mtJ1_charAt_3b067) (as := [.ref (2000 + i), .int x]) cs_RJ0_495 ⟨Nat.le_of_ble_eq_true rfl, Nat.le_of_ble_eq_true rfl⟩ rfl rfl (Nat.le_of_ble_eq_true rfl) dJ0_charAt_5068e_12 ?_
  refine ctS_char1 hi hin hk ?_
  show Ev g mtJ0_charAt_5068e 3 64 15 [some (.ref (1000 + i)), some (.int x)] [.int ((strByt.getD i []).getD q 0 &&& 255)] M Q
  exact e_nret rfl hnar dJ0_charAt_5068e_15 h
end CS_
