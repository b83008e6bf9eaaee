/-! The law's own rows: two worlds side by side, the script -/
def R_law : String := "PrimedPumpsLaw"
def lw_P (b : Addr) (xs : List Int32) (args : Array Value) (s : State) : Prop := args = #[.ref b] ∧ s.IntsAt b xs ∧ xs.length ≤ 3072 ∧ (Jvm.Cond.and given_1 narrow_1).before args s = true
def lw_Q (_ : Array Value) (s : State) (o : Outcome) (t : State) : Prop := o = .returned (some (.int 1)) ∧ Framed s o t [] 600000 7302250
def lw_Z (below : List Frame) (a : Array Value) (s : State) : State → Prop := fun t => ∃ o, t.status = .running ∧ Ended t below o ∧ lw_Q a s o t
/-- the law's own end, with 1 on the stack, nothing written that was there before, its room as the claim has it -/
theorem lw_ret {p : Program} {l : Launch} {e : Env} {s : State} {m : MethodId} {below : List Frame} {meth : Method} {c : Code} {b : Nat} (hx : p.tables.exec = Jvm.exec) (hb : c.code = code) (hr : meth.sig.returnType = ret) (hlocks : meth.locks = false) {pc : Nat} {H : Heap} {ls : Array Slot} (hdg : decode code pc = .ok (.ireturn, 1)) : W p l e room_1 s m #[Value.ref b] below meth c H [] 600000 7302250 (lw_Z below #[Value.ref b] s) (F0 m pc ls [.int 1]) := by
  intro T hT X
  obtain ⟨fs, hret, hrun, hended, hW, hframe⟩ := X.leave (v := some (.int 1)) (hlocks := hlocks) (fun h => by rw [hr] at h; cases h)
  have hmeth' : T.vm.method? m = some meth := X.method'
  refine ⟨T.setFrames fs, ?_, .returned (some (.int 1)), hrun, hended, rfl, ⟨_, rfl⟩, hW, hframe⟩
  jvm_step X.here [X.here.top, hx, hb, hdg, hmeth', hr, ret, narrow_b1]
  (try refine ⟨rfl, ?_⟩); (try refine ⟨rfl, ?_⟩)
  first | (intro acts; rw [hret _ acts rfl rfl rfl]) | rw [hret _ _ rfl rfl rfl]
  exact Steps.refl _
/-- what holds at the law's entry: the machine, the code, the tables' words (any of lw_tbl by 'hts w (by decide +kernel)'), the script of L ints xs at the cell b, what the Statement gives of the start (any of its parts by flat_of_before) -/
def lw_At (p : Program) (s : State) (m : MethodId) (meth : Method) (c : Code) (b L : Nat) (xs : Nat → Int32) : Prop :=
  p.tables.exec = Jvm.exec ∧ c.code = code ∧ meth.sig.returnType = ret ∧ c.maxLocals = 4 ∧ s.vm.findClass R_law = some m.cls ∧ (∀ w ∈ lw_tbl, w.before #[Value.ref b] s = true) ∧ va_X b L xs s s.heap ∧ b < s.heap.size ∧ meth.locks = false ∧ (Jvm.Cond.and given_1 narrow_1).before #[Value.ref b] s = true
/-- what holds all along the law's walk -/
def CxL (gX gY : Gt) (b Ln : Nat) (xs : Nat → Int32) (p : Program) (s : State) (m : MethodId) (meth : Method) (c : Code) : Prop :=
  p.tables.exec = Jvm.exec ∧ c.code = cL_law ∧ c.maxLocals = 4 ∧ meth.sig.returnType = ret ∧ meth.locks = false ∧ s.vm.findClass RL = some m.cls ∧ (∀ w ∈ lw_tbl, w.before #[Value.ref b] s = true) ∧ va_X b Ln xs s s.heap ∧ b < s.heap.size ∧
  va_K (gD gX) vwCl (tysG gX) s ∧ Sg gX (fun q => s.heap.size ≤ q) s s.heap ∧ Sg gY (fun q => s.heap.size ≤ q) s s.heap
/-- the two worlds are apart, and share the classes -/
def Apt (gX gY : Gt) : Prop := gX.2.1 = gY.2.1 ∧ ∀ i j, i < gN gX → j < gN gY → gp gX i ≠ gp gY j
def Lv (gX gY : Gt) (b Ln : Nat) (xs : Nat → Int32) (c0 s0 pc : Nat) (L : List (Option Value)) (S : List Value) (M1 M2 : Me) : Prop :=
  ∀ (p : Program) (e : Env) (s : State) (m : MethodId) (below : List Frame) (meth : Method) (c : Code) (H : Heap) (locs : List Loc) (ls : Array Slot),
    CxL gX gY b Ln xs p s m meth c → Apt gX gY → c0 ≤ 600000 ∧ s0 ≤ 7302250 → va_P (gD gX) vwCl (wd gX M1) H → va_D (fun q => s.heap.size ≤ q) (wd gX M1) → va_P (gD gY) vwCl (wd gY M2) H → va_D (fun q => s.heap.size ≤ q) (wd gY M2) → va_S (fun q => s.heap.size ≤ q) s.heap H locs → lh (fun n => n) ls 4 L →
    W p (gl gX) e room_1 s m #[Value.ref b] below meth c H locs c0 s0 (lw_Z below #[Value.ref b] s) (F0 m pc ls S)
theorem rv_id (v : Value) : rv (fun n => n) v = v := by cases v <;> rfl
theorem lg_self (v : Int64) : lg_cmp v v = 0 := by simp [lg_cmp]
theorem gtb_in_tbl {ν : Mt} (h : Cond.code ν.1 ν.2.1 ν.2.2.1 ν.2.2.2 ∈ gtb) : GoodIn lw_tbl (mws ν) := by
  intro w hw
  rcases List.mem_cons.mp hw with rfl | hw
  · exact ⟨gtb_tbl h, good_of_word (gtb_good h)⟩
  · exact ⟨gtb_tbl hw, good_of_word (gtb_good hw)⟩
section LR
variable {gX gY : Gt} {b Ln c0 s0 pc : Nat} {xs : Nat → Int32} {L L' : List (Option Value)} {S : List Value} {M1 M2 : Me}
theorem l_iconst {n : Int} (v : Int32) (hd : decode cL_law pc = .ok (.iconst n, 1)) (hv : Int32.ofInt n = v) (k : Lv gX gY b Ln xs c0 s0 (pc + 1) L (.int v :: S) M1 M2) : Lv gX gY b Ln xs c0 s0 pc L (S) M1 M2 :=
  fun p e s m below meth c H locs ls C hA hc hP1 hD1 hP2 hD2 hS h => lv_iconst C.1 C.2.1 hd hv (k p e s m below meth c H locs ls C hA hc hP1 hD1 hP2 hD2 hS h)
theorem l_bipush {n : Int} (v : Int32) (hd : decode cL_law pc = .ok (.bipush n, 2)) (hv : (Int8.ofInt n).toInt32 = v) (k : Lv gX gY b Ln xs c0 s0 (pc + 2) L (.int v :: S) M1 M2) : Lv gX gY b Ln xs c0 s0 pc L (S) M1 M2 :=
  fun p e s m below meth c H locs ls C hA hc hP1 hD1 hP2 hD2 hS h => lv_bipush C.1 C.2.1 hd hv (k p e s m below meth c H locs ls C hA hc hP1 hD1 hP2 hD2 hS h)
theorem l_iload_n {q : Fin 4} {x : Int32} (hd : decode cL_law pc = .ok (.iload_n q, 1)) (hl : L[(q : Nat)]? = some (some (.int x))) (k : Lv gX gY b Ln xs c0 s0 (pc + 1) L (.int x :: S) M1 M2) : Lv gX gY b Ln xs c0 s0 pc L (S) M1 M2 :=
  fun p e s m below meth c H locs ls C hA hc hP1 hD1 hP2 hD2 hS h => lv_iload_n C.1 C.2.1 hd rfl (h.2.2 _ _ hl) (k p e s m below meth c H locs ls C hA hc hP1 hD1 hP2 hD2 hS h)
theorem l_aload_n {q : Fin 4} {x : Nat} (hd : decode cL_law pc = .ok (.aload_n q, 1)) (hl : L[(q : Nat)]? = some (some (.ref x))) (k : Lv gX gY b Ln xs c0 s0 (pc + 1) L (.ref x :: S) M1 M2) : Lv gX gY b Ln xs c0 s0 pc L (S) M1 M2 :=
  fun p e s m below meth c H locs ls C hA hc hP1 hD1 hP2 hD2 hS h => lv_aload_n C.1 C.2.1 hd rfl (h.2.2 _ _ hl) (k p e s m below meth c H locs ls C hA hc hP1 hD1 hP2 hD2 hS h)
theorem l_iadd {x y : Int32} (hd : decode cL_law pc = .ok (.iadd, 1)) (k : Lv gX gY b Ln xs c0 s0 (pc + 1) L (.int (x + y) :: S) M1 M2) : Lv gX gY b Ln xs c0 s0 pc L (.int y :: .int x :: S) M1 M2 :=
  fun p e s m below meth c H locs ls C hA hc hP1 hD1 hP2 hD2 hS h => lv_iadd C.1 C.2.1 hd (k p e s m below meth c H locs ls C hA hc hP1 hD1 hP2 hD2 hS h)
theorem l_isub {x y : Int32} (hd : decode cL_law pc = .ok (.isub, 1)) (k : Lv gX gY b Ln xs c0 s0 (pc + 1) L (.int (x - y) :: S) M1 M2) : Lv gX gY b Ln xs c0 s0 pc L (.int y :: .int x :: S) M1 M2 :=
  fun p e s m below meth c H locs ls C hA hc hP1 hD1 hP2 hD2 hS h => lv_isub C.1 C.2.1 hd (k p e s m below meth c H locs ls C hA hc hP1 hD1 hP2 hD2 hS h)
theorem l_iand {x y : Int32} (hd : decode cL_law pc = .ok (.iand, 1)) (k : Lv gX gY b Ln xs c0 s0 (pc + 1) L (.int (x &&& y) :: S) M1 M2) : Lv gX gY b Ln xs c0 s0 pc L (.int y :: .int x :: S) M1 M2 :=
  fun p e s m below meth c H locs ls C hA hc hP1 hD1 hP2 hD2 hS h => lv_iand C.1 C.2.1 hd (k p e s m below meth c H locs ls C hA hc hP1 hD1 hP2 hD2 hS h)
theorem l_lcmp {x y : Int64} (hd : decode cL_law pc = .ok (.lcmp, 1)) (k : Lv gX gY b Ln xs c0 s0 (pc + 1) L (.int (lg_cmp x y) :: S) M1 M2) : Lv gX gY b Ln xs c0 s0 pc L (.long y :: .long x :: S) M1 M2 :=
  fun p e s m below meth c H locs ls C hA hc hP1 hD1 hP2 hD2 hS h => W.lcmp C.1 C.2.1 hd (k p e s m below meth c H locs ls C hA hc hP1 hD1 hP2 hD2 hS h)
theorem l_slen (hd : decode cL_law pc = .ok (.arraylength, 1)) (k : Lv gX gY b Ln xs c0 s0 (pc + 1) L (.int (Int32.ofNat Ln) :: S) M1 M2) : Lv gX gY b Ln xs c0 s0 pc L (.ref b :: S) M1 M2 :=
  fun p e s m below meth c H locs ls C hA hc hP1 hD1 hP2 hD2 hS h => va_slen C.1 C.2.1 C.2.2.2.2.2.2.2.1 C.2.2.2.2.2.2.2.2.1 (Nat.not_le.mpr C.2.2.2.2.2.2.2.2.1) hS hd (k p e s m below meth c H locs ls C hA hc hP1 hD1 hP2 hD2 hS h)
theorem l_sld {i x : Int32} {q : Nat} (hx : x = i) (hin : vp_in i Ln) (hk : i.toNatClampNeg = q) (hd : decode cL_law pc = .ok (.iaload, 1)) (k : Lv gX gY b Ln xs c0 s0 (pc + 1) L (.int (xs q) :: S) M1 M2) : Lv gX gY b Ln xs c0 s0 pc L (.int x :: .ref b :: S) M1 M2 := by
  subst hx
  subst hk
  exact fun p e s m below meth c H locs ls C hA hc hP1 hD1 hP2 hD2 hS h => va_sld C.1 C.2.1 C.2.2.2.2.2.2.2.1 C.2.2.2.2.2.2.2.2.1 (Nat.not_le.mpr C.2.2.2.2.2.2.2.2.1) hS hin hd (k p e s m below meth c H locs ls C hA hc hP1 hD1 hP2 hD2 hS h)
theorem l_goto {off : Int} (tgt : Nat) (hd : decode cL_law pc = .ok (.goto off, 3)) (ht : (pc : Int) + off = (tgt : Int)) (k : Lv gX gY b Ln xs c0 s0 tgt L S M1 M2) : Lv gX gY b Ln xs c0 s0 pc L S M1 M2 :=
  fun p e s m below meth c H locs ls C hA hc hP1 hD1 hP2 hD2 hS h => lv_goto C.1 C.2.1 hd ht (k p e s m below meth c H locs ls C hA hc hP1 hD1 hP2 hD2 hS h)
theorem l_icmp_eq {x y : Int32} {off : Int} (tgt : Nat) (hd : decode cL_law pc = .ok (.if_icmp .eq off, 3)) (ht : (pc : Int) + off = (tgt : Int)) (kt : x = y → Lv gX gY b Ln xs c0 s0 tgt L S M1 M2) (kf : ¬ x = y → Lv gX gY b Ln xs c0 s0 (pc + 3) L S M1 M2) : Lv gX gY b Ln xs c0 s0 pc L (.int y :: .int x :: S) M1 M2 :=
  fun p e s m below meth c H locs ls C hA hc hP1 hD1 hP2 hD2 hS h => lv_icmp_eq C.1 C.2.1 hd ht (fun z => kt z p e s m below meth c H locs ls C hA hc hP1 hD1 hP2 hD2 hS h) (fun z => kf z p e s m below meth c H locs ls C hA hc hP1 hD1 hP2 hD2 hS h)
theorem l_icmp_gt {x y : Int32} {off : Int} (tgt : Nat) (hd : decode cL_law pc = .ok (.if_icmp .gt off, 3)) (ht : (pc : Int) + off = (tgt : Int)) (kt : y < x → Lv gX gY b Ln xs c0 s0 tgt L S M1 M2) (kf : ¬ y < x → Lv gX gY b Ln xs c0 s0 (pc + 3) L S M1 M2) : Lv gX gY b Ln xs c0 s0 pc L (.int y :: .int x :: S) M1 M2 :=
  fun p e s m below meth c H locs ls C hA hc hP1 hD1 hP2 hD2 hS h => lv_icmp_gt C.1 C.2.1 hd ht (fun z => kt z p e s m below meth c H locs ls C hA hc hP1 hD1 hP2 hD2 hS h) (fun z => kf z p e s m below meth c H locs ls C hA hc hP1 hD1 hP2 hD2 hS h)
theorem l_if_eq {x : Int32} {off : Int} (tgt : Nat) (hd : decode cL_law pc = .ok (.ifCond .eq off, 3)) (ht : (pc : Int) + off = (tgt : Int)) (kt : x = 0 → Lv gX gY b Ln xs c0 s0 tgt L S M1 M2) (kf : ¬ x = 0 → Lv gX gY b Ln xs c0 s0 (pc + 3) L S M1 M2) : Lv gX gY b Ln xs c0 s0 pc L (.int x :: S) M1 M2 :=
  fun p e s m below meth c H locs ls C hA hc hP1 hD1 hP2 hD2 hS h => lv_if_eq C.1 C.2.1 hd ht (fun z => kt z p e s m below meth c H locs ls C hA hc hP1 hD1 hP2 hD2 hS h) (fun z => kf z p e s m below meth c H locs ls C hA hc hP1 hD1 hP2 hD2 hS h)
theorem l_tswC {x : Int32} {dflt lw hi off : Int} {offs : Array Int} {len : Nat} (k : Int32) (tgt : Nat) (hx : x = k) (hd : decode cL_law pc = .ok (.tableswitch dflt lw hi offs, len)) (h1 : ¬ k.toInt < lw) (h2 : ¬ hi < k.toInt) (ho : offs[(k.toInt - lw).toNat]? = some off) (ht : (pc : Int) + off = (tgt : Int)) (kk : Lv gX gY b Ln xs c0 s0 tgt L S M1 M2) : Lv gX gY b Ln xs c0 s0 pc L (.int x :: S) M1 M2 := by
  subst hx
  exact fun p e s m below meth c H locs ls C hA hc hP1 hD1 hP2 hD2 hS h => lv_tableIn C.1 C.2.1 hd h1 h2 ho ht (kk p e s m below meth c H locs ls C hA hc hP1 hD1 hP2 hD2 hS h)
theorem l_tswD {x : Int32} {dflt lw hi : Int} {offs : Array Int} {len : Nat} (tgt : Nat) (hd : decode cL_law pc = .ok (.tableswitch dflt lw hi offs, len)) (h0 : x.toInt < lw ∨ hi < x.toInt) (ht : (pc : Int) + dflt = (tgt : Int)) (kk : Lv gX gY b Ln xs c0 s0 tgt L S M1 M2) : Lv gX gY b Ln xs c0 s0 pc L (.int x :: S) M1 M2 :=
  fun p e s m below meth c H locs ls C hA hc hP1 hD1 hP2 hD2 hS h => lv_tableOut C.1 C.2.1 hd h0 ht (kk p e s m below meth c H locs ls C hA hc hP1 hD1 hP2 hD2 hS h)
theorem lh_st0 {ls : Array Slot} {nL i : Nat} {L : List (Option Value)} {v : Value} (h : lv_has ls nL ((i, v) :: (lvL (fun n => n) L).filter (fun q => !(q.1 == i) && !(q.1 + 1 == i && q.2.category == 2)))) : lh (fun n => n) ls nL (stL L i v) := by
  refine lh_st (ρ := fun n => n) (v := v) ?_
  rw [rv_id]
  exact h
theorem l_iinc {i : Nat} {n : Int} {x : Int32} (v : Int32) (hd : decode cL_law pc = .ok (.iinc i n, 3)) (hl : L[i]? = some (some (.int x))) (hv : x + Int32.ofInt n = v) (hn : i < 4) (hL : stL L i (.int v) = L') (k : Lv gX gY b Ln xs c0 s0 (pc + 3) L' S M1 M2) : Lv gX gY b Ln xs c0 s0 pc L S M1 M2 := by
  intro p e s m below meth c H locs ls C hA hc hP1 hD1 hP2 hD2 hS h
  obtain ⟨j, hj⟩ := List.getElem?_of_mem (lvL_mem (q := (i, .int x)).mpr ⟨_, hl, rfl⟩ : (i, Value.int x) ∈ lvL (fun n => n) L)
  exact lv_iinc C.1 C.2.1 hd (lh_has h) (k := j) hj hv hn rfl (fun ls' h' => k p e s m below meth c H locs ls' C hA hc hP1 hD1 hP2 hD2 hS (hL ▸ lh_st0 (v := .int v) h'))
theorem l_ret (hd : decode cL_law pc = .ok (.ireturn, 1)) : Lv gX gY b Ln xs c0 s0 pc L [.int 1] M1 M2 := by
  intro p e s m below meth c H locs ls C hA hc hP1 hD1 hP2 hD2 hS h
  have h0 : ∀ q ∈ locs, s.heap.size ≤ q.base := hS.2.2
  refine va_forget h0 ?_
  refine W.widen (k := 600000) (n := 7302250) hc.1 hc.2 ?_
  exact lw_ret C.1 C.2.1 C.2.2.2.1 C.2.2.2.2.1 hd

theorem l_callX {idx n f2 l2 K : Nat} {ν : Mt} {as st : List Value} (cv : CV RL idx ν n) (kc : Kc K ν.1.cls) (hR : f2 + 1 ≤ 12 ∧ 8 + (ν.2.2.1 + 11) + l2 ≤ 438) (hn : as.length = n) (hst : as.reverse ++ .ref (gp gX 0) :: S = st) (h8 : (S.map fun v => v.category).sum ≤ 8) (hd : decode cL_law pc = .ok (.invokevirtual idx, 3)) (hint : ∀ v ∈ as, rv (gp gX) v = v) (ib : Is gX 0 K) (hM : EvM gX ν f2 l2 (.ref 0 :: as) M1 (fun r M' => Lv gX gY b Ln xs c0 s0 (pc + 3) L ((r.map (rv (gp gX))).toList ++ S) M' M2)) : Lv gX gY b Ln xs c0 s0 pc L st M1 M2 := by
  subst hst
  intro p e s m below meth c H locs ls C hA hc hP1 hD1 hP2 hD2 hS h
  obtain ⟨c1, c2, c3, c4, c5, c6⟩ := cv
  obtain ⟨q, r, k1, k2, k3⟩ := kc
  have hts := C.2.2.2.2.2.2.1
  have hK : va_K (gD gX) vwCl (tysG gX) s := C.2.2.2.2.2.2.2.2.2.1
  have hlx : gl gX = gl gX := rfl
  have he := wd_at (M := M1) ib.1
  rw [ib.2, cel_O k1] at he
  have hrec := va_recv hK hP1 k2 he
  rw [k3] at hrec
  have hF : ∀ q, va_A (wd gX M1) H.size q → s.heap.size ≤ q := by
    intro q hq
    rcases hq with ⟨k, e, hq⟩ | hq
    · exact hD1.2 k _ hq
    · exact Nat.le_trans hS.1 hq
  have hpre : PreS s H (va_Pc ((.ref 0 :: as).map (rv (gp gX))) (fun U => U.heap.size = H.size ∧ va_P (gD gX) vwCl (wd gX M1) U.heap ∧ va_K (gD gX) vwCl (tysG gX) U ∧ va_D (fun _ => True) (wd gX M1) ∧ Sg gX (va_A (wd gX M1) H.size) U U.heap)) ((.ref 0 :: as).map (rv (gp gX))) := by
    refine ⟨fun a U f mk q => ?_, fun U hU hW => ⟨rfl, by rw [hU], by rw [hU]; exact hP1, va_K.moved hW.alike hK, hD1.weaken (fun _ _ _ _ => trivial), Sg.move C.2.2.2.2.2.2.2.2.2.2.1 hW hU hS hF⟩⟩
    obtain ⟨q0, q1, qP, qK, qD, qG⟩ := q
    exact ⟨q0, q1, qP, va_K.moved (u := U) (U := U.calling f mk a) (Vm.Alike.refl U.vm) qK, qD, qG.calling⟩
  have eas : as.map (rv (gp gX)) = as := by
    have : as.map (rv (gp gX)) = as.map id := List.map_congr_left hint
    rw [this, List.map_id]
  have hrun := va_runV (p := p) (l := gl gX) (e := e) (R := room_1) (below := below) (meth := meth) (locs := locs) (cells := c0) (slots := s0) (g := F0 m pc ls (as.reverse ++ .ref (gp gX 0) :: S)) (As := as.map (rv (gp gX))) (rest := S) (C := ν.1.cls) (b := gp gX 0) ⟨C.1, C.2.1, C.2.2.1, C.2.2.2.2.2.1, hts⟩ (hM H.size) ⟨callB_of n hts (gtb_in_tbl c5) rfl rfl rfl (hts _ (gtb_tbl c4)) (hts _ (gtb_tbl c1)) c6 hR, hts _ (gtb_tbl c2), hts _ (gtb_tbl c3)⟩ ⟨hpre.1, hrec, hpre.2⟩ rfl (by rw [List.length_map]; exact hn) h.1 (by rw [eas]) (lv_room h8) hd ⟨hc.1, hc.2⟩
  rw [hlx]
  intro T hT X
  obtain ⟨v, st₀, t, T', L', h0, X', hL, e1, e2, ⟨⟨r', M', hv, hq, hPn, hKn, hDn⟩, hz, hk⟩, stp⟩ := hrun T hT X
  have hv' : v = r'.map (rv (gp gX)) := Outcome.returned.inj hv
  subst hv'
  rw [h0] at hz hk
  have hS' : va_S (fun q => s.heap.size ≤ q) s.heap T'.heap (locs ++ L') := ⟨Nat.le_trans hS.1 (by rw [e1]; exact hz), fun q h1 h2 => by rw [e1, hk q (Nat.lt_of_lt_of_le h1 hS.1) (fun z => h2 (hF q z))]; exact hS.2.1 q h1 h2, fun q hq => by
    rcases List.mem_append.mp hq with h | h
    · exact hS.2.2 q h
    · exact hF _ (hL q h)⟩
  have hPo : va_P (gD gY) vwCl (wd gY M2) T'.heap := by
    refine hP2.kept (fun k q hkq => ?_)
    obtain ⟨w1, w2⟩ := wd_in hkq
    have hlt : q.1 < H.size := (hP2 k q hkq).lt
    rw [e1]
    refine hk q.1 hlt (fun z => ?_)
    rcases z with ⟨k', e', z⟩ | z
    · obtain ⟨w3, w4⟩ := wd_in z
      have e5 : gp gX k' = gp gY k := by
        have a1 : q.1 = gp gX k' := congrArg Prod.fst w4
        have a2 : q.1 = gp gY k := congrArg Prod.fst w2
        exact a1.symm.trans a2
      exact hA.2 k' k w3 w1 e5
    · omega
  have W2 := hq p e s m below meth c T'.heap (locs ++ L') ls C hA hc (by rw [e1]; exact hPn) (hDn.weaken (fun k q _ z => hF q.1 z)) hPo hD2 hS' h
  rw [hlx] at W2
  obtain ⟨t2, a1, b1⟩ := W2 T' rfl (by rw [← hlx] at X' ⊢; exact X')
  exact ⟨t2, stp t2 a1, b1⟩
theorem l_callY {idx n f2 l2 K : Nat} {ν : Mt} {as st : List Value} (cv : CV RL idx ν n) (kc : Kc K ν.1.cls) (hR : f2 + 1 ≤ 12 ∧ 8 + (ν.2.2.1 + 11) + l2 ≤ 438) (hn : as.length = n) (hst : as.reverse ++ .ref (gp gY 0) :: S = st) (h8 : (S.map fun v => v.category).sum ≤ 8) (hd : decode cL_law pc = .ok (.invokevirtual idx, 3)) (hint : ∀ v ∈ as, rv (gp gY) v = v) (ib : Is gY 0 K) (hM : EvM gY ν f2 l2 (.ref 0 :: as) M2 (fun r M' => Lv gX gY b Ln xs c0 s0 (pc + 3) L ((r.map (rv (gp gY))).toList ++ S) M1 M')) : Lv gX gY b Ln xs c0 s0 pc L st M1 M2 := by
  subst hst
  intro p e s m below meth c H locs ls C hA hc hP1 hD1 hP2 hD2 hS h
  obtain ⟨c1, c2, c3, c4, c5, c6⟩ := cv
  obtain ⟨q, r, k1, k2, k3⟩ := kc
  have hts := C.2.2.2.2.2.2.1
  have hK : va_K (gD gY) vwCl (tysG gY) s := by
    have z := C.2.2.2.2.2.2.2.2.2.1
    unfold tysG gD g3 at z ⊢
    rw [← hA.1]
    exact z
  have hlx : gl gX = gl gY := by
    unfold gl
    rw [hA.1]
  have he := wd_at (M := M2) ib.1
  rw [ib.2, cel_O k1] at he
  have hrec := va_recv hK hP2 k2 he
  rw [k3] at hrec
  have hF : ∀ q, va_A (wd gY M2) H.size q → s.heap.size ≤ q := by
    intro q hq
    rcases hq with ⟨k, e, hq⟩ | hq
    · exact hD2.2 k _ hq
    · exact Nat.le_trans hS.1 hq
  have hpre : PreS s H (va_Pc ((.ref 0 :: as).map (rv (gp gY))) (fun U => U.heap.size = H.size ∧ va_P (gD gY) vwCl (wd gY M2) U.heap ∧ va_K (gD gY) vwCl (tysG gY) U ∧ va_D (fun _ => True) (wd gY M2) ∧ Sg gY (va_A (wd gY M2) H.size) U U.heap)) ((.ref 0 :: as).map (rv (gp gY))) := by
    refine ⟨fun a U f mk q => ?_, fun U hU hW => ⟨rfl, by rw [hU], by rw [hU]; exact hP2, va_K.moved hW.alike hK, hD2.weaken (fun _ _ _ _ => trivial), Sg.move C.2.2.2.2.2.2.2.2.2.2.2 hW hU hS hF⟩⟩
    obtain ⟨q0, q1, qP, qK, qD, qG⟩ := q
    exact ⟨q0, q1, qP, va_K.moved (u := U) (U := U.calling f mk a) (Vm.Alike.refl U.vm) qK, qD, qG.calling⟩
  have eas : as.map (rv (gp gY)) = as := by
    have : as.map (rv (gp gY)) = as.map id := List.map_congr_left hint
    rw [this, List.map_id]
  have hrun := va_runV (p := p) (l := gl gY) (e := e) (R := room_1) (below := below) (meth := meth) (locs := locs) (cells := c0) (slots := s0) (g := F0 m pc ls (as.reverse ++ .ref (gp gY 0) :: S)) (As := as.map (rv (gp gY))) (rest := S) (C := ν.1.cls) (b := gp gY 0) ⟨C.1, C.2.1, C.2.2.1, C.2.2.2.2.2.1, hts⟩ (hM H.size) ⟨callB_of n hts (gtb_in_tbl c5) rfl rfl rfl (hts _ (gtb_tbl c4)) (hts _ (gtb_tbl c1)) c6 hR, hts _ (gtb_tbl c2), hts _ (gtb_tbl c3)⟩ ⟨hpre.1, hrec, hpre.2⟩ rfl (by rw [List.length_map]; exact hn) h.1 (by rw [eas]) (lv_room h8) hd ⟨hc.1, hc.2⟩
  rw [hlx]
  intro T hT X
  obtain ⟨v, st₀, t, T', L', h0, X', hL, e1, e2, ⟨⟨r', M', hv, hq, hPn, hKn, hDn⟩, hz, hk⟩, stp⟩ := hrun T hT X
  have hv' : v = r'.map (rv (gp gY)) := Outcome.returned.inj hv
  subst hv'
  rw [h0] at hz hk
  have hS' : va_S (fun q => s.heap.size ≤ q) s.heap T'.heap (locs ++ L') := ⟨Nat.le_trans hS.1 (by rw [e1]; exact hz), fun q h1 h2 => by rw [e1, hk q (Nat.lt_of_lt_of_le h1 hS.1) (fun z => h2 (hF q z))]; exact hS.2.1 q h1 h2, fun q hq => by
    rcases List.mem_append.mp hq with h | h
    · exact hS.2.2 q h
    · exact hF _ (hL q h)⟩
  have hPo : va_P (gD gX) vwCl (wd gX M1) T'.heap := by
    refine hP1.kept (fun k q hkq => ?_)
    obtain ⟨w1, w2⟩ := wd_in hkq
    have hlt : q.1 < H.size := (hP1 k q hkq).lt
    rw [e1]
    refine hk q.1 hlt (fun z => ?_)
    rcases z with ⟨k', e', z⟩ | z
    · obtain ⟨w3, w4⟩ := wd_in z
      have e5 : gp gY k' = gp gX k := by
        have a1 : q.1 = gp gY k' := congrArg Prod.fst w4
        have a2 : q.1 = gp gX k := congrArg Prod.fst w2
        exact a1.symm.trans a2
      exact hA.2 k k' w1 w3 e5.symm
    · omega
  have W2 := hq p e s m below meth c T'.heap (locs ++ L') ls C hA hc hPo hD1 (by rw [e1]; exact hPn) (hDn.weaken (fun k q _ z => hF q.1 z)) hS' h
  rw [hlx] at W2
  obtain ⟨t2, a1, b1⟩ := W2 T' rfl (by rw [← hlx] at X' ⊢; exact X')
  exact ⟨t2, stp t2 a1, b1⟩
end LR
def sim0 (R : Nat → Me → Me → Prop) : Prop := ∀ (n : Nat) (M1 M2 : Me) (a : Int32) (b : Int32) (c : Int32), n < 512 → R n M1 M2 → ∃ (v : Int32) (N1 N2 : Me), fpX5_pump a b c M1 = some (v, N1) ∧ fpX6_pump a b c M2 = some (v, N2) ∧ R (n + 1) N1 N2
def sim1 (R : Nat → Me → Me → Prop) : Prop := ∀ (n : Nat) (M1 M2 : Me) (a : Int32) (b : Int32), n < 512 → R n M1 M2 → ∃ (v : Int32) (N1 N2 : Me), fpX5_of a b M1 = some (v, N1) ∧ fpX6_of a b M2 = some (v, N2) ∧ R (n + 1) N1 N2
def sim2 (R : Nat → Me → Me → Prop) : Prop := ∀ (n : Nat) (M1 M2 : Me) (a : Int32) (b : Int32) (c : Int32), n < 512 → R n M1 M2 → ∃ (v : Int32) (N1 N2 : Me), fpX5_change a b c M1 = some (v, N1) ∧ fpX6_change a b c M2 = some (v, N2) ∧ R (n + 1) N1 N2
def sim3 (R : Nat → Me → Me → Prop) : Prop := ∀ (n : Nat) (M1 M2 : Me) (a : Int32) (b : Int32), n < 512 → R n M1 M2 → ∃ (v : Int32) (N1 N2 : Me), fpX5_rule a b M1 = some (v, N1) ∧ fpX6_rule a b M2 = some (v, N2) ∧ R (n + 1) N1 N2
def sim4 (R : Nat → Me → Me → Prop) : Prop := ∀ (n : Nat) (M1 M2 : Me) (a : Int32), n < 512 → R n M1 M2 → ∃ (v : Int32) (N1 N2 : Me), fpX5_water a M1 = some (v, N1) ∧ fpX6_water a M2 = some (v, N2) ∧ R (n + 1) N1 N2
def sim5 (R : Nat → Me → Me → Prop) : Prop := ∀ (n : Nat) (M1 M2 : Me) (a : Int32), n < 512 → R n M1 M2 → ∃ (v : Int32) (N1 N2 : Me), fpX5_now a M1 = some (v, N1) ∧ fpX6_now a M2 = some (v, N2) ∧ R (n + 1) N1 N2
def sim6 (R : Nat → Me → Me → Prop) : Prop := ∀ (n : Nat) (M1 M2 : Me) (a : Int32), n < 512 → R n M1 M2 → ∃ (v : Int32) (N1 N2 : Me), fpX5_go a M1 = some (v, N1) ∧ fpX6_go a M2 = some (v, N2) ∧ R (n + 1) N1 N2
def sim7 (R : Nat → Me → Me → Prop) : Prop := ∀ (n : Nat) (M1 M2 : Me) (a : Int32), n < 512 → R n M1 M2 → ∃ (v : Int32) (N1 N2 : Me), fpX5_run a M1 = some (v, N1) ∧ fpX6_run a M2 = some (v, N2) ∧ R (n + 1) N1 N2
def sim8 (R : Nat → Me → Me → Prop) : Prop := ∀ (n : Nat) (M1 M2 : Me) (a : Int32), n < 512 → R n M1 M2 → ∃ (v : Int32) (N1 N2 : Me), fpX5_can a M1 = some (v, N1) ∧ fpX6_can a M2 = some (v, N2) ∧ R (n + 1) N1 N2
def sim9 (R : Nat → Me → Me → Prop) : Prop := ∀ (n : Nat) (M1 M2 : Me), n < 512 → R n M1 M2 → ∃ (v : Int32) (N1 N2 : Me), fpX5_pour M1 = some (v, N1) ∧ fpX6_pour M2 = some (v, N2) ∧ R (n + 1) N1 N2
def sim10 (R : Nat → Me → Me → Prop) : Prop := ∀ (n : Nat) (M1 M2 : Me) (a : Int32), n < 512 → R n M1 M2 → ∃ (v : Int32) (N1 N2 : Me), fpX5_fill a M1 = some (v, N1) ∧ fpX6_fill a M2 = some (v, N2) ∧ R (n + 1) N1 N2
def sim11 (R : Nat → Me → Me → Prop) : Prop := ∀ (n : Nat) (M1 M2 : Me), n < 512 → R n M1 M2 → ∃ (v : Int32) (N1 N2 : Me), fpX5_night M1 = some (v, N1) ∧ fpX6_night M2 = some (v, N2) ∧ R (n + 1) N1 N2
def sim12 (R : Nat → Me → Me → Prop) : Prop := ∀ (n : Nat) (M1 M2 : Me) (a : Int32), n < 512 → R n M1 M2 → ∃ (v : Int32) (N1 N2 : Me), fpX5_row a M1 = some (v, N1) ∧ fpX6_row a M2 = some (v, N2) ∧ R (n + 1) N1 N2
def sim13 (R : Nat → Me → Me → Prop) : Prop := ∀ (n : Nat) (M1 M2 : Me) (a : Int32), n < 512 → R n M1 M2 → ∃ (v : Int32) (N1 N2 : Me), fpX5_most a M1 = some (v, N1) ∧ fpX6_most a M2 = some (v, N2) ∧ R (n + 1) N1 N2
def sim14 (R : Nat → Me → Me → Prop) : Prop := ∀ (n : Nat) (M1 M2 : Me) (a : Int32) (b : Int32), n < 512 → R n M1 M2 → ∃ (v : Int32) (N1 N2 : Me), fpX5_order a b M1 = some (v, N1) ∧ fpX6_order a b M2 = some (v, N2) ∧ R (n + 1) N1 N2
def sim15 (R : Nat → Me → Me → Prop) : Prop := ∀ (n : Nat) (M1 M2 : Me), n < 512 → R n M1 M2 → ∃ (v : Int32) (N1 N2 : Me), fpX5_least M1 = some (v, N1) ∧ fpX6_least M2 = some (v, N2) ∧ R (n + 1) N1 N2
def sim16 (R : Nat → Me → Me → Prop) : Prop := ∀ (n : Nat) (M1 M2 : Me) (a : Int32), n < 512 → R n M1 M2 → ∃ (v : Int32) (N1 N2 : Me), fpX5_leastFor a M1 = some (v, N1) ∧ fpX6_leastFor a M2 = some (v, N2) ∧ R (n + 1) N1 N2
def sim17 (R : Nat → Me → Me → Prop) : Prop := ∀ (n : Nat) (M1 M2 : Me), n < 512 → R n M1 M2 → ∃ (v : Int32) (N1 N2 : Me), fpX5_keep M1 = some (v, N1) ∧ fpX6_keep M2 = some (v, N2) ∧ R (n + 1) N1 N2
def sim18 (R : Nat → Me → Me → Prop) : Prop := ∀ (n : Nat) (M1 M2 : Me) (a : Int32), n < 512 → R n M1 M2 → ∃ (v : Int32) (N1 N2 : Me), fpX5_starts a M1 = some (v, N1) ∧ fpX6_starts a M2 = some (v, N2) ∧ R (n + 1) N1 N2
def sim19 (R : Nat → Me → Me → Prop) : Prop := ∀ (n : Nat) (M1 M2 : Me), n < 512 → R n M1 M2 → ∃ (v : Int32) (N1 N2 : Me), fpX5_ring M1 = some (v, N1) ∧ fpX6_ring M2 = some (v, N2) ∧ R (n + 1) N1 N2
def sim20 (R : Nat → Me → Me → Prop) : Prop := ∀ (n : Nat) (M1 M2 : Me) (a : Int32) (b : Int32), n < 512 → R n M1 M2 → ∃ (v : Int32) (N1 N2 : Me), fpX5_mistake a b M1 = some (v, N1) ∧ fpX6_mistake a b M2 = some (v, N2) ∧ R (n + 1) N1 N2
def sim21 (R : Nat → Me → Me → Prop) : Prop := ∀ (n : Nat) (M1 M2 : Me) (a : Int32), n < 512 → R n M1 M2 → ∃ (v : Int32) (N1 N2 : Me), fpX5_dear a M1 = some (v, N1) ∧ fpX6_dear a M2 = some (v, N2) ∧ R (n + 1) N1 N2
def sim22 (R : Nat → Me → Me → Prop) : Prop := ∀ (n : Nat) (M1 M2 : Me) (a : Int32), n < 512 → R n M1 M2 → ∃ (v : Int32) (N1 N2 : Me), fpX5_spring a M1 = some (v, N1) ∧ fpX6_spring a M2 = some (v, N2) ∧ R (n + 1) N1 N2
def sim23 (R : Nat → Me → Me → Prop) : Prop := ∀ (n : Nat) (M1 M2 : Me) (a : Int32), n < 512 → R n M1 M2 → ∃ (v : Int32) (N1 N2 : Me), fpX5_matters a M1 = some (v, N1) ∧ fpX6_matters a M2 = some (v, N2) ∧ R (n + 1) N1 N2
def sim24 (R : Nat → Me → Me → Prop) : Prop := ∀ (n : Nat) (M1 M2 : Me) (a : Int32), n < 512 → R n M1 M2 → ∃ (v : Int32) (N1 N2 : Me), fpX5_room a M1 = some (v, N1) ∧ fpX6_room a M2 = some (v, N2) ∧ R (n + 1) N1 N2
def sim25 (R : Nat → Me → Me → Prop) : Prop := ∀ (n : Nat) (M1 M2 : Me) (a : Int32), n < 512 → R n M1 M2 → ∃ (v : Int32) (N1 N2 : Me), fpX5_bears a M1 = some (v, N1) ∧ fpX6_bears a M2 = some (v, N2) ∧ R (n + 1) N1 N2
def sim26 (R : Nat → Me → Me → Prop) : Prop := ∀ (n : Nat) (M1 M2 : Me) (a : Int32) (b : Int32), n < 512 → R n M1 M2 → ∃ (v : Int64) (N1 N2 : Me), fpX5_odds a b M1 = some (v, N1) ∧ fpX6_odds a b M2 = some (v, N2) ∧ R (n + 1) N1 N2
def sim27 (R : Nat → Me → Me → Prop) : Prop := ∀ (n : Nat) (M1 M2 : Me) (a : Int32), n < 512 → R n M1 M2 → ∃ (v : Int64) (N1 N2 : Me), fpX5_mean a M1 = some (v, N1) ∧ fpX6_mean a M2 = some (v, N2) ∧ R (n + 1) N1 N2
def sim28 (R : Nat → Me → Me → Prop) : Prop := ∀ (n : Nat) (M1 M2 : Me) (a : Int32), n < 512 → R n M1 M2 → ∃ (v : Int32) (N1 N2 : Me), fpX5_rust a M1 = some (v, N1) ∧ fpX6_rust a M2 = some (v, N2) ∧ R (n + 1) N1 N2
def sim29 (R : Nat → Me → Me → Prop) : Prop := ∀ (n : Nat) (M1 M2 : Me) (a : Int32), n < 512 → R n M1 M2 → ∃ (v : Int32) (N1 N2 : Me), fpX5_seed a M1 = some (v, N1) ∧ fpX6_seed a M2 = some (v, N2) ∧ R (n + 1) N1 N2
def sim30 (R : Nat → Me → Me → Prop) : Prop := ∀ (n : Nat) (M1 M2 : Me) (a : Int32) (b : Int32), n < 512 → R n M1 M2 → ∃ (v : Int32) (N1 N2 : Me), fpX5_barrel a b M1 = some (v, N1) ∧ fpX6_barrel a b M2 = some (v, N2) ∧ R (n + 1) N1 N2
def sim31 (R : Nat → Me → Me → Prop) : Prop := ∀ (n : Nat) (M1 M2 : Me) (a : Int32) (b : Int32), n < 512 → R n M1 M2 → ∃ (v : Int32) (N1 N2 : Me), fpX5_judge a b M1 = some (v, N1) ∧ fpX6_judge a b M2 = some (v, N2) ∧ R (n + 1) N1 N2
def sim32 (R : Nat → Me → Me → Prop) : Prop := ∀ (n : Nat) (M1 M2 : Me) (a : Int32) (b : Int32), n < 512 → R n M1 M2 → ∃ (v : Int32) (N1 N2 : Me), fpX5_feed a b M1 = some (v, N1) ∧ fpX6_feed a b M2 = some (v, N2) ∧ R (n + 1) N1 N2
def sim33 (R : Nat → Me → Me → Prop) : Prop := ∀ (n : Nat) (M1 M2 : Me), n < 512 → R n M1 M2 → ∃ (v : Int32) (N1 N2 : Me), fpX5_wipe M1 = some (v, N1) ∧ fpX6_wipe M2 = some (v, N2) ∧ R (n + 1) N1 N2
def sim34 (R : Nat → Me → Me → Prop) : Prop := ∀ (n : Nat) (M1 M2 : Me), n < 512 → R n M1 M2 → ∃ (v : Int32) (N1 N2 : Me), fpX5_text M1 = some (v, N1) ∧ fpX6_text M2 = some (v, N2) ∧ R (n + 1) N1 N2
def sim35 (R : Nat → Me → Me → Prop) : Prop := ∀ (n : Nat) (M1 M2 : Me) (a : Int32) (b : Int32), n < 512 → R n M1 M2 → ∃ (v : Int32) (N1 N2 : Me), fpX5_hold a b M1 = some (v, N1) ∧ fpX6_hold a b M2 = some (v, N2) ∧ R (n + 1) N1 N2
def sim36 (R : Nat → Me → Me → Prop) : Prop := ∀ (n : Nat) (M1 M2 : Me) (a : Int32) (b : Int32), n < 512 → R n M1 M2 → ∃ (v : Int32) (N1 N2 : Me), fpX5_as a b M1 = some (v, N1) ∧ fpX6_as a b M2 = some (v, N2) ∧ R (n + 1) N1 N2
def sim37 (R : Nat → Me → Me → Prop) : Prop := ∀ (n : Nat) (M1 M2 : Me) (a : Int32) (b : Int32) (c : Int32), n < 512 → R n M1 M2 → ∃ (v : Int32) (N1 N2 : Me), fpX5_sheet a b c M1 = some (v, N1) ∧ fpX6_sheet a b c M2 = some (v, N2) ∧ R (n + 1) N1 N2
def sim38 (R : Nat → Me → Me → Prop) : Prop := ∀ (n : Nat) (M1 M2 : Me) (a : Int32) (b : Int32) (c : Int32), n < 512 → R n M1 M2 → ∃ (v : Int32) (N1 N2 : Me), fpX5_write a b c M1 = some (v, N1) ∧ fpX6_write a b c M2 = some (v, N2) ∧ R (n + 1) N1 N2
def sim39 (R : Nat → Me → Me → Prop) : Prop := ∀ (n : Nat) (M1 M2 : Me) (a : Int32) (b : Int32) (c : Int32) (d : Int32) (e : Int32), n < 512 → R n M1 M2 → ∃ (v : Int32) (N1 N2 : Me), fpX5_copy a b c d e M1 = some (v, N1) ∧ fpX6_copy a b c d e M2 = some (v, N2) ∧ R (n + 1) N1 N2
def sim40 (R : Nat → Me → Me → Prop) : Prop := ∀ (n : Nat) (M1 M2 : Me) (a : Int32), n < 512 → R n M1 M2 → ∃ (v : Int32) (N1 N2 : Me), fpX5_load a M1 = some (v, N1) ∧ fpX6_load a M2 = some (v, N2) ∧ R (n + 1) N1 N2
def sim41 (R : Nat → Me → Me → Prop) : Prop := ∀ (n : Nat) (M1 M2 : Me), n < 512 → R n M1 M2 → ∃ (v : Int32) (N1 N2 : Me), fpX5_image M1 = some (v, N1) ∧ fpX6_image M2 = some (v, N2) ∧ R (n + 1) N1 N2
def sim42 (R : Nat → Me → Me → Prop) : Prop := ∀ (n : Nat) (M1 M2 : Me), n < 512 → R n M1 M2 → ∃ (v : Int32) (N1 N2 : Me), fpX5_undo M1 = some (v, N1) ∧ fpX6_undo M2 = some (v, N2) ∧ R (n + 1) N1 N2
def sim43 (R : Nat → Me → Me → Prop) : Prop := ∀ (n : Nat) (M1 M2 : Me), n < 512 → R n M1 M2 → ∃ (v : Int32) (N1 N2 : Me), fpX5_tear M1 = some (v, N1) ∧ fpX6_tear M2 = some (v, N2) ∧ R (n + 1) N1 N2
def sim44 (R : Nat → Me → Me → Prop) : Prop := ∀ (n : Nat) (M1 M2 : Me) (a : Int32), n < 512 → R n M1 M2 → ∃ (v : Int32) (N1 N2 : Me), fpX5_count a M1 = some (v, N1) ∧ fpX6_count a M2 = some (v, N2) ∧ R (n + 1) N1 N2
def sim45 (R : Nat → Me → Me → Prop) : Prop := ∀ (n : Nat) (M1 M2 : Me) (a : Int32), n < 512 → R n M1 M2 → ∃ (v : Int32) (N1 N2 : Me), fpX5_status a M1 = some (v, N1) ∧ fpX6_status a M2 = some (v, N2) ∧ R (n + 1) N1 N2
set_option maxRecDepth 20000 in
theorem lawc_0 {zX zY : Zt} {b Ln c0 s0 n : Nat} {xs : Nat → Int32} {M1 M2 : Me} (R : Nat → Me → Me → Prop) (q : sim0 R) (hn : n < 512) (hr : R n M1 M2) (hL : 6 * n + 6 ≤ Ln) (hL2 : Ln ≤ 3072) (ih : ∀ N1 N2, R (n + 1) N1 N2 → Lv (wX, zX) (wY, zY) b Ln xs c0 s0 1412 [some (.ref b), some (.ref (gp (wX, zX) 0)), some (.ref (gp (wY, zY) 0)), some (.int (nI (6 * n)))] [] N1 N2) : Lv (wX, zX) (wY, zY) b Ln xs c0 s0 232 [some (.ref b), some (.ref (gp (wX, zX) 0)), some (.ref (gp (wY, zY) 0)), some (.int (nI (6 * n)))] [] M1 M2 := by
  obtain ⟨v, N1, N2, e1, e2, hr2⟩ := q n M1 M2 (xs (6 * n + 1)) (xs (6 * n + 2)) (xs (6 * n + 3)) hn hr
  have ih := ih N1 N2 hr2
  have hi : ∀ j, j < 6 → vp_in (nI (6 * n + j)) Ln := fun j hj => vp_in_nI (by omega) (by omega)
  have hj : ∀ j, j < 6 → (nI (6 * n + j)).toNatClampNeg = 6 * n + j := fun j hj => nI_clamp (by omega)
  have hx1 : nI (6 * n) + (1 : Int32) = nI (6 * n + 1) := nI_add (6 * n) 1
  have hx2 : nI (6 * n) + (2 : Int32) = nI (6 * n + 2) := nI_add (6 * n) 2
  have hx3 : nI (6 * n) + (3 : Int32) = nI (6 * n + 3) := nI_add (6 * n) 3
  refine l_aload_n dL_law_232 rfl ?_
  refine l_aload_n dL_law_233 rfl ?_
  refine l_iload_n dL_law_234 rfl ?_
  refine l_iconst (1 : Int32) dL_law_235 (by decide) ?_
  refine l_iadd dL_law_236 ?_
  refine l_sld (q := 6 * n + 1) hx1 (hi 1 (by decide)) (hj 1 (by decide)) dL_law_237 ?_
  refine l_aload_n dL_law_238 rfl ?_
  refine l_iload_n dL_law_239 rfl ?_
  refine l_iconst (2 : Int32) dL_law_240 (by decide) ?_
  refine l_iadd dL_law_241 ?_
  refine l_sld (q := 6 * n + 2) hx2 (hi 2 (by decide)) (hj 2 (by decide)) dL_law_242 ?_
  refine l_aload_n dL_law_243 rfl ?_
  refine l_iload_n dL_law_244 rfl ?_
  refine l_iconst (3 : Int32) dL_law_245 (by decide) ?_
  refine l_iadd dL_law_246 ?_
  refine l_sld (q := 6 * n + 3) hx3 (hi 3 (by decide)) (hj 3 (by decide)) dL_law_247 ?_
  refine l_callX (S := []) (f2 := 1) (l2 := 25) (ν := mtX5_pump) (as := [.int (xs (6 * n + 1)), .int (xs (6 * n + 2)), .int (xs (6 * n + 3))]) cv_RL_13 kc_1 ⟨Nat.le_of_ble_eq_true rfl, Nat.le_of_ble_eq_true rfl⟩ rfl rfl (Nat.le_of_ble_eq_true rfl) dL_law_248 (by intro v hv; simp at hv; try (rcases hv with rfl | rfl | rfl | rfl | rfl <;> rfl); try (rcases hv with rfl | rfl | rfl | rfl <;> rfl); try (rcases hv with rfl | rfl | rfl <;> rfl); try (rcases hv with rfl | rfl <;> rfl); try (subst hv; rfl)) is_X0 ?_
  refine ctX5_pump (xs (6 * n + 1)) (xs (6 * n + 2)) (xs (6 * n + 3)) ⟨(v, N1), e1, ?_⟩
  show Lv (wX, zX) (wY, zY) b Ln xs c0 s0 251 [some (.ref b), some (.ref (gp (wX, zX) 0)), some (.ref (gp (wY, zY) 0)), some (.int (nI (6 * n)))] [.int v] N1 M2
  refine l_aload_n dL_law_251 rfl ?_
  refine l_aload_n dL_law_252 rfl ?_
  refine l_iload_n dL_law_253 rfl ?_
  refine l_iconst (1 : Int32) dL_law_254 (by decide) ?_
  refine l_iadd dL_law_255 ?_
  refine l_sld (q := 6 * n + 1) hx1 (hi 1 (by decide)) (hj 1 (by decide)) dL_law_256 ?_
  refine l_aload_n dL_law_257 rfl ?_
  refine l_iload_n dL_law_258 rfl ?_
  refine l_iconst (2 : Int32) dL_law_259 (by decide) ?_
  refine l_iadd dL_law_260 ?_
  refine l_sld (q := 6 * n + 2) hx2 (hi 2 (by decide)) (hj 2 (by decide)) dL_law_261 ?_
  refine l_aload_n dL_law_262 rfl ?_
  refine l_iload_n dL_law_263 rfl ?_
  refine l_iconst (3 : Int32) dL_law_264 (by decide) ?_
  refine l_iadd dL_law_265 ?_
  refine l_sld (q := 6 * n + 3) hx3 (hi 3 (by decide)) (hj 3 (by decide)) dL_law_266 ?_
  refine l_callY (S := [.int v]) (f2 := 3) (l2 := 66) (ν := mtX6_pump) (as := [.int (xs (6 * n + 1)), .int (xs (6 * n + 2)), .int (xs (6 * n + 3))]) cv_RL_17 kc_7 ⟨Nat.le_of_ble_eq_true rfl, Nat.le_of_ble_eq_true rfl⟩ rfl rfl (Nat.le_of_ble_eq_true rfl) dL_law_267 (by intro v hv; simp at hv; try (rcases hv with rfl | rfl | rfl | rfl | rfl <;> rfl); try (rcases hv with rfl | rfl | rfl | rfl <;> rfl); try (rcases hv with rfl | rfl | rfl <;> rfl); try (rcases hv with rfl | rfl <;> rfl); try (subst hv; rfl)) is_Y0 ?_
  refine ctX6_pump (xs (6 * n + 1)) (xs (6 * n + 2)) (xs (6 * n + 3)) ⟨(v, N2), e2, ?_⟩
  show Lv (wX, zX) (wY, zY) b Ln xs c0 s0 270 [some (.ref b), some (.ref (gp (wX, zX) 0)), some (.ref (gp (wY, zY) 0)), some (.int (nI (6 * n)))] [.int v, .int v] N1 N2
  refine l_icmp_eq 1412 dL_law_270 (by decide) (fun _ => ih) (fun z => absurd rfl z)
set_option maxRecDepth 20000 in
theorem lawc_1 {zX zY : Zt} {b Ln c0 s0 n : Nat} {xs : Nat → Int32} {M1 M2 : Me} (R : Nat → Me → Me → Prop) (q : sim1 R) (hn : n < 512) (hr : R n M1 M2) (hL : 6 * n + 6 ≤ Ln) (hL2 : Ln ≤ 3072) (ih : ∀ N1 N2, R (n + 1) N1 N2 → Lv (wX, zX) (wY, zY) b Ln xs c0 s0 1412 [some (.ref b), some (.ref (gp (wX, zX) 0)), some (.ref (gp (wY, zY) 0)), some (.int (nI (6 * n)))] [] N1 N2) : Lv (wX, zX) (wY, zY) b Ln xs c0 s0 275 [some (.ref b), some (.ref (gp (wX, zX) 0)), some (.ref (gp (wY, zY) 0)), some (.int (nI (6 * n)))] [] M1 M2 := by
  obtain ⟨v, N1, N2, e1, e2, hr2⟩ := q n M1 M2 (xs (6 * n + 1)) (xs (6 * n + 2)) hn hr
  have ih := ih N1 N2 hr2
  have hi : ∀ j, j < 6 → vp_in (nI (6 * n + j)) Ln := fun j hj => vp_in_nI (by omega) (by omega)
  have hj : ∀ j, j < 6 → (nI (6 * n + j)).toNatClampNeg = 6 * n + j := fun j hj => nI_clamp (by omega)
  have hx1 : nI (6 * n) + (1 : Int32) = nI (6 * n + 1) := nI_add (6 * n) 1
  have hx2 : nI (6 * n) + (2 : Int32) = nI (6 * n + 2) := nI_add (6 * n) 2
  refine l_aload_n dL_law_275 rfl ?_
  refine l_aload_n dL_law_276 rfl ?_
  refine l_iload_n dL_law_277 rfl ?_
  refine l_iconst (1 : Int32) dL_law_278 (by decide) ?_
  refine l_iadd dL_law_279 ?_
  refine l_sld (q := 6 * n + 1) hx1 (hi 1 (by decide)) (hj 1 (by decide)) dL_law_280 ?_
  refine l_aload_n dL_law_281 rfl ?_
  refine l_iload_n dL_law_282 rfl ?_
  refine l_iconst (2 : Int32) dL_law_283 (by decide) ?_
  refine l_iadd dL_law_284 ?_
  refine l_sld (q := 6 * n + 2) hx2 (hi 2 (by decide)) (hj 2 (by decide)) dL_law_285 ?_
  refine l_callX (S := []) (f2 := 4) (l2 := 86) (ν := mtX5_of) (as := [.int (xs (6 * n + 1)), .int (xs (6 * n + 2))]) cv_RL_18 kc_1 ⟨Nat.le_of_ble_eq_true rfl, Nat.le_of_ble_eq_true rfl⟩ rfl rfl (Nat.le_of_ble_eq_true rfl) dL_law_286 (by intro v hv; simp at hv; try (rcases hv with rfl | rfl | rfl | rfl | rfl <;> rfl); try (rcases hv with rfl | rfl | rfl | rfl <;> rfl); try (rcases hv with rfl | rfl | rfl <;> rfl); try (rcases hv with rfl | rfl <;> rfl); try (subst hv; rfl)) is_X0 ?_
  refine ctX5_of (xs (6 * n + 1)) (xs (6 * n + 2)) ⟨(v, N1), e1, ?_⟩
  show Lv (wX, zX) (wY, zY) b Ln xs c0 s0 289 [some (.ref b), some (.ref (gp (wX, zX) 0)), some (.ref (gp (wY, zY) 0)), some (.int (nI (6 * n)))] [.int v] N1 M2
  refine l_aload_n dL_law_289 rfl ?_
  refine l_aload_n dL_law_290 rfl ?_
  refine l_iload_n dL_law_291 rfl ?_
  refine l_iconst (1 : Int32) dL_law_292 (by decide) ?_
  refine l_iadd dL_law_293 ?_
  refine l_sld (q := 6 * n + 1) hx1 (hi 1 (by decide)) (hj 1 (by decide)) dL_law_294 ?_
  refine l_aload_n dL_law_295 rfl ?_
  refine l_iload_n dL_law_296 rfl ?_
  refine l_iconst (2 : Int32) dL_law_297 (by decide) ?_
  refine l_iadd dL_law_298 ?_
  refine l_sld (q := 6 * n + 2) hx2 (hi 2 (by decide)) (hj 2 (by decide)) dL_law_299 ?_
  refine l_callY (S := [.int v]) (f2 := 4) (l2 := 89) (ν := mtX6_of) (as := [.int (xs (6 * n + 1)), .int (xs (6 * n + 2))]) cv_RL_22 kc_7 ⟨Nat.le_of_ble_eq_true rfl, Nat.le_of_ble_eq_true rfl⟩ rfl rfl (Nat.le_of_ble_eq_true rfl) dL_law_300 (by intro v hv; simp at hv; try (rcases hv with rfl | rfl | rfl | rfl | rfl <;> rfl); try (rcases hv with rfl | rfl | rfl | rfl <;> rfl); try (rcases hv with rfl | rfl | rfl <;> rfl); try (rcases hv with rfl | rfl <;> rfl); try (subst hv; rfl)) is_Y0 ?_
  refine ctX6_of (xs (6 * n + 1)) (xs (6 * n + 2)) ⟨(v, N2), e2, ?_⟩
  show Lv (wX, zX) (wY, zY) b Ln xs c0 s0 303 [some (.ref b), some (.ref (gp (wX, zX) 0)), some (.ref (gp (wY, zY) 0)), some (.int (nI (6 * n)))] [.int v, .int v] N1 N2
  refine l_icmp_eq 1412 dL_law_303 (by decide) (fun _ => ih) (fun z => absurd rfl z)
set_option maxRecDepth 20000 in
theorem lawc_2 {zX zY : Zt} {b Ln c0 s0 n : Nat} {xs : Nat → Int32} {M1 M2 : Me} (R : Nat → Me → Me → Prop) (q : sim2 R) (hn : n < 512) (hr : R n M1 M2) (hL : 6 * n + 6 ≤ Ln) (hL2 : Ln ≤ 3072) (ih : ∀ N1 N2, R (n + 1) N1 N2 → Lv (wX, zX) (wY, zY) b Ln xs c0 s0 1412 [some (.ref b), some (.ref (gp (wX, zX) 0)), some (.ref (gp (wY, zY) 0)), some (.int (nI (6 * n)))] [] N1 N2) : Lv (wX, zX) (wY, zY) b Ln xs c0 s0 308 [some (.ref b), some (.ref (gp (wX, zX) 0)), some (.ref (gp (wY, zY) 0)), some (.int (nI (6 * n)))] [] M1 M2 := by
  obtain ⟨v, N1, N2, e1, e2, hr2⟩ := q n M1 M2 (xs (6 * n + 1)) (xs (6 * n + 2)) (xs (6 * n + 3)) hn hr
  have ih := ih N1 N2 hr2
  have hi : ∀ j, j < 6 → vp_in (nI (6 * n + j)) Ln := fun j hj => vp_in_nI (by omega) (by omega)
  have hj : ∀ j, j < 6 → (nI (6 * n + j)).toNatClampNeg = 6 * n + j := fun j hj => nI_clamp (by omega)
  have hx1 : nI (6 * n) + (1 : Int32) = nI (6 * n + 1) := nI_add (6 * n) 1
  have hx2 : nI (6 * n) + (2 : Int32) = nI (6 * n + 2) := nI_add (6 * n) 2
  have hx3 : nI (6 * n) + (3 : Int32) = nI (6 * n + 3) := nI_add (6 * n) 3
  refine l_aload_n dL_law_308 rfl ?_
  refine l_aload_n dL_law_309 rfl ?_
  refine l_iload_n dL_law_310 rfl ?_
  refine l_iconst (1 : Int32) dL_law_311 (by decide) ?_
  refine l_iadd dL_law_312 ?_
  refine l_sld (q := 6 * n + 1) hx1 (hi 1 (by decide)) (hj 1 (by decide)) dL_law_313 ?_
  refine l_aload_n dL_law_314 rfl ?_
  refine l_iload_n dL_law_315 rfl ?_
  refine l_iconst (2 : Int32) dL_law_316 (by decide) ?_
  refine l_iadd dL_law_317 ?_
  refine l_sld (q := 6 * n + 2) hx2 (hi 2 (by decide)) (hj 2 (by decide)) dL_law_318 ?_
  refine l_aload_n dL_law_319 rfl ?_
  refine l_iload_n dL_law_320 rfl ?_
  refine l_iconst (3 : Int32) dL_law_321 (by decide) ?_
  refine l_iadd dL_law_322 ?_
  refine l_sld (q := 6 * n + 3) hx3 (hi 3 (by decide)) (hj 3 (by decide)) dL_law_323 ?_
  refine l_callX (S := []) (f2 := 1) (l2 := 22) (ν := mtX5_change) (as := [.int (xs (6 * n + 1)), .int (xs (6 * n + 2)), .int (xs (6 * n + 3))]) cv_RL_23 kc_1 ⟨Nat.le_of_ble_eq_true rfl, Nat.le_of_ble_eq_true rfl⟩ rfl rfl (Nat.le_of_ble_eq_true rfl) dL_law_324 (by intro v hv; simp at hv; try (rcases hv with rfl | rfl | rfl | rfl | rfl <;> rfl); try (rcases hv with rfl | rfl | rfl | rfl <;> rfl); try (rcases hv with rfl | rfl | rfl <;> rfl); try (rcases hv with rfl | rfl <;> rfl); try (subst hv; rfl)) is_X0 ?_
  refine ctX5_change (xs (6 * n + 1)) (xs (6 * n + 2)) (xs (6 * n + 3)) ⟨(v, N1), e1, ?_⟩
  show Lv (wX, zX) (wY, zY) b Ln xs c0 s0 327 [some (.ref b), some (.ref (gp (wX, zX) 0)), some (.ref (gp (wY, zY) 0)), some (.int (nI (6 * n)))] [.int v] N1 M2
  refine l_aload_n dL_law_327 rfl ?_
  refine l_aload_n dL_law_328 rfl ?_
  refine l_iload_n dL_law_329 rfl ?_
  refine l_iconst (1 : Int32) dL_law_330 (by decide) ?_
  refine l_iadd dL_law_331 ?_
  refine l_sld (q := 6 * n + 1) hx1 (hi 1 (by decide)) (hj 1 (by decide)) dL_law_332 ?_
  refine l_aload_n dL_law_333 rfl ?_
  refine l_iload_n dL_law_334 rfl ?_
  refine l_iconst (2 : Int32) dL_law_335 (by decide) ?_
  refine l_iadd dL_law_336 ?_
  refine l_sld (q := 6 * n + 2) hx2 (hi 2 (by decide)) (hj 2 (by decide)) dL_law_337 ?_
  refine l_aload_n dL_law_338 rfl ?_
  refine l_iload_n dL_law_339 rfl ?_
  refine l_iconst (3 : Int32) dL_law_340 (by decide) ?_
  refine l_iadd dL_law_341 ?_
  refine l_sld (q := 6 * n + 3) hx3 (hi 3 (by decide)) (hj 3 (by decide)) dL_law_342 ?_
  refine l_callY (S := [.int v]) (f2 := 3) (l2 := 66) (ν := mtX6_change) (as := [.int (xs (6 * n + 1)), .int (xs (6 * n + 2)), .int (xs (6 * n + 3))]) cv_RL_26 kc_7 ⟨Nat.le_of_ble_eq_true rfl, Nat.le_of_ble_eq_true rfl⟩ rfl rfl (Nat.le_of_ble_eq_true rfl) dL_law_343 (by intro v hv; simp at hv; try (rcases hv with rfl | rfl | rfl | rfl | rfl <;> rfl); try (rcases hv with rfl | rfl | rfl | rfl <;> rfl); try (rcases hv with rfl | rfl | rfl <;> rfl); try (rcases hv with rfl | rfl <;> rfl); try (subst hv; rfl)) is_Y0 ?_
  refine ctX6_change (xs (6 * n + 1)) (xs (6 * n + 2)) (xs (6 * n + 3)) ⟨(v, N2), e2, ?_⟩
  show Lv (wX, zX) (wY, zY) b Ln xs c0 s0 346 [some (.ref b), some (.ref (gp (wX, zX) 0)), some (.ref (gp (wY, zY) 0)), some (.int (nI (6 * n)))] [.int v, .int v] N1 N2
  refine l_icmp_eq 1412 dL_law_346 (by decide) (fun _ => ih) (fun z => absurd rfl z)
set_option maxRecDepth 20000 in
theorem lawc_3 {zX zY : Zt} {b Ln c0 s0 n : Nat} {xs : Nat → Int32} {M1 M2 : Me} (R : Nat → Me → Me → Prop) (q : sim3 R) (hn : n < 512) (hr : R n M1 M2) (hL : 6 * n + 6 ≤ Ln) (hL2 : Ln ≤ 3072) (ih : ∀ N1 N2, R (n + 1) N1 N2 → Lv (wX, zX) (wY, zY) b Ln xs c0 s0 1412 [some (.ref b), some (.ref (gp (wX, zX) 0)), some (.ref (gp (wY, zY) 0)), some (.int (nI (6 * n)))] [] N1 N2) : Lv (wX, zX) (wY, zY) b Ln xs c0 s0 351 [some (.ref b), some (.ref (gp (wX, zX) 0)), some (.ref (gp (wY, zY) 0)), some (.int (nI (6 * n)))] [] M1 M2 := by
  obtain ⟨v, N1, N2, e1, e2, hr2⟩ := q n M1 M2 (xs (6 * n + 1)) (xs (6 * n + 2)) hn hr
  have ih := ih N1 N2 hr2
  have hi : ∀ j, j < 6 → vp_in (nI (6 * n + j)) Ln := fun j hj => vp_in_nI (by omega) (by omega)
  have hj : ∀ j, j < 6 → (nI (6 * n + j)).toNatClampNeg = 6 * n + j := fun j hj => nI_clamp (by omega)
  have hx1 : nI (6 * n) + (1 : Int32) = nI (6 * n + 1) := nI_add (6 * n) 1
  have hx2 : nI (6 * n) + (2 : Int32) = nI (6 * n + 2) := nI_add (6 * n) 2
  refine l_aload_n dL_law_351 rfl ?_
  refine l_aload_n dL_law_352 rfl ?_
  refine l_iload_n dL_law_353 rfl ?_
  refine l_iconst (1 : Int32) dL_law_354 (by decide) ?_
  refine l_iadd dL_law_355 ?_
  refine l_sld (q := 6 * n + 1) hx1 (hi 1 (by decide)) (hj 1 (by decide)) dL_law_356 ?_
  refine l_aload_n dL_law_357 rfl ?_
  refine l_iload_n dL_law_358 rfl ?_
  refine l_iconst (2 : Int32) dL_law_359 (by decide) ?_
  refine l_iadd dL_law_360 ?_
  refine l_sld (q := 6 * n + 2) hx2 (hi 2 (by decide)) (hj 2 (by decide)) dL_law_361 ?_
  refine l_callX (S := []) (f2 := 3) (l2 := 62) (ν := mtX5_rule) (as := [.int (xs (6 * n + 1)), .int (xs (6 * n + 2))]) cv_RL_27 kc_1 ⟨Nat.le_of_ble_eq_true rfl, Nat.le_of_ble_eq_true rfl⟩ rfl rfl (Nat.le_of_ble_eq_true rfl) dL_law_362 (by intro v hv; simp at hv; try (rcases hv with rfl | rfl | rfl | rfl | rfl <;> rfl); try (rcases hv with rfl | rfl | rfl | rfl <;> rfl); try (rcases hv with rfl | rfl | rfl <;> rfl); try (rcases hv with rfl | rfl <;> rfl); try (subst hv; rfl)) is_X0 ?_
  refine ctX5_rule (xs (6 * n + 1)) (xs (6 * n + 2)) ⟨(v, N1), e1, ?_⟩
  show Lv (wX, zX) (wY, zY) b Ln xs c0 s0 365 [some (.ref b), some (.ref (gp (wX, zX) 0)), some (.ref (gp (wY, zY) 0)), some (.int (nI (6 * n)))] [.int v] N1 M2
  refine l_aload_n dL_law_365 rfl ?_
  refine l_aload_n dL_law_366 rfl ?_
  refine l_iload_n dL_law_367 rfl ?_
  refine l_iconst (1 : Int32) dL_law_368 (by decide) ?_
  refine l_iadd dL_law_369 ?_
  refine l_sld (q := 6 * n + 1) hx1 (hi 1 (by decide)) (hj 1 (by decide)) dL_law_370 ?_
  refine l_aload_n dL_law_371 rfl ?_
  refine l_iload_n dL_law_372 rfl ?_
  refine l_iconst (2 : Int32) dL_law_373 (by decide) ?_
  refine l_iadd dL_law_374 ?_
  refine l_sld (q := 6 * n + 2) hx2 (hi 2 (by decide)) (hj 2 (by decide)) dL_law_375 ?_
  refine l_callY (S := [.int v]) (f2 := 2) (l2 := 47) (ν := mtX6_rule) (as := [.int (xs (6 * n + 1)), .int (xs (6 * n + 2))]) cv_RL_30 kc_7 ⟨Nat.le_of_ble_eq_true rfl, Nat.le_of_ble_eq_true rfl⟩ rfl rfl (Nat.le_of_ble_eq_true rfl) dL_law_376 (by intro v hv; simp at hv; try (rcases hv with rfl | rfl | rfl | rfl | rfl <;> rfl); try (rcases hv with rfl | rfl | rfl | rfl <;> rfl); try (rcases hv with rfl | rfl | rfl <;> rfl); try (rcases hv with rfl | rfl <;> rfl); try (subst hv; rfl)) is_Y0 ?_
  refine ctX6_rule (xs (6 * n + 1)) (xs (6 * n + 2)) ⟨(v, N2), e2, ?_⟩
  show Lv (wX, zX) (wY, zY) b Ln xs c0 s0 379 [some (.ref b), some (.ref (gp (wX, zX) 0)), some (.ref (gp (wY, zY) 0)), some (.int (nI (6 * n)))] [.int v, .int v] N1 N2
  refine l_icmp_eq 1412 dL_law_379 (by decide) (fun _ => ih) (fun z => absurd rfl z)
set_option maxRecDepth 20000 in
theorem lawc_4 {zX zY : Zt} {b Ln c0 s0 n : Nat} {xs : Nat → Int32} {M1 M2 : Me} (R : Nat → Me → Me → Prop) (q : sim4 R) (hn : n < 512) (hr : R n M1 M2) (hL : 6 * n + 6 ≤ Ln) (hL2 : Ln ≤ 3072) (ih : ∀ N1 N2, R (n + 1) N1 N2 → Lv (wX, zX) (wY, zY) b Ln xs c0 s0 1412 [some (.ref b), some (.ref (gp (wX, zX) 0)), some (.ref (gp (wY, zY) 0)), some (.int (nI (6 * n)))] [] N1 N2) : Lv (wX, zX) (wY, zY) b Ln xs c0 s0 384 [some (.ref b), some (.ref (gp (wX, zX) 0)), some (.ref (gp (wY, zY) 0)), some (.int (nI (6 * n)))] [] M1 M2 := by
  obtain ⟨v, N1, N2, e1, e2, hr2⟩ := q n M1 M2 (xs (6 * n + 1)) hn hr
  have ih := ih N1 N2 hr2
  have hi : ∀ j, j < 6 → vp_in (nI (6 * n + j)) Ln := fun j hj => vp_in_nI (by omega) (by omega)
  have hj : ∀ j, j < 6 → (nI (6 * n + j)).toNatClampNeg = 6 * n + j := fun j hj => nI_clamp (by omega)
  have hx1 : nI (6 * n) + (1 : Int32) = nI (6 * n + 1) := nI_add (6 * n) 1
  refine l_aload_n dL_law_384 rfl ?_
  refine l_aload_n dL_law_385 rfl ?_
  refine l_iload_n dL_law_386 rfl ?_
  refine l_iconst (1 : Int32) dL_law_387 (by decide) ?_
  refine l_iadd dL_law_388 ?_
  refine l_sld (q := 6 * n + 1) hx1 (hi 1 (by decide)) (hj 1 (by decide)) dL_law_389 ?_
  refine l_callX (S := []) (f2 := 2) (l2 := 43) (ν := mtX5_water) (as := [.int (xs (6 * n + 1))]) cv_RL_31 kc_1 ⟨Nat.le_of_ble_eq_true rfl, Nat.le_of_ble_eq_true rfl⟩ rfl rfl (Nat.le_of_ble_eq_true rfl) dL_law_390 (by intro v hv; simp at hv; try (rcases hv with rfl | rfl | rfl | rfl | rfl <;> rfl); try (rcases hv with rfl | rfl | rfl | rfl <;> rfl); try (rcases hv with rfl | rfl | rfl <;> rfl); try (rcases hv with rfl | rfl <;> rfl); try (subst hv; rfl)) is_X0 ?_
  refine ctX5_water (xs (6 * n + 1)) ⟨(v, N1), e1, ?_⟩
  show Lv (wX, zX) (wY, zY) b Ln xs c0 s0 393 [some (.ref b), some (.ref (gp (wX, zX) 0)), some (.ref (gp (wY, zY) 0)), some (.int (nI (6 * n)))] [.int v] N1 M2
  refine l_aload_n dL_law_393 rfl ?_
  refine l_aload_n dL_law_394 rfl ?_
  refine l_iload_n dL_law_395 rfl ?_
  refine l_iconst (1 : Int32) dL_law_396 (by decide) ?_
  refine l_iadd dL_law_397 ?_
  refine l_sld (q := 6 * n + 1) hx1 (hi 1 (by decide)) (hj 1 (by decide)) dL_law_398 ?_
  refine l_callY (S := [.int v]) (f2 := 2) (l2 := 46) (ν := mtX6_water) (as := [.int (xs (6 * n + 1))]) cv_RL_35 kc_7 ⟨Nat.le_of_ble_eq_true rfl, Nat.le_of_ble_eq_true rfl⟩ rfl rfl (Nat.le_of_ble_eq_true rfl) dL_law_399 (by intro v hv; simp at hv; try (rcases hv with rfl | rfl | rfl | rfl | rfl <;> rfl); try (rcases hv with rfl | rfl | rfl | rfl <;> rfl); try (rcases hv with rfl | rfl | rfl <;> rfl); try (rcases hv with rfl | rfl <;> rfl); try (subst hv; rfl)) is_Y0 ?_
  refine ctX6_water (xs (6 * n + 1)) ⟨(v, N2), e2, ?_⟩
  show Lv (wX, zX) (wY, zY) b Ln xs c0 s0 402 [some (.ref b), some (.ref (gp (wX, zX) 0)), some (.ref (gp (wY, zY) 0)), some (.int (nI (6 * n)))] [.int v, .int v] N1 N2
  refine l_icmp_eq 1412 dL_law_402 (by decide) (fun _ => ih) (fun z => absurd rfl z)
set_option maxRecDepth 20000 in
theorem lawc_5 {zX zY : Zt} {b Ln c0 s0 n : Nat} {xs : Nat → Int32} {M1 M2 : Me} (R : Nat → Me → Me → Prop) (q : sim5 R) (hn : n < 512) (hr : R n M1 M2) (hL : 6 * n + 6 ≤ Ln) (hL2 : Ln ≤ 3072) (ih : ∀ N1 N2, R (n + 1) N1 N2 → Lv (wX, zX) (wY, zY) b Ln xs c0 s0 1412 [some (.ref b), some (.ref (gp (wX, zX) 0)), some (.ref (gp (wY, zY) 0)), some (.int (nI (6 * n)))] [] N1 N2) : Lv (wX, zX) (wY, zY) b Ln xs c0 s0 407 [some (.ref b), some (.ref (gp (wX, zX) 0)), some (.ref (gp (wY, zY) 0)), some (.int (nI (6 * n)))] [] M1 M2 := by
  obtain ⟨v, N1, N2, e1, e2, hr2⟩ := q n M1 M2 (xs (6 * n + 1)) hn hr
  have ih := ih N1 N2 hr2
  have hi : ∀ j, j < 6 → vp_in (nI (6 * n + j)) Ln := fun j hj => vp_in_nI (by omega) (by omega)
  have hj : ∀ j, j < 6 → (nI (6 * n + j)).toNatClampNeg = 6 * n + j := fun j hj => nI_clamp (by omega)
  have hx1 : nI (6 * n) + (1 : Int32) = nI (6 * n + 1) := nI_add (6 * n) 1
  refine l_aload_n dL_law_407 rfl ?_
  refine l_aload_n dL_law_408 rfl ?_
  refine l_iload_n dL_law_409 rfl ?_
  refine l_iconst (1 : Int32) dL_law_410 (by decide) ?_
  refine l_iadd dL_law_411 ?_
  refine l_sld (q := 6 * n + 1) hx1 (hi 1 (by decide)) (hj 1 (by decide)) dL_law_412 ?_
  refine l_callX (S := []) (f2 := 1) (l2 := 21) (ν := mtX5_now) (as := [.int (xs (6 * n + 1))]) cv_RL_36 kc_1 ⟨Nat.le_of_ble_eq_true rfl, Nat.le_of_ble_eq_true rfl⟩ rfl rfl (Nat.le_of_ble_eq_true rfl) dL_law_413 (by intro v hv; simp at hv; try (rcases hv with rfl | rfl | rfl | rfl | rfl <;> rfl); try (rcases hv with rfl | rfl | rfl | rfl <;> rfl); try (rcases hv with rfl | rfl | rfl <;> rfl); try (rcases hv with rfl | rfl <;> rfl); try (subst hv; rfl)) is_X0 ?_
  refine ctX5_now (xs (6 * n + 1)) ⟨(v, N1), e1, ?_⟩
  show Lv (wX, zX) (wY, zY) b Ln xs c0 s0 416 [some (.ref b), some (.ref (gp (wX, zX) 0)), some (.ref (gp (wY, zY) 0)), some (.int (nI (6 * n)))] [.int v] N1 M2
  refine l_aload_n dL_law_416 rfl ?_
  refine l_aload_n dL_law_417 rfl ?_
  refine l_iload_n dL_law_418 rfl ?_
  refine l_iconst (1 : Int32) dL_law_419 (by decide) ?_
  refine l_iadd dL_law_420 ?_
  refine l_sld (q := 6 * n + 1) hx1 (hi 1 (by decide)) (hj 1 (by decide)) dL_law_421 ?_
  refine l_callY (S := [.int v]) (f2 := 1) (l2 := 21) (ν := mtX6_now) (as := [.int (xs (6 * n + 1))]) cv_RL_39 kc_7 ⟨Nat.le_of_ble_eq_true rfl, Nat.le_of_ble_eq_true rfl⟩ rfl rfl (Nat.le_of_ble_eq_true rfl) dL_law_422 (by intro v hv; simp at hv; try (rcases hv with rfl | rfl | rfl | rfl | rfl <;> rfl); try (rcases hv with rfl | rfl | rfl | rfl <;> rfl); try (rcases hv with rfl | rfl | rfl <;> rfl); try (rcases hv with rfl | rfl <;> rfl); try (subst hv; rfl)) is_Y0 ?_
  refine ctX6_now (xs (6 * n + 1)) ⟨(v, N2), e2, ?_⟩
  show Lv (wX, zX) (wY, zY) b Ln xs c0 s0 425 [some (.ref b), some (.ref (gp (wX, zX) 0)), some (.ref (gp (wY, zY) 0)), some (.int (nI (6 * n)))] [.int v, .int v] N1 N2
  refine l_icmp_eq 1412 dL_law_425 (by decide) (fun _ => ih) (fun z => absurd rfl z)
set_option maxRecDepth 20000 in
theorem lawc_6 {zX zY : Zt} {b Ln c0 s0 n : Nat} {xs : Nat → Int32} {M1 M2 : Me} (R : Nat → Me → Me → Prop) (q : sim6 R) (hn : n < 512) (hr : R n M1 M2) (hL : 6 * n + 6 ≤ Ln) (hL2 : Ln ≤ 3072) (ih : ∀ N1 N2, R (n + 1) N1 N2 → Lv (wX, zX) (wY, zY) b Ln xs c0 s0 1412 [some (.ref b), some (.ref (gp (wX, zX) 0)), some (.ref (gp (wY, zY) 0)), some (.int (nI (6 * n)))] [] N1 N2) : Lv (wX, zX) (wY, zY) b Ln xs c0 s0 430 [some (.ref b), some (.ref (gp (wX, zX) 0)), some (.ref (gp (wY, zY) 0)), some (.int (nI (6 * n)))] [] M1 M2 := by
  obtain ⟨v, N1, N2, e1, e2, hr2⟩ := q n M1 M2 (xs (6 * n + 1)) hn hr
  have ih := ih N1 N2 hr2
  have hi : ∀ j, j < 6 → vp_in (nI (6 * n + j)) Ln := fun j hj => vp_in_nI (by omega) (by omega)
  have hj : ∀ j, j < 6 → (nI (6 * n + j)).toNatClampNeg = 6 * n + j := fun j hj => nI_clamp (by omega)
  have hx1 : nI (6 * n) + (1 : Int32) = nI (6 * n + 1) := nI_add (6 * n) 1
  refine l_aload_n dL_law_430 rfl ?_
  refine l_aload_n dL_law_431 rfl ?_
  refine l_iload_n dL_law_432 rfl ?_
  refine l_iconst (1 : Int32) dL_law_433 (by decide) ?_
  refine l_iadd dL_law_434 ?_
  refine l_sld (q := 6 * n + 1) hx1 (hi 1 (by decide)) (hj 1 (by decide)) dL_law_435 ?_
  refine l_callX (S := []) (f2 := 3) (l2 := 64) (ν := mtX5_go) (as := [.int (xs (6 * n + 1))]) cv_RL_40 kc_1 ⟨Nat.le_of_ble_eq_true rfl, Nat.le_of_ble_eq_true rfl⟩ rfl rfl (Nat.le_of_ble_eq_true rfl) dL_law_436 (by intro v hv; simp at hv; try (rcases hv with rfl | rfl | rfl | rfl | rfl <;> rfl); try (rcases hv with rfl | rfl | rfl | rfl <;> rfl); try (rcases hv with rfl | rfl | rfl <;> rfl); try (rcases hv with rfl | rfl <;> rfl); try (subst hv; rfl)) is_X0 ?_
  refine ctX5_go (xs (6 * n + 1)) ⟨(v, N1), e1, ?_⟩
  show Lv (wX, zX) (wY, zY) b Ln xs c0 s0 439 [some (.ref b), some (.ref (gp (wX, zX) 0)), some (.ref (gp (wY, zY) 0)), some (.int (nI (6 * n)))] [.int v] N1 M2
  refine l_aload_n dL_law_439 rfl ?_
  refine l_aload_n dL_law_440 rfl ?_
  refine l_iload_n dL_law_441 rfl ?_
  refine l_iconst (1 : Int32) dL_law_442 (by decide) ?_
  refine l_iadd dL_law_443 ?_
  refine l_sld (q := 6 * n + 1) hx1 (hi 1 (by decide)) (hj 1 (by decide)) dL_law_444 ?_
  refine l_callY (S := [.int v]) (f2 := 2) (l2 := 45) (ν := mtX6_go) (as := [.int (xs (6 * n + 1))]) cv_RL_43 kc_7 ⟨Nat.le_of_ble_eq_true rfl, Nat.le_of_ble_eq_true rfl⟩ rfl rfl (Nat.le_of_ble_eq_true rfl) dL_law_445 (by intro v hv; simp at hv; try (rcases hv with rfl | rfl | rfl | rfl | rfl <;> rfl); try (rcases hv with rfl | rfl | rfl | rfl <;> rfl); try (rcases hv with rfl | rfl | rfl <;> rfl); try (rcases hv with rfl | rfl <;> rfl); try (subst hv; rfl)) is_Y0 ?_
  refine ctX6_go (xs (6 * n + 1)) ⟨(v, N2), e2, ?_⟩
  show Lv (wX, zX) (wY, zY) b Ln xs c0 s0 448 [some (.ref b), some (.ref (gp (wX, zX) 0)), some (.ref (gp (wY, zY) 0)), some (.int (nI (6 * n)))] [.int v, .int v] N1 N2
  refine l_icmp_eq 1412 dL_law_448 (by decide) (fun _ => ih) (fun z => absurd rfl z)
set_option maxRecDepth 20000 in
theorem lawc_7 {zX zY : Zt} {b Ln c0 s0 n : Nat} {xs : Nat → Int32} {M1 M2 : Me} (R : Nat → Me → Me → Prop) (q : sim7 R) (hn : n < 512) (hr : R n M1 M2) (hL : 6 * n + 6 ≤ Ln) (hL2 : Ln ≤ 3072) (ih : ∀ N1 N2, R (n + 1) N1 N2 → Lv (wX, zX) (wY, zY) b Ln xs c0 s0 1412 [some (.ref b), some (.ref (gp (wX, zX) 0)), some (.ref (gp (wY, zY) 0)), some (.int (nI (6 * n)))] [] N1 N2) : Lv (wX, zX) (wY, zY) b Ln xs c0 s0 453 [some (.ref b), some (.ref (gp (wX, zX) 0)), some (.ref (gp (wY, zY) 0)), some (.int (nI (6 * n)))] [] M1 M2 := by
  obtain ⟨v, N1, N2, e1, e2, hr2⟩ := q n M1 M2 (xs (6 * n + 1)) hn hr
  have ih := ih N1 N2 hr2
  have hi : ∀ j, j < 6 → vp_in (nI (6 * n + j)) Ln := fun j hj => vp_in_nI (by omega) (by omega)
  have hj : ∀ j, j < 6 → (nI (6 * n + j)).toNatClampNeg = 6 * n + j := fun j hj => nI_clamp (by omega)
  have hx1 : nI (6 * n) + (1 : Int32) = nI (6 * n + 1) := nI_add (6 * n) 1
  refine l_aload_n dL_law_453 rfl ?_
  refine l_aload_n dL_law_454 rfl ?_
  refine l_iload_n dL_law_455 rfl ?_
  refine l_iconst (1 : Int32) dL_law_456 (by decide) ?_
  refine l_iadd dL_law_457 ?_
  refine l_sld (q := 6 * n + 1) hx1 (hi 1 (by decide)) (hj 1 (by decide)) dL_law_458 ?_
  refine l_callX (S := []) (f2 := 5) (l2 := 110) (ν := mtX5_run) (as := [.int (xs (6 * n + 1))]) cv_RL_44 kc_1 ⟨Nat.le_of_ble_eq_true rfl, Nat.le_of_ble_eq_true rfl⟩ rfl rfl (Nat.le_of_ble_eq_true rfl) dL_law_459 (by intro v hv; simp at hv; try (rcases hv with rfl | rfl | rfl | rfl | rfl <;> rfl); try (rcases hv with rfl | rfl | rfl | rfl <;> rfl); try (rcases hv with rfl | rfl | rfl <;> rfl); try (rcases hv with rfl | rfl <;> rfl); try (subst hv; rfl)) is_X0 ?_
  refine ctX5_run (xs (6 * n + 1)) ⟨(v, N1), e1, ?_⟩
  show Lv (wX, zX) (wY, zY) b Ln xs c0 s0 462 [some (.ref b), some (.ref (gp (wX, zX) 0)), some (.ref (gp (wY, zY) 0)), some (.int (nI (6 * n)))] [.int v] N1 M2
  refine l_aload_n dL_law_462 rfl ?_
  refine l_aload_n dL_law_463 rfl ?_
  refine l_iload_n dL_law_464 rfl ?_
  refine l_iconst (1 : Int32) dL_law_465 (by decide) ?_
  refine l_iadd dL_law_466 ?_
  refine l_sld (q := 6 * n + 1) hx1 (hi 1 (by decide)) (hj 1 (by decide)) dL_law_467 ?_
  refine l_callY (S := [.int v]) (f2 := 5) (l2 := 110) (ν := mtX6_run) (as := [.int (xs (6 * n + 1))]) cv_RL_47 kc_7 ⟨Nat.le_of_ble_eq_true rfl, Nat.le_of_ble_eq_true rfl⟩ rfl rfl (Nat.le_of_ble_eq_true rfl) dL_law_468 (by intro v hv; simp at hv; try (rcases hv with rfl | rfl | rfl | rfl | rfl <;> rfl); try (rcases hv with rfl | rfl | rfl | rfl <;> rfl); try (rcases hv with rfl | rfl | rfl <;> rfl); try (rcases hv with rfl | rfl <;> rfl); try (subst hv; rfl)) is_Y0 ?_
  refine ctX6_run (xs (6 * n + 1)) ⟨(v, N2), e2, ?_⟩
  show Lv (wX, zX) (wY, zY) b Ln xs c0 s0 471 [some (.ref b), some (.ref (gp (wX, zX) 0)), some (.ref (gp (wY, zY) 0)), some (.int (nI (6 * n)))] [.int v, .int v] N1 N2
  refine l_icmp_eq 1412 dL_law_471 (by decide) (fun _ => ih) (fun z => absurd rfl z)
set_option maxRecDepth 20000 in
theorem lawc_8 {zX zY : Zt} {b Ln c0 s0 n : Nat} {xs : Nat → Int32} {M1 M2 : Me} (R : Nat → Me → Me → Prop) (q : sim8 R) (hn : n < 512) (hr : R n M1 M2) (hL : 6 * n + 6 ≤ Ln) (hL2 : Ln ≤ 3072) (ih : ∀ N1 N2, R (n + 1) N1 N2 → Lv (wX, zX) (wY, zY) b Ln xs c0 s0 1412 [some (.ref b), some (.ref (gp (wX, zX) 0)), some (.ref (gp (wY, zY) 0)), some (.int (nI (6 * n)))] [] N1 N2) : Lv (wX, zX) (wY, zY) b Ln xs c0 s0 476 [some (.ref b), some (.ref (gp (wX, zX) 0)), some (.ref (gp (wY, zY) 0)), some (.int (nI (6 * n)))] [] M1 M2 := by
  obtain ⟨v, N1, N2, e1, e2, hr2⟩ := q n M1 M2 (xs (6 * n + 1)) hn hr
  have ih := ih N1 N2 hr2
  have hi : ∀ j, j < 6 → vp_in (nI (6 * n + j)) Ln := fun j hj => vp_in_nI (by omega) (by omega)
  have hj : ∀ j, j < 6 → (nI (6 * n + j)).toNatClampNeg = 6 * n + j := fun j hj => nI_clamp (by omega)
  have hx1 : nI (6 * n) + (1 : Int32) = nI (6 * n + 1) := nI_add (6 * n) 1
  refine l_aload_n dL_law_476 rfl ?_
  refine l_aload_n dL_law_477 rfl ?_
  refine l_iload_n dL_law_478 rfl ?_
  refine l_iconst (1 : Int32) dL_law_479 (by decide) ?_
  refine l_iadd dL_law_480 ?_
  refine l_sld (q := 6 * n + 1) hx1 (hi 1 (by decide)) (hj 1 (by decide)) dL_law_481 ?_
  refine l_callX (S := []) (f2 := 5) (l2 := 107) (ν := mtX5_can) (as := [.int (xs (6 * n + 1))]) cv_RL_48 kc_1 ⟨Nat.le_of_ble_eq_true rfl, Nat.le_of_ble_eq_true rfl⟩ rfl rfl (Nat.le_of_ble_eq_true rfl) dL_law_482 (by intro v hv; simp at hv; try (rcases hv with rfl | rfl | rfl | rfl | rfl <;> rfl); try (rcases hv with rfl | rfl | rfl | rfl <;> rfl); try (rcases hv with rfl | rfl | rfl <;> rfl); try (rcases hv with rfl | rfl <;> rfl); try (subst hv; rfl)) is_X0 ?_
  refine ctX5_can (xs (6 * n + 1)) ⟨(v, N1), e1, ?_⟩
  show Lv (wX, zX) (wY, zY) b Ln xs c0 s0 485 [some (.ref b), some (.ref (gp (wX, zX) 0)), some (.ref (gp (wY, zY) 0)), some (.int (nI (6 * n)))] [.int v] N1 M2
  refine l_aload_n dL_law_485 rfl ?_
  refine l_aload_n dL_law_486 rfl ?_
  refine l_iload_n dL_law_487 rfl ?_
  refine l_iconst (1 : Int32) dL_law_488 (by decide) ?_
  refine l_iadd dL_law_489 ?_
  refine l_sld (q := 6 * n + 1) hx1 (hi 1 (by decide)) (hj 1 (by decide)) dL_law_490 ?_
  refine l_callY (S := [.int v]) (f2 := 5) (l2 := 110) (ν := mtX6_can) (as := [.int (xs (6 * n + 1))]) cv_RL_51 kc_7 ⟨Nat.le_of_ble_eq_true rfl, Nat.le_of_ble_eq_true rfl⟩ rfl rfl (Nat.le_of_ble_eq_true rfl) dL_law_491 (by intro v hv; simp at hv; try (rcases hv with rfl | rfl | rfl | rfl | rfl <;> rfl); try (rcases hv with rfl | rfl | rfl | rfl <;> rfl); try (rcases hv with rfl | rfl | rfl <;> rfl); try (rcases hv with rfl | rfl <;> rfl); try (subst hv; rfl)) is_Y0 ?_
  refine ctX6_can (xs (6 * n + 1)) ⟨(v, N2), e2, ?_⟩
  show Lv (wX, zX) (wY, zY) b Ln xs c0 s0 494 [some (.ref b), some (.ref (gp (wX, zX) 0)), some (.ref (gp (wY, zY) 0)), some (.int (nI (6 * n)))] [.int v, .int v] N1 N2
  refine l_icmp_eq 1412 dL_law_494 (by decide) (fun _ => ih) (fun z => absurd rfl z)
set_option maxRecDepth 20000 in
theorem lawc_9 {zX zY : Zt} {b Ln c0 s0 n : Nat} {xs : Nat → Int32} {M1 M2 : Me} (R : Nat → Me → Me → Prop) (q : sim9 R) (hn : n < 512) (hr : R n M1 M2) (hL : 6 * n + 6 ≤ Ln) (hL2 : Ln ≤ 3072) (ih : ∀ N1 N2, R (n + 1) N1 N2 → Lv (wX, zX) (wY, zY) b Ln xs c0 s0 1412 [some (.ref b), some (.ref (gp (wX, zX) 0)), some (.ref (gp (wY, zY) 0)), some (.int (nI (6 * n)))] [] N1 N2) : Lv (wX, zX) (wY, zY) b Ln xs c0 s0 499 [some (.ref b), some (.ref (gp (wX, zX) 0)), some (.ref (gp (wY, zY) 0)), some (.int (nI (6 * n)))] [] M1 M2 := by
  obtain ⟨v, N1, N2, e1, e2, hr2⟩ := q n M1 M2 hn hr
  have ih := ih N1 N2 hr2
  have hi : ∀ j, j < 6 → vp_in (nI (6 * n + j)) Ln := fun j hj => vp_in_nI (by omega) (by omega)
  have hj : ∀ j, j < 6 → (nI (6 * n + j)).toNatClampNeg = 6 * n + j := fun j hj => nI_clamp (by omega)
  refine l_aload_n dL_law_499 rfl ?_
  refine l_callX (S := []) (f2 := 1) (l2 := 21) (ν := mtX5_pour) (as := []) cv_RL_52 kc_1 ⟨Nat.le_of_ble_eq_true rfl, Nat.le_of_ble_eq_true rfl⟩ rfl rfl (Nat.le_of_ble_eq_true rfl) dL_law_500 (by intro v hv; simp at hv; try (rcases hv with rfl | rfl | rfl | rfl | rfl <;> rfl); try (rcases hv with rfl | rfl | rfl | rfl <;> rfl); try (rcases hv with rfl | rfl | rfl <;> rfl); try (rcases hv with rfl | rfl <;> rfl); try (subst hv; rfl)) is_X0 ?_
  refine ctX5_pour ⟨(v, N1), e1, ?_⟩
  show Lv (wX, zX) (wY, zY) b Ln xs c0 s0 503 [some (.ref b), some (.ref (gp (wX, zX) 0)), some (.ref (gp (wY, zY) 0)), some (.int (nI (6 * n)))] [.int v] N1 M2
  refine l_aload_n dL_law_503 rfl ?_
  refine l_callY (S := [.int v]) (f2 := 1) (l2 := 21) (ν := mtX6_pour) (as := []) cv_RL_56 kc_7 ⟨Nat.le_of_ble_eq_true rfl, Nat.le_of_ble_eq_true rfl⟩ rfl rfl (Nat.le_of_ble_eq_true rfl) dL_law_504 (by intro v hv; simp at hv; try (rcases hv with rfl | rfl | rfl | rfl | rfl <;> rfl); try (rcases hv with rfl | rfl | rfl | rfl <;> rfl); try (rcases hv with rfl | rfl | rfl <;> rfl); try (rcases hv with rfl | rfl <;> rfl); try (subst hv; rfl)) is_Y0 ?_
  refine ctX6_pour ⟨(v, N2), e2, ?_⟩
  show Lv (wX, zX) (wY, zY) b Ln xs c0 s0 507 [some (.ref b), some (.ref (gp (wX, zX) 0)), some (.ref (gp (wY, zY) 0)), some (.int (nI (6 * n)))] [.int v, .int v] N1 N2
  refine l_icmp_eq 1412 dL_law_507 (by decide) (fun _ => ih) (fun z => absurd rfl z)
set_option maxRecDepth 20000 in
theorem lawc_10 {zX zY : Zt} {b Ln c0 s0 n : Nat} {xs : Nat → Int32} {M1 M2 : Me} (R : Nat → Me → Me → Prop) (q : sim10 R) (hn : n < 512) (hr : R n M1 M2) (hL : 6 * n + 6 ≤ Ln) (hL2 : Ln ≤ 3072) (ih : ∀ N1 N2, R (n + 1) N1 N2 → Lv (wX, zX) (wY, zY) b Ln xs c0 s0 1412 [some (.ref b), some (.ref (gp (wX, zX) 0)), some (.ref (gp (wY, zY) 0)), some (.int (nI (6 * n)))] [] N1 N2) : Lv (wX, zX) (wY, zY) b Ln xs c0 s0 512 [some (.ref b), some (.ref (gp (wX, zX) 0)), some (.ref (gp (wY, zY) 0)), some (.int (nI (6 * n)))] [] M1 M2 := by
  obtain ⟨v, N1, N2, e1, e2, hr2⟩ := q n M1 M2 (xs (6 * n + 1)) hn hr
  have ih := ih N1 N2 hr2
  have hi : ∀ j, j < 6 → vp_in (nI (6 * n + j)) Ln := fun j hj => vp_in_nI (by omega) (by omega)
  have hj : ∀ j, j < 6 → (nI (6 * n + j)).toNatClampNeg = 6 * n + j := fun j hj => nI_clamp (by omega)
  have hx1 : nI (6 * n) + (1 : Int32) = nI (6 * n + 1) := nI_add (6 * n) 1
  refine l_aload_n dL_law_512 rfl ?_
  refine l_aload_n dL_law_513 rfl ?_
  refine l_iload_n dL_law_514 rfl ?_
  refine l_iconst (1 : Int32) dL_law_515 (by decide) ?_
  refine l_iadd dL_law_516 ?_
  refine l_sld (q := 6 * n + 1) hx1 (hi 1 (by decide)) (hj 1 (by decide)) dL_law_517 ?_
  refine l_callX (S := []) (f2 := 1) (l2 := 22) (ν := mtX5_fill) (as := [.int (xs (6 * n + 1))]) cv_RL_57 kc_1 ⟨Nat.le_of_ble_eq_true rfl, Nat.le_of_ble_eq_true rfl⟩ rfl rfl (Nat.le_of_ble_eq_true rfl) dL_law_518 (by intro v hv; simp at hv; try (rcases hv with rfl | rfl | rfl | rfl | rfl <;> rfl); try (rcases hv with rfl | rfl | rfl | rfl <;> rfl); try (rcases hv with rfl | rfl | rfl <;> rfl); try (rcases hv with rfl | rfl <;> rfl); try (subst hv; rfl)) is_X0 ?_
  refine ctX5_fill (xs (6 * n + 1)) ⟨(v, N1), e1, ?_⟩
  show Lv (wX, zX) (wY, zY) b Ln xs c0 s0 521 [some (.ref b), some (.ref (gp (wX, zX) 0)), some (.ref (gp (wY, zY) 0)), some (.int (nI (6 * n)))] [.int v] N1 M2
  refine l_aload_n dL_law_521 rfl ?_
  refine l_aload_n dL_law_522 rfl ?_
  refine l_iload_n dL_law_523 rfl ?_
  refine l_iconst (1 : Int32) dL_law_524 (by decide) ?_
  refine l_iadd dL_law_525 ?_
  refine l_sld (q := 6 * n + 1) hx1 (hi 1 (by decide)) (hj 1 (by decide)) dL_law_526 ?_
  refine l_callY (S := [.int v]) (f2 := 1) (l2 := 25) (ν := mtX6_fill) (as := [.int (xs (6 * n + 1))]) cv_RL_60 kc_7 ⟨Nat.le_of_ble_eq_true rfl, Nat.le_of_ble_eq_true rfl⟩ rfl rfl (Nat.le_of_ble_eq_true rfl) dL_law_527 (by intro v hv; simp at hv; try (rcases hv with rfl | rfl | rfl | rfl | rfl <;> rfl); try (rcases hv with rfl | rfl | rfl | rfl <;> rfl); try (rcases hv with rfl | rfl | rfl <;> rfl); try (rcases hv with rfl | rfl <;> rfl); try (subst hv; rfl)) is_Y0 ?_
  refine ctX6_fill (xs (6 * n + 1)) ⟨(v, N2), e2, ?_⟩
  show Lv (wX, zX) (wY, zY) b Ln xs c0 s0 530 [some (.ref b), some (.ref (gp (wX, zX) 0)), some (.ref (gp (wY, zY) 0)), some (.int (nI (6 * n)))] [.int v, .int v] N1 N2
  refine l_icmp_eq 1412 dL_law_530 (by decide) (fun _ => ih) (fun z => absurd rfl z)
set_option maxRecDepth 20000 in
theorem lawc_11 {zX zY : Zt} {b Ln c0 s0 n : Nat} {xs : Nat → Int32} {M1 M2 : Me} (R : Nat → Me → Me → Prop) (q : sim11 R) (hn : n < 512) (hr : R n M1 M2) (hL : 6 * n + 6 ≤ Ln) (hL2 : Ln ≤ 3072) (ih : ∀ N1 N2, R (n + 1) N1 N2 → Lv (wX, zX) (wY, zY) b Ln xs c0 s0 1412 [some (.ref b), some (.ref (gp (wX, zX) 0)), some (.ref (gp (wY, zY) 0)), some (.int (nI (6 * n)))] [] N1 N2) : Lv (wX, zX) (wY, zY) b Ln xs c0 s0 535 [some (.ref b), some (.ref (gp (wX, zX) 0)), some (.ref (gp (wY, zY) 0)), some (.int (nI (6 * n)))] [] M1 M2 := by
  obtain ⟨v, N1, N2, e1, e2, hr2⟩ := q n M1 M2 hn hr
  have ih := ih N1 N2 hr2
  have hi : ∀ j, j < 6 → vp_in (nI (6 * n + j)) Ln := fun j hj => vp_in_nI (by omega) (by omega)
  have hj : ∀ j, j < 6 → (nI (6 * n + j)).toNatClampNeg = 6 * n + j := fun j hj => nI_clamp (by omega)
  refine l_aload_n dL_law_535 rfl ?_
  refine l_callX (S := []) (f2 := 1) (l2 := 22) (ν := mtX5_night) (as := []) cv_RL_61 kc_1 ⟨Nat.le_of_ble_eq_true rfl, Nat.le_of_ble_eq_true rfl⟩ rfl rfl (Nat.le_of_ble_eq_true rfl) dL_law_536 (by intro v hv; simp at hv; try (rcases hv with rfl | rfl | rfl | rfl | rfl <;> rfl); try (rcases hv with rfl | rfl | rfl | rfl <;> rfl); try (rcases hv with rfl | rfl | rfl <;> rfl); try (rcases hv with rfl | rfl <;> rfl); try (subst hv; rfl)) is_X0 ?_
  refine ctX5_night ⟨(v, N1), e1, ?_⟩
  show Lv (wX, zX) (wY, zY) b Ln xs c0 s0 539 [some (.ref b), some (.ref (gp (wX, zX) 0)), some (.ref (gp (wY, zY) 0)), some (.int (nI (6 * n)))] [.int v] N1 M2
  refine l_aload_n dL_law_539 rfl ?_
  refine l_callY (S := [.int v]) (f2 := 2) (l2 := 42) (ν := mtX6_night) (as := []) cv_RL_64 kc_7 ⟨Nat.le_of_ble_eq_true rfl, Nat.le_of_ble_eq_true rfl⟩ rfl rfl (Nat.le_of_ble_eq_true rfl) dL_law_540 (by intro v hv; simp at hv; try (rcases hv with rfl | rfl | rfl | rfl | rfl <;> rfl); try (rcases hv with rfl | rfl | rfl | rfl <;> rfl); try (rcases hv with rfl | rfl | rfl <;> rfl); try (rcases hv with rfl | rfl <;> rfl); try (subst hv; rfl)) is_Y0 ?_
  refine ctX6_night ⟨(v, N2), e2, ?_⟩
  show Lv (wX, zX) (wY, zY) b Ln xs c0 s0 543 [some (.ref b), some (.ref (gp (wX, zX) 0)), some (.ref (gp (wY, zY) 0)), some (.int (nI (6 * n)))] [.int v, .int v] N1 N2
  refine l_icmp_eq 1412 dL_law_543 (by decide) (fun _ => ih) (fun z => absurd rfl z)
set_option maxRecDepth 20000 in
theorem lawc_12 {zX zY : Zt} {b Ln c0 s0 n : Nat} {xs : Nat → Int32} {M1 M2 : Me} (R : Nat → Me → Me → Prop) (q : sim12 R) (hn : n < 512) (hr : R n M1 M2) (hL : 6 * n + 6 ≤ Ln) (hL2 : Ln ≤ 3072) (ih : ∀ N1 N2, R (n + 1) N1 N2 → Lv (wX, zX) (wY, zY) b Ln xs c0 s0 1412 [some (.ref b), some (.ref (gp (wX, zX) 0)), some (.ref (gp (wY, zY) 0)), some (.int (nI (6 * n)))] [] N1 N2) : Lv (wX, zX) (wY, zY) b Ln xs c0 s0 548 [some (.ref b), some (.ref (gp (wX, zX) 0)), some (.ref (gp (wY, zY) 0)), some (.int (nI (6 * n)))] [] M1 M2 := by
  obtain ⟨v, N1, N2, e1, e2, hr2⟩ := q n M1 M2 (xs (6 * n + 1)) hn hr
  have ih := ih N1 N2 hr2
  have hi : ∀ j, j < 6 → vp_in (nI (6 * n + j)) Ln := fun j hj => vp_in_nI (by omega) (by omega)
  have hj : ∀ j, j < 6 → (nI (6 * n + j)).toNatClampNeg = 6 * n + j := fun j hj => nI_clamp (by omega)
  have hx1 : nI (6 * n) + (1 : Int32) = nI (6 * n + 1) := nI_add (6 * n) 1
  refine l_aload_n dL_law_548 rfl ?_
  refine l_aload_n dL_law_549 rfl ?_
  refine l_iload_n dL_law_550 rfl ?_
  refine l_iconst (1 : Int32) dL_law_551 (by decide) ?_
  refine l_iadd dL_law_552 ?_
  refine l_sld (q := 6 * n + 1) hx1 (hi 1 (by decide)) (hj 1 (by decide)) dL_law_553 ?_
  refine l_callX (S := []) (f2 := 4) (l2 := 88) (ν := mtX5_row) (as := [.int (xs (6 * n + 1))]) cv_RL_65 kc_1 ⟨Nat.le_of_ble_eq_true rfl, Nat.le_of_ble_eq_true rfl⟩ rfl rfl (Nat.le_of_ble_eq_true rfl) dL_law_554 (by intro v hv; simp at hv; try (rcases hv with rfl | rfl | rfl | rfl | rfl <;> rfl); try (rcases hv with rfl | rfl | rfl | rfl <;> rfl); try (rcases hv with rfl | rfl | rfl <;> rfl); try (rcases hv with rfl | rfl <;> rfl); try (subst hv; rfl)) is_X0 ?_
  refine ctX5_row (xs (6 * n + 1)) ⟨(v, N1), e1, ?_⟩
  show Lv (wX, zX) (wY, zY) b Ln xs c0 s0 557 [some (.ref b), some (.ref (gp (wX, zX) 0)), some (.ref (gp (wY, zY) 0)), some (.int (nI (6 * n)))] [.int v] N1 M2
  refine l_aload_n dL_law_557 rfl ?_
  refine l_aload_n dL_law_558 rfl ?_
  refine l_iload_n dL_law_559 rfl ?_
  refine l_iconst (1 : Int32) dL_law_560 (by decide) ?_
  refine l_iadd dL_law_561 ?_
  refine l_sld (q := 6 * n + 1) hx1 (hi 1 (by decide)) (hj 1 (by decide)) dL_law_562 ?_
  refine l_callY (S := [.int v]) (f2 := 5) (l2 := 111) (ν := mtX6_row) (as := [.int (xs (6 * n + 1))]) cv_RL_68 kc_7 ⟨Nat.le_of_ble_eq_true rfl, Nat.le_of_ble_eq_true rfl⟩ rfl rfl (Nat.le_of_ble_eq_true rfl) dL_law_563 (by intro v hv; simp at hv; try (rcases hv with rfl | rfl | rfl | rfl | rfl <;> rfl); try (rcases hv with rfl | rfl | rfl | rfl <;> rfl); try (rcases hv with rfl | rfl | rfl <;> rfl); try (rcases hv with rfl | rfl <;> rfl); try (subst hv; rfl)) is_Y0 ?_
  refine ctX6_row (xs (6 * n + 1)) ⟨(v, N2), e2, ?_⟩
  show Lv (wX, zX) (wY, zY) b Ln xs c0 s0 566 [some (.ref b), some (.ref (gp (wX, zX) 0)), some (.ref (gp (wY, zY) 0)), some (.int (nI (6 * n)))] [.int v, .int v] N1 N2
  refine l_icmp_eq 1412 dL_law_566 (by decide) (fun _ => ih) (fun z => absurd rfl z)
set_option maxRecDepth 20000 in
theorem lawc_13 {zX zY : Zt} {b Ln c0 s0 n : Nat} {xs : Nat → Int32} {M1 M2 : Me} (R : Nat → Me → Me → Prop) (q : sim13 R) (hn : n < 512) (hr : R n M1 M2) (hL : 6 * n + 6 ≤ Ln) (hL2 : Ln ≤ 3072) (ih : ∀ N1 N2, R (n + 1) N1 N2 → Lv (wX, zX) (wY, zY) b Ln xs c0 s0 1412 [some (.ref b), some (.ref (gp (wX, zX) 0)), some (.ref (gp (wY, zY) 0)), some (.int (nI (6 * n)))] [] N1 N2) : Lv (wX, zX) (wY, zY) b Ln xs c0 s0 571 [some (.ref b), some (.ref (gp (wX, zX) 0)), some (.ref (gp (wY, zY) 0)), some (.int (nI (6 * n)))] [] M1 M2 := by
  obtain ⟨v, N1, N2, e1, e2, hr2⟩ := q n M1 M2 (xs (6 * n + 1)) hn hr
  have ih := ih N1 N2 hr2
  have hi : ∀ j, j < 6 → vp_in (nI (6 * n + j)) Ln := fun j hj => vp_in_nI (by omega) (by omega)
  have hj : ∀ j, j < 6 → (nI (6 * n + j)).toNatClampNeg = 6 * n + j := fun j hj => nI_clamp (by omega)
  have hx1 : nI (6 * n) + (1 : Int32) = nI (6 * n + 1) := nI_add (6 * n) 1
  refine l_aload_n dL_law_571 rfl ?_
  refine l_aload_n dL_law_572 rfl ?_
  refine l_iload_n dL_law_573 rfl ?_
  refine l_iconst (1 : Int32) dL_law_574 (by decide) ?_
  refine l_iadd dL_law_575 ?_
  refine l_sld (q := 6 * n + 1) hx1 (hi 1 (by decide)) (hj 1 (by decide)) dL_law_576 ?_
  refine l_callX (S := []) (f2 := 6) (l2 := 143) (ν := mtX5_most) (as := [.int (xs (6 * n + 1))]) cv_RL_69 kc_1 ⟨Nat.le_of_ble_eq_true rfl, Nat.le_of_ble_eq_true rfl⟩ rfl rfl (Nat.le_of_ble_eq_true rfl) dL_law_577 (by intro v hv; simp at hv; try (rcases hv with rfl | rfl | rfl | rfl | rfl <;> rfl); try (rcases hv with rfl | rfl | rfl | rfl <;> rfl); try (rcases hv with rfl | rfl | rfl <;> rfl); try (rcases hv with rfl | rfl <;> rfl); try (subst hv; rfl)) is_X0 ?_
  refine ctX5_most (xs (6 * n + 1)) ⟨(v, N1), e1, ?_⟩
  show Lv (wX, zX) (wY, zY) b Ln xs c0 s0 580 [some (.ref b), some (.ref (gp (wX, zX) 0)), some (.ref (gp (wY, zY) 0)), some (.int (nI (6 * n)))] [.int v] N1 M2
  refine l_aload_n dL_law_580 rfl ?_
  refine l_aload_n dL_law_581 rfl ?_
  refine l_iload_n dL_law_582 rfl ?_
  refine l_iconst (1 : Int32) dL_law_583 (by decide) ?_
  refine l_iadd dL_law_584 ?_
  refine l_sld (q := 6 * n + 1) hx1 (hi 1 (by decide)) (hj 1 (by decide)) dL_law_585 ?_
  refine l_callY (S := [.int v]) (f2 := 6) (l2 := 132) (ν := mtX6_most) (as := [.int (xs (6 * n + 1))]) cv_RL_72 kc_7 ⟨Nat.le_of_ble_eq_true rfl, Nat.le_of_ble_eq_true rfl⟩ rfl rfl (Nat.le_of_ble_eq_true rfl) dL_law_586 (by intro v hv; simp at hv; try (rcases hv with rfl | rfl | rfl | rfl | rfl <;> rfl); try (rcases hv with rfl | rfl | rfl | rfl <;> rfl); try (rcases hv with rfl | rfl | rfl <;> rfl); try (rcases hv with rfl | rfl <;> rfl); try (subst hv; rfl)) is_Y0 ?_
  refine ctX6_most (xs (6 * n + 1)) ⟨(v, N2), e2, ?_⟩
  show Lv (wX, zX) (wY, zY) b Ln xs c0 s0 589 [some (.ref b), some (.ref (gp (wX, zX) 0)), some (.ref (gp (wY, zY) 0)), some (.int (nI (6 * n)))] [.int v, .int v] N1 N2
  refine l_icmp_eq 1412 dL_law_589 (by decide) (fun _ => ih) (fun z => absurd rfl z)
set_option maxRecDepth 20000 in
theorem lawc_14 {zX zY : Zt} {b Ln c0 s0 n : Nat} {xs : Nat → Int32} {M1 M2 : Me} (R : Nat → Me → Me → Prop) (q : sim14 R) (hn : n < 512) (hr : R n M1 M2) (hL : 6 * n + 6 ≤ Ln) (hL2 : Ln ≤ 3072) (ih : ∀ N1 N2, R (n + 1) N1 N2 → Lv (wX, zX) (wY, zY) b Ln xs c0 s0 1412 [some (.ref b), some (.ref (gp (wX, zX) 0)), some (.ref (gp (wY, zY) 0)), some (.int (nI (6 * n)))] [] N1 N2) : Lv (wX, zX) (wY, zY) b Ln xs c0 s0 594 [some (.ref b), some (.ref (gp (wX, zX) 0)), some (.ref (gp (wY, zY) 0)), some (.int (nI (6 * n)))] [] M1 M2 := by
  obtain ⟨v, N1, N2, e1, e2, hr2⟩ := q n M1 M2 (xs (6 * n + 1)) (xs (6 * n + 2)) hn hr
  have ih := ih N1 N2 hr2
  have hi : ∀ j, j < 6 → vp_in (nI (6 * n + j)) Ln := fun j hj => vp_in_nI (by omega) (by omega)
  have hj : ∀ j, j < 6 → (nI (6 * n + j)).toNatClampNeg = 6 * n + j := fun j hj => nI_clamp (by omega)
  have hx1 : nI (6 * n) + (1 : Int32) = nI (6 * n + 1) := nI_add (6 * n) 1
  have hx2 : nI (6 * n) + (2 : Int32) = nI (6 * n + 2) := nI_add (6 * n) 2
  refine l_aload_n dL_law_594 rfl ?_
  refine l_aload_n dL_law_595 rfl ?_
  refine l_iload_n dL_law_596 rfl ?_
  refine l_iconst (1 : Int32) dL_law_597 (by decide) ?_
  refine l_iadd dL_law_598 ?_
  refine l_sld (q := 6 * n + 1) hx1 (hi 1 (by decide)) (hj 1 (by decide)) dL_law_599 ?_
  refine l_aload_n dL_law_600 rfl ?_
  refine l_iload_n dL_law_601 rfl ?_
  refine l_iconst (2 : Int32) dL_law_602 (by decide) ?_
  refine l_iadd dL_law_603 ?_
  refine l_sld (q := 6 * n + 2) hx2 (hi 2 (by decide)) (hj 2 (by decide)) dL_law_604 ?_
  refine l_callX (S := []) (f2 := 7) (l2 := 170) (ν := mtX5_order) (as := [.int (xs (6 * n + 1)), .int (xs (6 * n + 2))]) cv_RL_73 kc_1 ⟨Nat.le_of_ble_eq_true rfl, Nat.le_of_ble_eq_true rfl⟩ rfl rfl (Nat.le_of_ble_eq_true rfl) dL_law_605 (by intro v hv; simp at hv; try (rcases hv with rfl | rfl | rfl | rfl | rfl <;> rfl); try (rcases hv with rfl | rfl | rfl | rfl <;> rfl); try (rcases hv with rfl | rfl | rfl <;> rfl); try (rcases hv with rfl | rfl <;> rfl); try (subst hv; rfl)) is_X0 ?_
  refine ctX5_order (xs (6 * n + 1)) (xs (6 * n + 2)) ⟨(v, N1), e1, ?_⟩
  show Lv (wX, zX) (wY, zY) b Ln xs c0 s0 608 [some (.ref b), some (.ref (gp (wX, zX) 0)), some (.ref (gp (wY, zY) 0)), some (.int (nI (6 * n)))] [.int v] N1 M2
  refine l_aload_n dL_law_608 rfl ?_
  refine l_aload_n dL_law_609 rfl ?_
  refine l_iload_n dL_law_610 rfl ?_
  refine l_iconst (1 : Int32) dL_law_611 (by decide) ?_
  refine l_iadd dL_law_612 ?_
  refine l_sld (q := 6 * n + 1) hx1 (hi 1 (by decide)) (hj 1 (by decide)) dL_law_613 ?_
  refine l_aload_n dL_law_614 rfl ?_
  refine l_iload_n dL_law_615 rfl ?_
  refine l_iconst (2 : Int32) dL_law_616 (by decide) ?_
  refine l_iadd dL_law_617 ?_
  refine l_sld (q := 6 * n + 2) hx2 (hi 2 (by decide)) (hj 2 (by decide)) dL_law_618 ?_
  refine l_callY (S := [.int v]) (f2 := 7) (l2 := 161) (ν := mtX6_order) (as := [.int (xs (6 * n + 1)), .int (xs (6 * n + 2))]) cv_RL_76 kc_7 ⟨Nat.le_of_ble_eq_true rfl, Nat.le_of_ble_eq_true rfl⟩ rfl rfl (Nat.le_of_ble_eq_true rfl) dL_law_619 (by intro v hv; simp at hv; try (rcases hv with rfl | rfl | rfl | rfl | rfl <;> rfl); try (rcases hv with rfl | rfl | rfl | rfl <;> rfl); try (rcases hv with rfl | rfl | rfl <;> rfl); try (rcases hv with rfl | rfl <;> rfl); try (subst hv; rfl)) is_Y0 ?_
  refine ctX6_order (xs (6 * n + 1)) (xs (6 * n + 2)) ⟨(v, N2), e2, ?_⟩
  show Lv (wX, zX) (wY, zY) b Ln xs c0 s0 622 [some (.ref b), some (.ref (gp (wX, zX) 0)), some (.ref (gp (wY, zY) 0)), some (.int (nI (6 * n)))] [.int v, .int v] N1 N2
  refine l_icmp_eq 1412 dL_law_622 (by decide) (fun _ => ih) (fun z => absurd rfl z)
set_option maxRecDepth 20000 in
theorem lawc_15 {zX zY : Zt} {b Ln c0 s0 n : Nat} {xs : Nat → Int32} {M1 M2 : Me} (R : Nat → Me → Me → Prop) (q : sim15 R) (hn : n < 512) (hr : R n M1 M2) (hL : 6 * n + 6 ≤ Ln) (hL2 : Ln ≤ 3072) (ih : ∀ N1 N2, R (n + 1) N1 N2 → Lv (wX, zX) (wY, zY) b Ln xs c0 s0 1412 [some (.ref b), some (.ref (gp (wX, zX) 0)), some (.ref (gp (wY, zY) 0)), some (.int (nI (6 * n)))] [] N1 N2) : Lv (wX, zX) (wY, zY) b Ln xs c0 s0 627 [some (.ref b), some (.ref (gp (wX, zX) 0)), some (.ref (gp (wY, zY) 0)), some (.int (nI (6 * n)))] [] M1 M2 := by
  obtain ⟨v, N1, N2, e1, e2, hr2⟩ := q n M1 M2 hn hr
  have ih := ih N1 N2 hr2
  have hi : ∀ j, j < 6 → vp_in (nI (6 * n + j)) Ln := fun j hj => vp_in_nI (by omega) (by omega)
  have hj : ∀ j, j < 6 → (nI (6 * n + j)).toNatClampNeg = 6 * n + j := fun j hj => nI_clamp (by omega)
  refine l_aload_n dL_law_627 rfl ?_
  refine l_callX (S := []) (f2 := 4) (l2 := 95) (ν := mtX5_least) (as := []) cv_RL_77 kc_1 ⟨Nat.le_of_ble_eq_true rfl, Nat.le_of_ble_eq_true rfl⟩ rfl rfl (Nat.le_of_ble_eq_true rfl) dL_law_628 (by intro v hv; simp at hv; try (rcases hv with rfl | rfl | rfl | rfl | rfl <;> rfl); try (rcases hv with rfl | rfl | rfl | rfl <;> rfl); try (rcases hv with rfl | rfl | rfl <;> rfl); try (rcases hv with rfl | rfl <;> rfl); try (subst hv; rfl)) is_X0 ?_
  refine ctX5_least ⟨(v, N1), e1, ?_⟩
  show Lv (wX, zX) (wY, zY) b Ln xs c0 s0 631 [some (.ref b), some (.ref (gp (wX, zX) 0)), some (.ref (gp (wY, zY) 0)), some (.int (nI (6 * n)))] [.int v] N1 M2
  refine l_aload_n dL_law_631 rfl ?_
  refine l_callY (S := [.int v]) (f2 := 5) (l2 := 111) (ν := mtX6_least) (as := []) cv_RL_80 kc_7 ⟨Nat.le_of_ble_eq_true rfl, Nat.le_of_ble_eq_true rfl⟩ rfl rfl (Nat.le_of_ble_eq_true rfl) dL_law_632 (by intro v hv; simp at hv; try (rcases hv with rfl | rfl | rfl | rfl | rfl <;> rfl); try (rcases hv with rfl | rfl | rfl | rfl <;> rfl); try (rcases hv with rfl | rfl | rfl <;> rfl); try (rcases hv with rfl | rfl <;> rfl); try (subst hv; rfl)) is_Y0 ?_
  refine ctX6_least ⟨(v, N2), e2, ?_⟩
  show Lv (wX, zX) (wY, zY) b Ln xs c0 s0 635 [some (.ref b), some (.ref (gp (wX, zX) 0)), some (.ref (gp (wY, zY) 0)), some (.int (nI (6 * n)))] [.int v, .int v] N1 N2
  refine l_icmp_eq 1412 dL_law_635 (by decide) (fun _ => ih) (fun z => absurd rfl z)
set_option maxRecDepth 20000 in
theorem lawc_16 {zX zY : Zt} {b Ln c0 s0 n : Nat} {xs : Nat → Int32} {M1 M2 : Me} (R : Nat → Me → Me → Prop) (q : sim16 R) (hn : n < 512) (hr : R n M1 M2) (hL : 6 * n + 6 ≤ Ln) (hL2 : Ln ≤ 3072) (ih : ∀ N1 N2, R (n + 1) N1 N2 → Lv (wX, zX) (wY, zY) b Ln xs c0 s0 1412 [some (.ref b), some (.ref (gp (wX, zX) 0)), some (.ref (gp (wY, zY) 0)), some (.int (nI (6 * n)))] [] N1 N2) : Lv (wX, zX) (wY, zY) b Ln xs c0 s0 640 [some (.ref b), some (.ref (gp (wX, zX) 0)), some (.ref (gp (wY, zY) 0)), some (.int (nI (6 * n)))] [] M1 M2 := by
  obtain ⟨v, N1, N2, e1, e2, hr2⟩ := q n M1 M2 (xs (6 * n + 1)) hn hr
  have ih := ih N1 N2 hr2
  have hi : ∀ j, j < 6 → vp_in (nI (6 * n + j)) Ln := fun j hj => vp_in_nI (by omega) (by omega)
  have hj : ∀ j, j < 6 → (nI (6 * n + j)).toNatClampNeg = 6 * n + j := fun j hj => nI_clamp (by omega)
  have hx1 : nI (6 * n) + (1 : Int32) = nI (6 * n + 1) := nI_add (6 * n) 1
  refine l_aload_n dL_law_640 rfl ?_
  refine l_aload_n dL_law_641 rfl ?_
  refine l_iload_n dL_law_642 rfl ?_
  refine l_iconst (1 : Int32) dL_law_643 (by decide) ?_
  refine l_iadd dL_law_644 ?_
  refine l_sld (q := 6 * n + 1) hx1 (hi 1 (by decide)) (hj 1 (by decide)) dL_law_645 ?_
  refine l_callX (S := []) (f2 := 4) (l2 := 95) (ν := mtX5_leastFor) (as := [.int (xs (6 * n + 1))]) cv_RL_81 kc_1 ⟨Nat.le_of_ble_eq_true rfl, Nat.le_of_ble_eq_true rfl⟩ rfl rfl (Nat.le_of_ble_eq_true rfl) dL_law_646 (by intro v hv; simp at hv; try (rcases hv with rfl | rfl | rfl | rfl | rfl <;> rfl); try (rcases hv with rfl | rfl | rfl | rfl <;> rfl); try (rcases hv with rfl | rfl | rfl <;> rfl); try (rcases hv with rfl | rfl <;> rfl); try (subst hv; rfl)) is_X0 ?_
  refine ctX5_leastFor (xs (6 * n + 1)) ⟨(v, N1), e1, ?_⟩
  show Lv (wX, zX) (wY, zY) b Ln xs c0 s0 649 [some (.ref b), some (.ref (gp (wX, zX) 0)), some (.ref (gp (wY, zY) 0)), some (.int (nI (6 * n)))] [.int v] N1 M2
  refine l_aload_n dL_law_649 rfl ?_
  refine l_aload_n dL_law_650 rfl ?_
  refine l_iload_n dL_law_651 rfl ?_
  refine l_iconst (1 : Int32) dL_law_652 (by decide) ?_
  refine l_iadd dL_law_653 ?_
  refine l_sld (q := 6 * n + 1) hx1 (hi 1 (by decide)) (hj 1 (by decide)) dL_law_654 ?_
  refine l_callY (S := [.int v]) (f2 := 6) (l2 := 132) (ν := mtX6_leastFor) (as := [.int (xs (6 * n + 1))]) cv_RL_84 kc_7 ⟨Nat.le_of_ble_eq_true rfl, Nat.le_of_ble_eq_true rfl⟩ rfl rfl (Nat.le_of_ble_eq_true rfl) dL_law_655 (by intro v hv; simp at hv; try (rcases hv with rfl | rfl | rfl | rfl | rfl <;> rfl); try (rcases hv with rfl | rfl | rfl | rfl <;> rfl); try (rcases hv with rfl | rfl | rfl <;> rfl); try (rcases hv with rfl | rfl <;> rfl); try (subst hv; rfl)) is_Y0 ?_
  refine ctX6_leastFor (xs (6 * n + 1)) ⟨(v, N2), e2, ?_⟩
  show Lv (wX, zX) (wY, zY) b Ln xs c0 s0 658 [some (.ref b), some (.ref (gp (wX, zX) 0)), some (.ref (gp (wY, zY) 0)), some (.int (nI (6 * n)))] [.int v, .int v] N1 N2
  refine l_icmp_eq 1412 dL_law_658 (by decide) (fun _ => ih) (fun z => absurd rfl z)
set_option maxRecDepth 20000 in
theorem lawc_17 {zX zY : Zt} {b Ln c0 s0 n : Nat} {xs : Nat → Int32} {M1 M2 : Me} (R : Nat → Me → Me → Prop) (q : sim17 R) (hn : n < 512) (hr : R n M1 M2) (hL : 6 * n + 6 ≤ Ln) (hL2 : Ln ≤ 3072) (ih : ∀ N1 N2, R (n + 1) N1 N2 → Lv (wX, zX) (wY, zY) b Ln xs c0 s0 1412 [some (.ref b), some (.ref (gp (wX, zX) 0)), some (.ref (gp (wY, zY) 0)), some (.int (nI (6 * n)))] [] N1 N2) : Lv (wX, zX) (wY, zY) b Ln xs c0 s0 663 [some (.ref b), some (.ref (gp (wX, zX) 0)), some (.ref (gp (wY, zY) 0)), some (.int (nI (6 * n)))] [] M1 M2 := by
  obtain ⟨v, N1, N2, e1, e2, hr2⟩ := q n M1 M2 hn hr
  have ih := ih N1 N2 hr2
  have hi : ∀ j, j < 6 → vp_in (nI (6 * n + j)) Ln := fun j hj => vp_in_nI (by omega) (by omega)
  have hj : ∀ j, j < 6 → (nI (6 * n + j)).toNatClampNeg = 6 * n + j := fun j hj => nI_clamp (by omega)
  refine l_aload_n dL_law_663 rfl ?_
  refine l_callX (S := []) (f2 := 5) (l2 := 119) (ν := mtX5_keep) (as := []) cv_RL_85 kc_1 ⟨Nat.le_of_ble_eq_true rfl, Nat.le_of_ble_eq_true rfl⟩ rfl rfl (Nat.le_of_ble_eq_true rfl) dL_law_664 (by intro v hv; simp at hv; try (rcases hv with rfl | rfl | rfl | rfl | rfl <;> rfl); try (rcases hv with rfl | rfl | rfl | rfl <;> rfl); try (rcases hv with rfl | rfl | rfl <;> rfl); try (rcases hv with rfl | rfl <;> rfl); try (subst hv; rfl)) is_X0 ?_
  refine ctX5_keep ⟨(v, N1), e1, ?_⟩
  show Lv (wX, zX) (wY, zY) b Ln xs c0 s0 667 [some (.ref b), some (.ref (gp (wX, zX) 0)), some (.ref (gp (wY, zY) 0)), some (.int (nI (6 * n)))] [.int v] N1 M2
  refine l_aload_n dL_law_667 rfl ?_
  refine l_callY (S := [.int v]) (f2 := 6) (l2 := 132) (ν := mtX6_keep) (as := []) cv_RL_88 kc_7 ⟨Nat.le_of_ble_eq_true rfl, Nat.le_of_ble_eq_true rfl⟩ rfl rfl (Nat.le_of_ble_eq_true rfl) dL_law_668 (by intro v hv; simp at hv; try (rcases hv with rfl | rfl | rfl | rfl | rfl <;> rfl); try (rcases hv with rfl | rfl | rfl | rfl <;> rfl); try (rcases hv with rfl | rfl | rfl <;> rfl); try (rcases hv with rfl | rfl <;> rfl); try (subst hv; rfl)) is_Y0 ?_
  refine ctX6_keep ⟨(v, N2), e2, ?_⟩
  show Lv (wX, zX) (wY, zY) b Ln xs c0 s0 671 [some (.ref b), some (.ref (gp (wX, zX) 0)), some (.ref (gp (wY, zY) 0)), some (.int (nI (6 * n)))] [.int v, .int v] N1 N2
  refine l_icmp_eq 1412 dL_law_671 (by decide) (fun _ => ih) (fun z => absurd rfl z)
set_option maxRecDepth 20000 in
theorem lawc_18 {zX zY : Zt} {b Ln c0 s0 n : Nat} {xs : Nat → Int32} {M1 M2 : Me} (R : Nat → Me → Me → Prop) (q : sim18 R) (hn : n < 512) (hr : R n M1 M2) (hL : 6 * n + 6 ≤ Ln) (hL2 : Ln ≤ 3072) (ih : ∀ N1 N2, R (n + 1) N1 N2 → Lv (wX, zX) (wY, zY) b Ln xs c0 s0 1412 [some (.ref b), some (.ref (gp (wX, zX) 0)), some (.ref (gp (wY, zY) 0)), some (.int (nI (6 * n)))] [] N1 N2) : Lv (wX, zX) (wY, zY) b Ln xs c0 s0 676 [some (.ref b), some (.ref (gp (wX, zX) 0)), some (.ref (gp (wY, zY) 0)), some (.int (nI (6 * n)))] [] M1 M2 := by
  obtain ⟨v, N1, N2, e1, e2, hr2⟩ := q n M1 M2 (xs (6 * n + 1)) hn hr
  have ih := ih N1 N2 hr2
  have hi : ∀ j, j < 6 → vp_in (nI (6 * n + j)) Ln := fun j hj => vp_in_nI (by omega) (by omega)
  have hj : ∀ j, j < 6 → (nI (6 * n + j)).toNatClampNeg = 6 * n + j := fun j hj => nI_clamp (by omega)
  have hx1 : nI (6 * n) + (1 : Int32) = nI (6 * n + 1) := nI_add (6 * n) 1
  refine l_aload_n dL_law_676 rfl ?_
  refine l_aload_n dL_law_677 rfl ?_
  refine l_iload_n dL_law_678 rfl ?_
  refine l_iconst (1 : Int32) dL_law_679 (by decide) ?_
  refine l_iadd dL_law_680 ?_
  refine l_sld (q := 6 * n + 1) hx1 (hi 1 (by decide)) (hj 1 (by decide)) dL_law_681 ?_
  refine l_callX (S := []) (f2 := 4) (l2 := 88) (ν := mtX5_starts) (as := [.int (xs (6 * n + 1))]) cv_RL_89 kc_1 ⟨Nat.le_of_ble_eq_true rfl, Nat.le_of_ble_eq_true rfl⟩ rfl rfl (Nat.le_of_ble_eq_true rfl) dL_law_682 (by intro v hv; simp at hv; try (rcases hv with rfl | rfl | rfl | rfl | rfl <;> rfl); try (rcases hv with rfl | rfl | rfl | rfl <;> rfl); try (rcases hv with rfl | rfl | rfl <;> rfl); try (rcases hv with rfl | rfl <;> rfl); try (subst hv; rfl)) is_X0 ?_
  refine ctX5_starts (xs (6 * n + 1)) ⟨(v, N1), e1, ?_⟩
  show Lv (wX, zX) (wY, zY) b Ln xs c0 s0 685 [some (.ref b), some (.ref (gp (wX, zX) 0)), some (.ref (gp (wY, zY) 0)), some (.int (nI (6 * n)))] [.int v] N1 M2
  refine l_aload_n dL_law_685 rfl ?_
  refine l_aload_n dL_law_686 rfl ?_
  refine l_iload_n dL_law_687 rfl ?_
  refine l_iconst (1 : Int32) dL_law_688 (by decide) ?_
  refine l_iadd dL_law_689 ?_
  refine l_sld (q := 6 * n + 1) hx1 (hi 1 (by decide)) (hj 1 (by decide)) dL_law_690 ?_
  refine l_callY (S := [.int v]) (f2 := 5) (l2 := 111) (ν := mtX6_starts) (as := [.int (xs (6 * n + 1))]) cv_RL_92 kc_7 ⟨Nat.le_of_ble_eq_true rfl, Nat.le_of_ble_eq_true rfl⟩ rfl rfl (Nat.le_of_ble_eq_true rfl) dL_law_691 (by intro v hv; simp at hv; try (rcases hv with rfl | rfl | rfl | rfl | rfl <;> rfl); try (rcases hv with rfl | rfl | rfl | rfl <;> rfl); try (rcases hv with rfl | rfl | rfl <;> rfl); try (rcases hv with rfl | rfl <;> rfl); try (subst hv; rfl)) is_Y0 ?_
  refine ctX6_starts (xs (6 * n + 1)) ⟨(v, N2), e2, ?_⟩
  show Lv (wX, zX) (wY, zY) b Ln xs c0 s0 694 [some (.ref b), some (.ref (gp (wX, zX) 0)), some (.ref (gp (wY, zY) 0)), some (.int (nI (6 * n)))] [.int v, .int v] N1 N2
  refine l_icmp_eq 1412 dL_law_694 (by decide) (fun _ => ih) (fun z => absurd rfl z)
set_option maxRecDepth 20000 in
theorem lawc_19 {zX zY : Zt} {b Ln c0 s0 n : Nat} {xs : Nat → Int32} {M1 M2 : Me} (R : Nat → Me → Me → Prop) (q : sim19 R) (hn : n < 512) (hr : R n M1 M2) (hL : 6 * n + 6 ≤ Ln) (hL2 : Ln ≤ 3072) (ih : ∀ N1 N2, R (n + 1) N1 N2 → Lv (wX, zX) (wY, zY) b Ln xs c0 s0 1412 [some (.ref b), some (.ref (gp (wX, zX) 0)), some (.ref (gp (wY, zY) 0)), some (.int (nI (6 * n)))] [] N1 N2) : Lv (wX, zX) (wY, zY) b Ln xs c0 s0 699 [some (.ref b), some (.ref (gp (wX, zX) 0)), some (.ref (gp (wY, zY) 0)), some (.int (nI (6 * n)))] [] M1 M2 := by
  obtain ⟨v, N1, N2, e1, e2, hr2⟩ := q n M1 M2 hn hr
  have ih := ih N1 N2 hr2
  have hi : ∀ j, j < 6 → vp_in (nI (6 * n + j)) Ln := fun j hj => vp_in_nI (by omega) (by omega)
  have hj : ∀ j, j < 6 → (nI (6 * n + j)).toNatClampNeg = 6 * n + j := fun j hj => nI_clamp (by omega)
  refine l_aload_n dL_law_699 rfl ?_
  refine l_callX (S := []) (f2 := 5) (l2 := 120) (ν := mtX5_ring) (as := []) cv_RL_93 kc_1 ⟨Nat.le_of_ble_eq_true rfl, Nat.le_of_ble_eq_true rfl⟩ rfl rfl (Nat.le_of_ble_eq_true rfl) dL_law_700 (by intro v hv; simp at hv; try (rcases hv with rfl | rfl | rfl | rfl | rfl <;> rfl); try (rcases hv with rfl | rfl | rfl | rfl <;> rfl); try (rcases hv with rfl | rfl | rfl <;> rfl); try (rcases hv with rfl | rfl <;> rfl); try (subst hv; rfl)) is_X0 ?_
  refine ctX5_ring ⟨(v, N1), e1, ?_⟩
  show Lv (wX, zX) (wY, zY) b Ln xs c0 s0 703 [some (.ref b), some (.ref (gp (wX, zX) 0)), some (.ref (gp (wY, zY) 0)), some (.int (nI (6 * n)))] [.int v] N1 M2
  refine l_aload_n dL_law_703 rfl ?_
  refine l_callY (S := [.int v]) (f2 := 5) (l2 := 127) (ν := mtX6_ring) (as := []) cv_RL_96 kc_7 ⟨Nat.le_of_ble_eq_true rfl, Nat.le_of_ble_eq_true rfl⟩ rfl rfl (Nat.le_of_ble_eq_true rfl) dL_law_704 (by intro v hv; simp at hv; try (rcases hv with rfl | rfl | rfl | rfl | rfl <;> rfl); try (rcases hv with rfl | rfl | rfl | rfl <;> rfl); try (rcases hv with rfl | rfl | rfl <;> rfl); try (rcases hv with rfl | rfl <;> rfl); try (subst hv; rfl)) is_Y0 ?_
  refine ctX6_ring ⟨(v, N2), e2, ?_⟩
  show Lv (wX, zX) (wY, zY) b Ln xs c0 s0 707 [some (.ref b), some (.ref (gp (wX, zX) 0)), some (.ref (gp (wY, zY) 0)), some (.int (nI (6 * n)))] [.int v, .int v] N1 N2
  refine l_icmp_eq 1412 dL_law_707 (by decide) (fun _ => ih) (fun z => absurd rfl z)
set_option maxRecDepth 20000 in
theorem lawc_20 {zX zY : Zt} {b Ln c0 s0 n : Nat} {xs : Nat → Int32} {M1 M2 : Me} (R : Nat → Me → Me → Prop) (q : sim20 R) (hn : n < 512) (hr : R n M1 M2) (hL : 6 * n + 6 ≤ Ln) (hL2 : Ln ≤ 3072) (ih : ∀ N1 N2, R (n + 1) N1 N2 → Lv (wX, zX) (wY, zY) b Ln xs c0 s0 1412 [some (.ref b), some (.ref (gp (wX, zX) 0)), some (.ref (gp (wY, zY) 0)), some (.int (nI (6 * n)))] [] N1 N2) : Lv (wX, zX) (wY, zY) b Ln xs c0 s0 712 [some (.ref b), some (.ref (gp (wX, zX) 0)), some (.ref (gp (wY, zY) 0)), some (.int (nI (6 * n)))] [] M1 M2 := by
  obtain ⟨v, N1, N2, e1, e2, hr2⟩ := q n M1 M2 (xs (6 * n + 1)) (xs (6 * n + 2)) hn hr
  have ih := ih N1 N2 hr2
  have hi : ∀ j, j < 6 → vp_in (nI (6 * n + j)) Ln := fun j hj => vp_in_nI (by omega) (by omega)
  have hj : ∀ j, j < 6 → (nI (6 * n + j)).toNatClampNeg = 6 * n + j := fun j hj => nI_clamp (by omega)
  have hx1 : nI (6 * n) + (1 : Int32) = nI (6 * n + 1) := nI_add (6 * n) 1
  have hx2 : nI (6 * n) + (2 : Int32) = nI (6 * n + 2) := nI_add (6 * n) 2
  refine l_aload_n dL_law_712 rfl ?_
  refine l_aload_n dL_law_713 rfl ?_
  refine l_iload_n dL_law_714 rfl ?_
  refine l_iconst (1 : Int32) dL_law_715 (by decide) ?_
  refine l_iadd dL_law_716 ?_
  refine l_sld (q := 6 * n + 1) hx1 (hi 1 (by decide)) (hj 1 (by decide)) dL_law_717 ?_
  refine l_aload_n dL_law_718 rfl ?_
  refine l_iload_n dL_law_719 rfl ?_
  refine l_iconst (2 : Int32) dL_law_720 (by decide) ?_
  refine l_iadd dL_law_721 ?_
  refine l_sld (q := 6 * n + 2) hx2 (hi 2 (by decide)) (hj 2 (by decide)) dL_law_722 ?_
  refine l_callX (S := []) (f2 := 7) (l2 := 170) (ν := mtX5_mistake) (as := [.int (xs (6 * n + 1)), .int (xs (6 * n + 2))]) cv_RL_97 kc_1 ⟨Nat.le_of_ble_eq_true rfl, Nat.le_of_ble_eq_true rfl⟩ rfl rfl (Nat.le_of_ble_eq_true rfl) dL_law_723 (by intro v hv; simp at hv; try (rcases hv with rfl | rfl | rfl | rfl | rfl <;> rfl); try (rcases hv with rfl | rfl | rfl | rfl <;> rfl); try (rcases hv with rfl | rfl | rfl <;> rfl); try (rcases hv with rfl | rfl <;> rfl); try (subst hv; rfl)) is_X0 ?_
  refine ctX5_mistake (xs (6 * n + 1)) (xs (6 * n + 2)) ⟨(v, N1), e1, ?_⟩
  show Lv (wX, zX) (wY, zY) b Ln xs c0 s0 726 [some (.ref b), some (.ref (gp (wX, zX) 0)), some (.ref (gp (wY, zY) 0)), some (.int (nI (6 * n)))] [.int v] N1 M2
  refine l_aload_n dL_law_726 rfl ?_
  refine l_aload_n dL_law_727 rfl ?_
  refine l_iload_n dL_law_728 rfl ?_
  refine l_iconst (1 : Int32) dL_law_729 (by decide) ?_
  refine l_iadd dL_law_730 ?_
  refine l_sld (q := 6 * n + 1) hx1 (hi 1 (by decide)) (hj 1 (by decide)) dL_law_731 ?_
  refine l_aload_n dL_law_732 rfl ?_
  refine l_iload_n dL_law_733 rfl ?_
  refine l_iconst (2 : Int32) dL_law_734 (by decide) ?_
  refine l_iadd dL_law_735 ?_
  refine l_sld (q := 6 * n + 2) hx2 (hi 2 (by decide)) (hj 2 (by decide)) dL_law_736 ?_
  refine l_callY (S := [.int v]) (f2 := 7) (l2 := 161) (ν := mtX6_mistake) (as := [.int (xs (6 * n + 1)), .int (xs (6 * n + 2))]) cv_RL_100 kc_7 ⟨Nat.le_of_ble_eq_true rfl, Nat.le_of_ble_eq_true rfl⟩ rfl rfl (Nat.le_of_ble_eq_true rfl) dL_law_737 (by intro v hv; simp at hv; try (rcases hv with rfl | rfl | rfl | rfl | rfl <;> rfl); try (rcases hv with rfl | rfl | rfl | rfl <;> rfl); try (rcases hv with rfl | rfl | rfl <;> rfl); try (rcases hv with rfl | rfl <;> rfl); try (subst hv; rfl)) is_Y0 ?_
  refine ctX6_mistake (xs (6 * n + 1)) (xs (6 * n + 2)) ⟨(v, N2), e2, ?_⟩
  show Lv (wX, zX) (wY, zY) b Ln xs c0 s0 740 [some (.ref b), some (.ref (gp (wX, zX) 0)), some (.ref (gp (wY, zY) 0)), some (.int (nI (6 * n)))] [.int v, .int v] N1 N2
  refine l_icmp_eq 1412 dL_law_740 (by decide) (fun _ => ih) (fun z => absurd rfl z)
set_option maxRecDepth 20000 in
theorem lawc_21 {zX zY : Zt} {b Ln c0 s0 n : Nat} {xs : Nat → Int32} {M1 M2 : Me} (R : Nat → Me → Me → Prop) (q : sim21 R) (hn : n < 512) (hr : R n M1 M2) (hL : 6 * n + 6 ≤ Ln) (hL2 : Ln ≤ 3072) (ih : ∀ N1 N2, R (n + 1) N1 N2 → Lv (wX, zX) (wY, zY) b Ln xs c0 s0 1412 [some (.ref b), some (.ref (gp (wX, zX) 0)), some (.ref (gp (wY, zY) 0)), some (.int (nI (6 * n)))] [] N1 N2) : Lv (wX, zX) (wY, zY) b Ln xs c0 s0 745 [some (.ref b), some (.ref (gp (wX, zX) 0)), some (.ref (gp (wY, zY) 0)), some (.int (nI (6 * n)))] [] M1 M2 := by
  obtain ⟨v, N1, N2, e1, e2, hr2⟩ := q n M1 M2 (xs (6 * n + 1)) hn hr
  have ih := ih N1 N2 hr2
  have hi : ∀ j, j < 6 → vp_in (nI (6 * n + j)) Ln := fun j hj => vp_in_nI (by omega) (by omega)
  have hj : ∀ j, j < 6 → (nI (6 * n + j)).toNatClampNeg = 6 * n + j := fun j hj => nI_clamp (by omega)
  have hx1 : nI (6 * n) + (1 : Int32) = nI (6 * n + 1) := nI_add (6 * n) 1
  refine l_aload_n dL_law_745 rfl ?_
  refine l_aload_n dL_law_746 rfl ?_
  refine l_iload_n dL_law_747 rfl ?_
  refine l_iconst (1 : Int32) dL_law_748 (by decide) ?_
  refine l_iadd dL_law_749 ?_
  refine l_sld (q := 6 * n + 1) hx1 (hi 1 (by decide)) (hj 1 (by decide)) dL_law_750 ?_
  refine l_callX (S := []) (f2 := 7) (l2 := 169) (ν := mtX5_dear) (as := [.int (xs (6 * n + 1))]) cv_RL_101 kc_1 ⟨Nat.le_of_ble_eq_true rfl, Nat.le_of_ble_eq_true rfl⟩ rfl rfl (Nat.le_of_ble_eq_true rfl) dL_law_751 (by intro v hv; simp at hv; try (rcases hv with rfl | rfl | rfl | rfl | rfl <;> rfl); try (rcases hv with rfl | rfl | rfl | rfl <;> rfl); try (rcases hv with rfl | rfl | rfl <;> rfl); try (rcases hv with rfl | rfl <;> rfl); try (subst hv; rfl)) is_X0 ?_
  refine ctX5_dear (xs (6 * n + 1)) ⟨(v, N1), e1, ?_⟩
  show Lv (wX, zX) (wY, zY) b Ln xs c0 s0 754 [some (.ref b), some (.ref (gp (wX, zX) 0)), some (.ref (gp (wY, zY) 0)), some (.int (nI (6 * n)))] [.int v] N1 M2
  refine l_aload_n dL_law_754 rfl ?_
  refine l_aload_n dL_law_755 rfl ?_
  refine l_iload_n dL_law_756 rfl ?_
  refine l_iconst (1 : Int32) dL_law_757 (by decide) ?_
  refine l_iadd dL_law_758 ?_
  refine l_sld (q := 6 * n + 1) hx1 (hi 1 (by decide)) (hj 1 (by decide)) dL_law_759 ?_
  refine l_callY (S := [.int v]) (f2 := 5) (l2 := 111) (ν := mtX6_dear) (as := [.int (xs (6 * n + 1))]) cv_RL_104 kc_7 ⟨Nat.le_of_ble_eq_true rfl, Nat.le_of_ble_eq_true rfl⟩ rfl rfl (Nat.le_of_ble_eq_true rfl) dL_law_760 (by intro v hv; simp at hv; try (rcases hv with rfl | rfl | rfl | rfl | rfl <;> rfl); try (rcases hv with rfl | rfl | rfl | rfl <;> rfl); try (rcases hv with rfl | rfl | rfl <;> rfl); try (rcases hv with rfl | rfl <;> rfl); try (subst hv; rfl)) is_Y0 ?_
  refine ctX6_dear (xs (6 * n + 1)) ⟨(v, N2), e2, ?_⟩
  show Lv (wX, zX) (wY, zY) b Ln xs c0 s0 763 [some (.ref b), some (.ref (gp (wX, zX) 0)), some (.ref (gp (wY, zY) 0)), some (.int (nI (6 * n)))] [.int v, .int v] N1 N2
  refine l_icmp_eq 1412 dL_law_763 (by decide) (fun _ => ih) (fun z => absurd rfl z)
set_option maxRecDepth 20000 in
theorem lawc_22 {zX zY : Zt} {b Ln c0 s0 n : Nat} {xs : Nat → Int32} {M1 M2 : Me} (R : Nat → Me → Me → Prop) (q : sim22 R) (hn : n < 512) (hr : R n M1 M2) (hL : 6 * n + 6 ≤ Ln) (hL2 : Ln ≤ 3072) (ih : ∀ N1 N2, R (n + 1) N1 N2 → Lv (wX, zX) (wY, zY) b Ln xs c0 s0 1412 [some (.ref b), some (.ref (gp (wX, zX) 0)), some (.ref (gp (wY, zY) 0)), some (.int (nI (6 * n)))] [] N1 N2) : Lv (wX, zX) (wY, zY) b Ln xs c0 s0 768 [some (.ref b), some (.ref (gp (wX, zX) 0)), some (.ref (gp (wY, zY) 0)), some (.int (nI (6 * n)))] [] M1 M2 := by
  obtain ⟨v, N1, N2, e1, e2, hr2⟩ := q n M1 M2 (xs (6 * n + 1)) hn hr
  have ih := ih N1 N2 hr2
  have hi : ∀ j, j < 6 → vp_in (nI (6 * n + j)) Ln := fun j hj => vp_in_nI (by omega) (by omega)
  have hj : ∀ j, j < 6 → (nI (6 * n + j)).toNatClampNeg = 6 * n + j := fun j hj => nI_clamp (by omega)
  have hx1 : nI (6 * n) + (1 : Int32) = nI (6 * n + 1) := nI_add (6 * n) 1
  refine l_aload_n dL_law_768 rfl ?_
  refine l_aload_n dL_law_769 rfl ?_
  refine l_iload_n dL_law_770 rfl ?_
  refine l_iconst (1 : Int32) dL_law_771 (by decide) ?_
  refine l_iadd dL_law_772 ?_
  refine l_sld (q := 6 * n + 1) hx1 (hi 1 (by decide)) (hj 1 (by decide)) dL_law_773 ?_
  refine l_callX (S := []) (f2 := 7) (l2 := 170) (ν := mtX5_spring) (as := [.int (xs (6 * n + 1))]) cv_RL_105 kc_1 ⟨Nat.le_of_ble_eq_true rfl, Nat.le_of_ble_eq_true rfl⟩ rfl rfl (Nat.le_of_ble_eq_true rfl) dL_law_774 (by intro v hv; simp at hv; try (rcases hv with rfl | rfl | rfl | rfl | rfl <;> rfl); try (rcases hv with rfl | rfl | rfl | rfl <;> rfl); try (rcases hv with rfl | rfl | rfl <;> rfl); try (rcases hv with rfl | rfl <;> rfl); try (subst hv; rfl)) is_X0 ?_
  refine ctX5_spring (xs (6 * n + 1)) ⟨(v, N1), e1, ?_⟩
  show Lv (wX, zX) (wY, zY) b Ln xs c0 s0 777 [some (.ref b), some (.ref (gp (wX, zX) 0)), some (.ref (gp (wY, zY) 0)), some (.int (nI (6 * n)))] [.int v] N1 M2
  refine l_aload_n dL_law_777 rfl ?_
  refine l_aload_n dL_law_778 rfl ?_
  refine l_iload_n dL_law_779 rfl ?_
  refine l_iconst (1 : Int32) dL_law_780 (by decide) ?_
  refine l_iadd dL_law_781 ?_
  refine l_sld (q := 6 * n + 1) hx1 (hi 1 (by decide)) (hj 1 (by decide)) dL_law_782 ?_
  refine l_callY (S := [.int v]) (f2 := 6) (l2 := 132) (ν := mtX6_spring) (as := [.int (xs (6 * n + 1))]) cv_RL_108 kc_7 ⟨Nat.le_of_ble_eq_true rfl, Nat.le_of_ble_eq_true rfl⟩ rfl rfl (Nat.le_of_ble_eq_true rfl) dL_law_783 (by intro v hv; simp at hv; try (rcases hv with rfl | rfl | rfl | rfl | rfl <;> rfl); try (rcases hv with rfl | rfl | rfl | rfl <;> rfl); try (rcases hv with rfl | rfl | rfl <;> rfl); try (rcases hv with rfl | rfl <;> rfl); try (subst hv; rfl)) is_Y0 ?_
  refine ctX6_spring (xs (6 * n + 1)) ⟨(v, N2), e2, ?_⟩
  show Lv (wX, zX) (wY, zY) b Ln xs c0 s0 786 [some (.ref b), some (.ref (gp (wX, zX) 0)), some (.ref (gp (wY, zY) 0)), some (.int (nI (6 * n)))] [.int v, .int v] N1 N2
  refine l_icmp_eq 1412 dL_law_786 (by decide) (fun _ => ih) (fun z => absurd rfl z)
set_option maxRecDepth 20000 in
theorem lawc_23 {zX zY : Zt} {b Ln c0 s0 n : Nat} {xs : Nat → Int32} {M1 M2 : Me} (R : Nat → Me → Me → Prop) (q : sim23 R) (hn : n < 512) (hr : R n M1 M2) (hL : 6 * n + 6 ≤ Ln) (hL2 : Ln ≤ 3072) (ih : ∀ N1 N2, R (n + 1) N1 N2 → Lv (wX, zX) (wY, zY) b Ln xs c0 s0 1412 [some (.ref b), some (.ref (gp (wX, zX) 0)), some (.ref (gp (wY, zY) 0)), some (.int (nI (6 * n)))] [] N1 N2) : Lv (wX, zX) (wY, zY) b Ln xs c0 s0 791 [some (.ref b), some (.ref (gp (wX, zX) 0)), some (.ref (gp (wY, zY) 0)), some (.int (nI (6 * n)))] [] M1 M2 := by
  obtain ⟨v, N1, N2, e1, e2, hr2⟩ := q n M1 M2 (xs (6 * n + 1)) hn hr
  have ih := ih N1 N2 hr2
  have hi : ∀ j, j < 6 → vp_in (nI (6 * n + j)) Ln := fun j hj => vp_in_nI (by omega) (by omega)
  have hj : ∀ j, j < 6 → (nI (6 * n + j)).toNatClampNeg = 6 * n + j := fun j hj => nI_clamp (by omega)
  have hx1 : nI (6 * n) + (1 : Int32) = nI (6 * n + 1) := nI_add (6 * n) 1
  refine l_aload_n dL_law_791 rfl ?_
  refine l_aload_n dL_law_792 rfl ?_
  refine l_iload_n dL_law_793 rfl ?_
  refine l_iconst (1 : Int32) dL_law_794 (by decide) ?_
  refine l_iadd dL_law_795 ?_
  refine l_sld (q := 6 * n + 1) hx1 (hi 1 (by decide)) (hj 1 (by decide)) dL_law_796 ?_
  refine l_callX (S := []) (f2 := 7) (l2 := 167) (ν := mtX5_matters) (as := [.int (xs (6 * n + 1))]) cv_RL_109 kc_1 ⟨Nat.le_of_ble_eq_true rfl, Nat.le_of_ble_eq_true rfl⟩ rfl rfl (Nat.le_of_ble_eq_true rfl) dL_law_797 (by intro v hv; simp at hv; try (rcases hv with rfl | rfl | rfl | rfl | rfl <;> rfl); try (rcases hv with rfl | rfl | rfl | rfl <;> rfl); try (rcases hv with rfl | rfl | rfl <;> rfl); try (rcases hv with rfl | rfl <;> rfl); try (subst hv; rfl)) is_X0 ?_
  refine ctX5_matters (xs (6 * n + 1)) ⟨(v, N1), e1, ?_⟩
  show Lv (wX, zX) (wY, zY) b Ln xs c0 s0 800 [some (.ref b), some (.ref (gp (wX, zX) 0)), some (.ref (gp (wY, zY) 0)), some (.int (nI (6 * n)))] [.int v] N1 M2
  refine l_aload_n dL_law_800 rfl ?_
  refine l_aload_n dL_law_801 rfl ?_
  refine l_iload_n dL_law_802 rfl ?_
  refine l_iconst (1 : Int32) dL_law_803 (by decide) ?_
  refine l_iadd dL_law_804 ?_
  refine l_sld (q := 6 * n + 1) hx1 (hi 1 (by decide)) (hj 1 (by decide)) dL_law_805 ?_
  refine l_callY (S := [.int v]) (f2 := 6) (l2 := 132) (ν := mtX6_matters) (as := [.int (xs (6 * n + 1))]) cv_RL_112 kc_7 ⟨Nat.le_of_ble_eq_true rfl, Nat.le_of_ble_eq_true rfl⟩ rfl rfl (Nat.le_of_ble_eq_true rfl) dL_law_806 (by intro v hv; simp at hv; try (rcases hv with rfl | rfl | rfl | rfl | rfl <;> rfl); try (rcases hv with rfl | rfl | rfl | rfl <;> rfl); try (rcases hv with rfl | rfl | rfl <;> rfl); try (rcases hv with rfl | rfl <;> rfl); try (subst hv; rfl)) is_Y0 ?_
  refine ctX6_matters (xs (6 * n + 1)) ⟨(v, N2), e2, ?_⟩
  show Lv (wX, zX) (wY, zY) b Ln xs c0 s0 809 [some (.ref b), some (.ref (gp (wX, zX) 0)), some (.ref (gp (wY, zY) 0)), some (.int (nI (6 * n)))] [.int v, .int v] N1 N2
  refine l_icmp_eq 1412 dL_law_809 (by decide) (fun _ => ih) (fun z => absurd rfl z)
set_option maxRecDepth 20000 in
theorem lawc_24 {zX zY : Zt} {b Ln c0 s0 n : Nat} {xs : Nat → Int32} {M1 M2 : Me} (R : Nat → Me → Me → Prop) (q : sim24 R) (hn : n < 512) (hr : R n M1 M2) (hL : 6 * n + 6 ≤ Ln) (hL2 : Ln ≤ 3072) (ih : ∀ N1 N2, R (n + 1) N1 N2 → Lv (wX, zX) (wY, zY) b Ln xs c0 s0 1412 [some (.ref b), some (.ref (gp (wX, zX) 0)), some (.ref (gp (wY, zY) 0)), some (.int (nI (6 * n)))] [] N1 N2) : Lv (wX, zX) (wY, zY) b Ln xs c0 s0 814 [some (.ref b), some (.ref (gp (wX, zX) 0)), some (.ref (gp (wY, zY) 0)), some (.int (nI (6 * n)))] [] M1 M2 := by
  obtain ⟨v, N1, N2, e1, e2, hr2⟩ := q n M1 M2 (xs (6 * n + 1)) hn hr
  have ih := ih N1 N2 hr2
  have hi : ∀ j, j < 6 → vp_in (nI (6 * n + j)) Ln := fun j hj => vp_in_nI (by omega) (by omega)
  have hj : ∀ j, j < 6 → (nI (6 * n + j)).toNatClampNeg = 6 * n + j := fun j hj => nI_clamp (by omega)
  have hx1 : nI (6 * n) + (1 : Int32) = nI (6 * n + 1) := nI_add (6 * n) 1
  refine l_aload_n dL_law_814 rfl ?_
  refine l_aload_n dL_law_815 rfl ?_
  refine l_iload_n dL_law_816 rfl ?_
  refine l_iconst (1 : Int32) dL_law_817 (by decide) ?_
  refine l_iadd dL_law_818 ?_
  refine l_sld (q := 6 * n + 1) hx1 (hi 1 (by decide)) (hj 1 (by decide)) dL_law_819 ?_
  refine l_callX (S := []) (f2 := 7) (l2 := 167) (ν := mtX5_room) (as := [.int (xs (6 * n + 1))]) cv_RL_113 kc_1 ⟨Nat.le_of_ble_eq_true rfl, Nat.le_of_ble_eq_true rfl⟩ rfl rfl (Nat.le_of_ble_eq_true rfl) dL_law_820 (by intro v hv; simp at hv; try (rcases hv with rfl | rfl | rfl | rfl | rfl <;> rfl); try (rcases hv with rfl | rfl | rfl | rfl <;> rfl); try (rcases hv with rfl | rfl | rfl <;> rfl); try (rcases hv with rfl | rfl <;> rfl); try (subst hv; rfl)) is_X0 ?_
  refine ctX5_room (xs (6 * n + 1)) ⟨(v, N1), e1, ?_⟩
  show Lv (wX, zX) (wY, zY) b Ln xs c0 s0 823 [some (.ref b), some (.ref (gp (wX, zX) 0)), some (.ref (gp (wY, zY) 0)), some (.int (nI (6 * n)))] [.int v] N1 M2
  refine l_aload_n dL_law_823 rfl ?_
  refine l_aload_n dL_law_824 rfl ?_
  refine l_iload_n dL_law_825 rfl ?_
  refine l_iconst (1 : Int32) dL_law_826 (by decide) ?_
  refine l_iadd dL_law_827 ?_
  refine l_sld (q := 6 * n + 1) hx1 (hi 1 (by decide)) (hj 1 (by decide)) dL_law_828 ?_
  refine l_callY (S := [.int v]) (f2 := 6) (l2 := 132) (ν := mtX6_room) (as := [.int (xs (6 * n + 1))]) cv_RL_116 kc_7 ⟨Nat.le_of_ble_eq_true rfl, Nat.le_of_ble_eq_true rfl⟩ rfl rfl (Nat.le_of_ble_eq_true rfl) dL_law_829 (by intro v hv; simp at hv; try (rcases hv with rfl | rfl | rfl | rfl | rfl <;> rfl); try (rcases hv with rfl | rfl | rfl | rfl <;> rfl); try (rcases hv with rfl | rfl | rfl <;> rfl); try (rcases hv with rfl | rfl <;> rfl); try (subst hv; rfl)) is_Y0 ?_
  refine ctX6_room (xs (6 * n + 1)) ⟨(v, N2), e2, ?_⟩
  show Lv (wX, zX) (wY, zY) b Ln xs c0 s0 832 [some (.ref b), some (.ref (gp (wX, zX) 0)), some (.ref (gp (wY, zY) 0)), some (.int (nI (6 * n)))] [.int v, .int v] N1 N2
  refine l_icmp_eq 1412 dL_law_832 (by decide) (fun _ => ih) (fun z => absurd rfl z)
set_option maxRecDepth 20000 in
theorem lawc_25 {zX zY : Zt} {b Ln c0 s0 n : Nat} {xs : Nat → Int32} {M1 M2 : Me} (R : Nat → Me → Me → Prop) (q : sim25 R) (hn : n < 512) (hr : R n M1 M2) (hL : 6 * n + 6 ≤ Ln) (hL2 : Ln ≤ 3072) (ih : ∀ N1 N2, R (n + 1) N1 N2 → Lv (wX, zX) (wY, zY) b Ln xs c0 s0 1412 [some (.ref b), some (.ref (gp (wX, zX) 0)), some (.ref (gp (wY, zY) 0)), some (.int (nI (6 * n)))] [] N1 N2) : Lv (wX, zX) (wY, zY) b Ln xs c0 s0 837 [some (.ref b), some (.ref (gp (wX, zX) 0)), some (.ref (gp (wY, zY) 0)), some (.int (nI (6 * n)))] [] M1 M2 := by
  obtain ⟨v, N1, N2, e1, e2, hr2⟩ := q n M1 M2 (xs (6 * n + 1)) hn hr
  have ih := ih N1 N2 hr2
  have hi : ∀ j, j < 6 → vp_in (nI (6 * n + j)) Ln := fun j hj => vp_in_nI (by omega) (by omega)
  have hj : ∀ j, j < 6 → (nI (6 * n + j)).toNatClampNeg = 6 * n + j := fun j hj => nI_clamp (by omega)
  have hx1 : nI (6 * n) + (1 : Int32) = nI (6 * n + 1) := nI_add (6 * n) 1
  refine l_aload_n dL_law_837 rfl ?_
  refine l_aload_n dL_law_838 rfl ?_
  refine l_iload_n dL_law_839 rfl ?_
  refine l_iconst (1 : Int32) dL_law_840 (by decide) ?_
  refine l_iadd dL_law_841 ?_
  refine l_sld (q := 6 * n + 1) hx1 (hi 1 (by decide)) (hj 1 (by decide)) dL_law_842 ?_
  refine l_callX (S := []) (f2 := 6) (l2 := 143) (ν := mtX5_bears) (as := [.int (xs (6 * n + 1))]) cv_RL_117 kc_1 ⟨Nat.le_of_ble_eq_true rfl, Nat.le_of_ble_eq_true rfl⟩ rfl rfl (Nat.le_of_ble_eq_true rfl) dL_law_843 (by intro v hv; simp at hv; try (rcases hv with rfl | rfl | rfl | rfl | rfl <;> rfl); try (rcases hv with rfl | rfl | rfl | rfl <;> rfl); try (rcases hv with rfl | rfl | rfl <;> rfl); try (rcases hv with rfl | rfl <;> rfl); try (subst hv; rfl)) is_X0 ?_
  refine ctX5_bears (xs (6 * n + 1)) ⟨(v, N1), e1, ?_⟩
  show Lv (wX, zX) (wY, zY) b Ln xs c0 s0 846 [some (.ref b), some (.ref (gp (wX, zX) 0)), some (.ref (gp (wY, zY) 0)), some (.int (nI (6 * n)))] [.int v] N1 M2
  refine l_aload_n dL_law_846 rfl ?_
  refine l_aload_n dL_law_847 rfl ?_
  refine l_iload_n dL_law_848 rfl ?_
  refine l_iconst (1 : Int32) dL_law_849 (by decide) ?_
  refine l_iadd dL_law_850 ?_
  refine l_sld (q := 6 * n + 1) hx1 (hi 1 (by decide)) (hj 1 (by decide)) dL_law_851 ?_
  refine l_callY (S := [.int v]) (f2 := 6) (l2 := 132) (ν := mtX6_bears) (as := [.int (xs (6 * n + 1))]) cv_RL_120 kc_7 ⟨Nat.le_of_ble_eq_true rfl, Nat.le_of_ble_eq_true rfl⟩ rfl rfl (Nat.le_of_ble_eq_true rfl) dL_law_852 (by intro v hv; simp at hv; try (rcases hv with rfl | rfl | rfl | rfl | rfl <;> rfl); try (rcases hv with rfl | rfl | rfl | rfl <;> rfl); try (rcases hv with rfl | rfl | rfl <;> rfl); try (rcases hv with rfl | rfl <;> rfl); try (subst hv; rfl)) is_Y0 ?_
  refine ctX6_bears (xs (6 * n + 1)) ⟨(v, N2), e2, ?_⟩
  show Lv (wX, zX) (wY, zY) b Ln xs c0 s0 855 [some (.ref b), some (.ref (gp (wX, zX) 0)), some (.ref (gp (wY, zY) 0)), some (.int (nI (6 * n)))] [.int v, .int v] N1 N2
  refine l_icmp_eq 1412 dL_law_855 (by decide) (fun _ => ih) (fun z => absurd rfl z)
set_option maxRecDepth 20000 in
theorem lawc_26 {zX zY : Zt} {b Ln c0 s0 n : Nat} {xs : Nat → Int32} {M1 M2 : Me} (R : Nat → Me → Me → Prop) (q : sim26 R) (hn : n < 512) (hr : R n M1 M2) (hL : 6 * n + 6 ≤ Ln) (hL2 : Ln ≤ 3072) (ih : ∀ N1 N2, R (n + 1) N1 N2 → Lv (wX, zX) (wY, zY) b Ln xs c0 s0 1412 [some (.ref b), some (.ref (gp (wX, zX) 0)), some (.ref (gp (wY, zY) 0)), some (.int (nI (6 * n)))] [] N1 N2) : Lv (wX, zX) (wY, zY) b Ln xs c0 s0 860 [some (.ref b), some (.ref (gp (wX, zX) 0)), some (.ref (gp (wY, zY) 0)), some (.int (nI (6 * n)))] [] M1 M2 := by
  obtain ⟨v, N1, N2, e1, e2, hr2⟩ := q n M1 M2 (xs (6 * n + 1)) (xs (6 * n + 2)) hn hr
  have ih := ih N1 N2 hr2
  have hi : ∀ j, j < 6 → vp_in (nI (6 * n + j)) Ln := fun j hj => vp_in_nI (by omega) (by omega)
  have hj : ∀ j, j < 6 → (nI (6 * n + j)).toNatClampNeg = 6 * n + j := fun j hj => nI_clamp (by omega)
  have hx1 : nI (6 * n) + (1 : Int32) = nI (6 * n + 1) := nI_add (6 * n) 1
  have hx2 : nI (6 * n) + (2 : Int32) = nI (6 * n + 2) := nI_add (6 * n) 2
  refine l_aload_n dL_law_860 rfl ?_
  refine l_aload_n dL_law_861 rfl ?_
  refine l_iload_n dL_law_862 rfl ?_
  refine l_iconst (1 : Int32) dL_law_863 (by decide) ?_
  refine l_iadd dL_law_864 ?_
  refine l_sld (q := 6 * n + 1) hx1 (hi 1 (by decide)) (hj 1 (by decide)) dL_law_865 ?_
  refine l_aload_n dL_law_866 rfl ?_
  refine l_iload_n dL_law_867 rfl ?_
  refine l_iconst (2 : Int32) dL_law_868 (by decide) ?_
  refine l_iadd dL_law_869 ?_
  refine l_sld (q := 6 * n + 2) hx2 (hi 2 (by decide)) (hj 2 (by decide)) dL_law_870 ?_
  refine l_callX (S := []) (f2 := 7) (l2 := 170) (ν := mtX5_odds) (as := [.int (xs (6 * n + 1)), .int (xs (6 * n + 2))]) cv_RL_121 kc_1 ⟨Nat.le_of_ble_eq_true rfl, Nat.le_of_ble_eq_true rfl⟩ rfl rfl (Nat.le_of_ble_eq_true rfl) dL_law_871 (by intro v hv; simp at hv; try (rcases hv with rfl | rfl | rfl | rfl | rfl <;> rfl); try (rcases hv with rfl | rfl | rfl | rfl <;> rfl); try (rcases hv with rfl | rfl | rfl <;> rfl); try (rcases hv with rfl | rfl <;> rfl); try (subst hv; rfl)) is_X0 ?_
  refine ctX5_odds (xs (6 * n + 1)) (xs (6 * n + 2)) ⟨(v, N1), e1, ?_⟩
  show Lv (wX, zX) (wY, zY) b Ln xs c0 s0 874 [some (.ref b), some (.ref (gp (wX, zX) 0)), some (.ref (gp (wY, zY) 0)), some (.int (nI (6 * n)))] [.long v] N1 M2
  refine l_aload_n dL_law_874 rfl ?_
  refine l_aload_n dL_law_875 rfl ?_
  refine l_iload_n dL_law_876 rfl ?_
  refine l_iconst (1 : Int32) dL_law_877 (by decide) ?_
  refine l_iadd dL_law_878 ?_
  refine l_sld (q := 6 * n + 1) hx1 (hi 1 (by decide)) (hj 1 (by decide)) dL_law_879 ?_
  refine l_aload_n dL_law_880 rfl ?_
  refine l_iload_n dL_law_881 rfl ?_
  refine l_iconst (2 : Int32) dL_law_882 (by decide) ?_
  refine l_iadd dL_law_883 ?_
  refine l_sld (q := 6 * n + 2) hx2 (hi 2 (by decide)) (hj 2 (by decide)) dL_law_884 ?_
  refine l_callY (S := [.long v]) (f2 := 7) (l2 := 161) (ν := mtX6_odds) (as := [.int (xs (6 * n + 1)), .int (xs (6 * n + 2))]) cv_RL_125 kc_7 ⟨Nat.le_of_ble_eq_true rfl, Nat.le_of_ble_eq_true rfl⟩ rfl rfl (Nat.le_of_ble_eq_true rfl) dL_law_885 (by intro v hv; simp at hv; try (rcases hv with rfl | rfl | rfl | rfl | rfl <;> rfl); try (rcases hv with rfl | rfl | rfl | rfl <;> rfl); try (rcases hv with rfl | rfl | rfl <;> rfl); try (rcases hv with rfl | rfl <;> rfl); try (subst hv; rfl)) is_Y0 ?_
  refine ctX6_odds (xs (6 * n + 1)) (xs (6 * n + 2)) ⟨(v, N2), e2, ?_⟩
  show Lv (wX, zX) (wY, zY) b Ln xs c0 s0 888 [some (.ref b), some (.ref (gp (wX, zX) 0)), some (.ref (gp (wY, zY) 0)), some (.int (nI (6 * n)))] [.long v, .long v] N1 N2
  refine l_lcmp dL_law_888 ?_
  refine l_if_eq 1412 dL_law_889 (by decide) (fun _ => ih) (fun z => absurd (lg_self v) z)
set_option maxRecDepth 20000 in
theorem lawc_27 {zX zY : Zt} {b Ln c0 s0 n : Nat} {xs : Nat → Int32} {M1 M2 : Me} (R : Nat → Me → Me → Prop) (q : sim27 R) (hn : n < 512) (hr : R n M1 M2) (hL : 6 * n + 6 ≤ Ln) (hL2 : Ln ≤ 3072) (ih : ∀ N1 N2, R (n + 1) N1 N2 → Lv (wX, zX) (wY, zY) b Ln xs c0 s0 1412 [some (.ref b), some (.ref (gp (wX, zX) 0)), some (.ref (gp (wY, zY) 0)), some (.int (nI (6 * n)))] [] N1 N2) : Lv (wX, zX) (wY, zY) b Ln xs c0 s0 894 [some (.ref b), some (.ref (gp (wX, zX) 0)), some (.ref (gp (wY, zY) 0)), some (.int (nI (6 * n)))] [] M1 M2 := by
  obtain ⟨v, N1, N2, e1, e2, hr2⟩ := q n M1 M2 (xs (6 * n + 1)) hn hr
  have ih := ih N1 N2 hr2
  have hi : ∀ j, j < 6 → vp_in (nI (6 * n + j)) Ln := fun j hj => vp_in_nI (by omega) (by omega)
  have hj : ∀ j, j < 6 → (nI (6 * n + j)).toNatClampNeg = 6 * n + j := fun j hj => nI_clamp (by omega)
  have hx1 : nI (6 * n) + (1 : Int32) = nI (6 * n + 1) := nI_add (6 * n) 1
  refine l_aload_n dL_law_894 rfl ?_
  refine l_aload_n dL_law_895 rfl ?_
  refine l_iload_n dL_law_896 rfl ?_
  refine l_iconst (1 : Int32) dL_law_897 (by decide) ?_
  refine l_iadd dL_law_898 ?_
  refine l_sld (q := 6 * n + 1) hx1 (hi 1 (by decide)) (hj 1 (by decide)) dL_law_899 ?_
  refine l_callX (S := []) (f2 := 7) (l2 := 170) (ν := mtX5_mean) (as := [.int (xs (6 * n + 1))]) cv_RL_126 kc_1 ⟨Nat.le_of_ble_eq_true rfl, Nat.le_of_ble_eq_true rfl⟩ rfl rfl (Nat.le_of_ble_eq_true rfl) dL_law_900 (by intro v hv; simp at hv; try (rcases hv with rfl | rfl | rfl | rfl | rfl <;> rfl); try (rcases hv with rfl | rfl | rfl | rfl <;> rfl); try (rcases hv with rfl | rfl | rfl <;> rfl); try (rcases hv with rfl | rfl <;> rfl); try (subst hv; rfl)) is_X0 ?_
  refine ctX5_mean (xs (6 * n + 1)) ⟨(v, N1), e1, ?_⟩
  show Lv (wX, zX) (wY, zY) b Ln xs c0 s0 903 [some (.ref b), some (.ref (gp (wX, zX) 0)), some (.ref (gp (wY, zY) 0)), some (.int (nI (6 * n)))] [.long v] N1 M2
  refine l_aload_n dL_law_903 rfl ?_
  refine l_aload_n dL_law_904 rfl ?_
  refine l_iload_n dL_law_905 rfl ?_
  refine l_iconst (1 : Int32) dL_law_906 (by decide) ?_
  refine l_iadd dL_law_907 ?_
  refine l_sld (q := 6 * n + 1) hx1 (hi 1 (by decide)) (hj 1 (by decide)) dL_law_908 ?_
  refine l_callY (S := [.long v]) (f2 := 7) (l2 := 161) (ν := mtX6_mean) (as := [.int (xs (6 * n + 1))]) cv_RL_130 kc_7 ⟨Nat.le_of_ble_eq_true rfl, Nat.le_of_ble_eq_true rfl⟩ rfl rfl (Nat.le_of_ble_eq_true rfl) dL_law_909 (by intro v hv; simp at hv; try (rcases hv with rfl | rfl | rfl | rfl | rfl <;> rfl); try (rcases hv with rfl | rfl | rfl | rfl <;> rfl); try (rcases hv with rfl | rfl | rfl <;> rfl); try (rcases hv with rfl | rfl <;> rfl); try (subst hv; rfl)) is_Y0 ?_
  refine ctX6_mean (xs (6 * n + 1)) ⟨(v, N2), e2, ?_⟩
  show Lv (wX, zX) (wY, zY) b Ln xs c0 s0 912 [some (.ref b), some (.ref (gp (wX, zX) 0)), some (.ref (gp (wY, zY) 0)), some (.int (nI (6 * n)))] [.long v, .long v] N1 N2
  refine l_lcmp dL_law_912 ?_
  refine l_if_eq 1412 dL_law_913 (by decide) (fun _ => ih) (fun z => absurd (lg_self v) z)
set_option maxRecDepth 20000 in
theorem lawc_28 {zX zY : Zt} {b Ln c0 s0 n : Nat} {xs : Nat → Int32} {M1 M2 : Me} (R : Nat → Me → Me → Prop) (q : sim28 R) (hn : n < 512) (hr : R n M1 M2) (hL : 6 * n + 6 ≤ Ln) (hL2 : Ln ≤ 3072) (ih : ∀ N1 N2, R (n + 1) N1 N2 → Lv (wX, zX) (wY, zY) b Ln xs c0 s0 1412 [some (.ref b), some (.ref (gp (wX, zX) 0)), some (.ref (gp (wY, zY) 0)), some (.int (nI (6 * n)))] [] N1 N2) : Lv (wX, zX) (wY, zY) b Ln xs c0 s0 918 [some (.ref b), some (.ref (gp (wX, zX) 0)), some (.ref (gp (wY, zY) 0)), some (.int (nI (6 * n)))] [] M1 M2 := by
  obtain ⟨v, N1, N2, e1, e2, hr2⟩ := q n M1 M2 (xs (6 * n + 1)) hn hr
  have ih := ih N1 N2 hr2
  have hi : ∀ j, j < 6 → vp_in (nI (6 * n + j)) Ln := fun j hj => vp_in_nI (by omega) (by omega)
  have hj : ∀ j, j < 6 → (nI (6 * n + j)).toNatClampNeg = 6 * n + j := fun j hj => nI_clamp (by omega)
  have hx1 : nI (6 * n) + (1 : Int32) = nI (6 * n + 1) := nI_add (6 * n) 1
  refine l_aload_n dL_law_918 rfl ?_
  refine l_aload_n dL_law_919 rfl ?_
  refine l_iload_n dL_law_920 rfl ?_
  refine l_iconst (1 : Int32) dL_law_921 (by decide) ?_
  refine l_iadd dL_law_922 ?_
  refine l_sld (q := 6 * n + 1) hx1 (hi 1 (by decide)) (hj 1 (by decide)) dL_law_923 ?_
  refine l_callX (S := []) (f2 := 1) (l2 := 22) (ν := mtX5_rust) (as := [.int (xs (6 * n + 1))]) cv_RL_131 kc_1 ⟨Nat.le_of_ble_eq_true rfl, Nat.le_of_ble_eq_true rfl⟩ rfl rfl (Nat.le_of_ble_eq_true rfl) dL_law_924 (by intro v hv; simp at hv; try (rcases hv with rfl | rfl | rfl | rfl | rfl <;> rfl); try (rcases hv with rfl | rfl | rfl | rfl <;> rfl); try (rcases hv with rfl | rfl | rfl <;> rfl); try (rcases hv with rfl | rfl <;> rfl); try (subst hv; rfl)) is_X0 ?_
  refine ctX5_rust (xs (6 * n + 1)) ⟨(v, N1), e1, ?_⟩
  show Lv (wX, zX) (wY, zY) b Ln xs c0 s0 927 [some (.ref b), some (.ref (gp (wX, zX) 0)), some (.ref (gp (wY, zY) 0)), some (.int (nI (6 * n)))] [.int v] N1 M2
  refine l_aload_n dL_law_927 rfl ?_
  refine l_aload_n dL_law_928 rfl ?_
  refine l_iload_n dL_law_929 rfl ?_
  refine l_iconst (1 : Int32) dL_law_930 (by decide) ?_
  refine l_iadd dL_law_931 ?_
  refine l_sld (q := 6 * n + 1) hx1 (hi 1 (by decide)) (hj 1 (by decide)) dL_law_932 ?_
  refine l_callY (S := [.int v]) (f2 := 2) (l2 := 43) (ν := mtX6_rust) (as := [.int (xs (6 * n + 1))]) cv_RL_134 kc_7 ⟨Nat.le_of_ble_eq_true rfl, Nat.le_of_ble_eq_true rfl⟩ rfl rfl (Nat.le_of_ble_eq_true rfl) dL_law_933 (by intro v hv; simp at hv; try (rcases hv with rfl | rfl | rfl | rfl | rfl <;> rfl); try (rcases hv with rfl | rfl | rfl | rfl <;> rfl); try (rcases hv with rfl | rfl | rfl <;> rfl); try (rcases hv with rfl | rfl <;> rfl); try (subst hv; rfl)) is_Y0 ?_
  refine ctX6_rust (xs (6 * n + 1)) ⟨(v, N2), e2, ?_⟩
  show Lv (wX, zX) (wY, zY) b Ln xs c0 s0 936 [some (.ref b), some (.ref (gp (wX, zX) 0)), some (.ref (gp (wY, zY) 0)), some (.int (nI (6 * n)))] [.int v, .int v] N1 N2
  refine l_icmp_eq 1412 dL_law_936 (by decide) (fun _ => ih) (fun z => absurd rfl z)
set_option maxRecDepth 20000 in
theorem lawc_29 {zX zY : Zt} {b Ln c0 s0 n : Nat} {xs : Nat → Int32} {M1 M2 : Me} (R : Nat → Me → Me → Prop) (q : sim29 R) (hn : n < 512) (hr : R n M1 M2) (hL : 6 * n + 6 ≤ Ln) (hL2 : Ln ≤ 3072) (ih : ∀ N1 N2, R (n + 1) N1 N2 → Lv (wX, zX) (wY, zY) b Ln xs c0 s0 1412 [some (.ref b), some (.ref (gp (wX, zX) 0)), some (.ref (gp (wY, zY) 0)), some (.int (nI (6 * n)))] [] N1 N2) : Lv (wX, zX) (wY, zY) b Ln xs c0 s0 941 [some (.ref b), some (.ref (gp (wX, zX) 0)), some (.ref (gp (wY, zY) 0)), some (.int (nI (6 * n)))] [] M1 M2 := by
  obtain ⟨v, N1, N2, e1, e2, hr2⟩ := q n M1 M2 (xs (6 * n + 1)) hn hr
  have ih := ih N1 N2 hr2
  have hi : ∀ j, j < 6 → vp_in (nI (6 * n + j)) Ln := fun j hj => vp_in_nI (by omega) (by omega)
  have hj : ∀ j, j < 6 → (nI (6 * n + j)).toNatClampNeg = 6 * n + j := fun j hj => nI_clamp (by omega)
  have hx1 : nI (6 * n) + (1 : Int32) = nI (6 * n + 1) := nI_add (6 * n) 1
  refine l_aload_n dL_law_941 rfl ?_
  refine l_aload_n dL_law_942 rfl ?_
  refine l_iload_n dL_law_943 rfl ?_
  refine l_iconst (1 : Int32) dL_law_944 (by decide) ?_
  refine l_iadd dL_law_945 ?_
  refine l_sld (q := 6 * n + 1) hx1 (hi 1 (by decide)) (hj 1 (by decide)) dL_law_946 ?_
  refine l_callX (S := []) (f2 := 0) (l2 := 0) (ν := mtX5_seed) (as := [.int (xs (6 * n + 1))]) cv_RL_135 kc_1 ⟨Nat.le_of_ble_eq_true rfl, Nat.le_of_ble_eq_true rfl⟩ rfl rfl (Nat.le_of_ble_eq_true rfl) dL_law_947 (by intro v hv; simp at hv; try (rcases hv with rfl | rfl | rfl | rfl | rfl <;> rfl); try (rcases hv with rfl | rfl | rfl | rfl <;> rfl); try (rcases hv with rfl | rfl | rfl <;> rfl); try (rcases hv with rfl | rfl <;> rfl); try (subst hv; rfl)) is_X0 ?_
  refine ctX5_seed (xs (6 * n + 1)) ⟨(v, N1), e1, ?_⟩
  show Lv (wX, zX) (wY, zY) b Ln xs c0 s0 950 [some (.ref b), some (.ref (gp (wX, zX) 0)), some (.ref (gp (wY, zY) 0)), some (.int (nI (6 * n)))] [.int v] N1 M2
  refine l_aload_n dL_law_950 rfl ?_
  refine l_aload_n dL_law_951 rfl ?_
  refine l_iload_n dL_law_952 rfl ?_
  refine l_iconst (1 : Int32) dL_law_953 (by decide) ?_
  refine l_iadd dL_law_954 ?_
  refine l_sld (q := 6 * n + 1) hx1 (hi 1 (by decide)) (hj 1 (by decide)) dL_law_955 ?_
  refine l_callY (S := [.int v]) (f2 := 0) (l2 := 0) (ν := mtX6_seed) (as := [.int (xs (6 * n + 1))]) cv_RL_138 kc_7 ⟨Nat.le_of_ble_eq_true rfl, Nat.le_of_ble_eq_true rfl⟩ rfl rfl (Nat.le_of_ble_eq_true rfl) dL_law_956 (by intro v hv; simp at hv; try (rcases hv with rfl | rfl | rfl | rfl | rfl <;> rfl); try (rcases hv with rfl | rfl | rfl | rfl <;> rfl); try (rcases hv with rfl | rfl | rfl <;> rfl); try (rcases hv with rfl | rfl <;> rfl); try (subst hv; rfl)) is_Y0 ?_
  refine ctX6_seed (xs (6 * n + 1)) ⟨(v, N2), e2, ?_⟩
  show Lv (wX, zX) (wY, zY) b Ln xs c0 s0 959 [some (.ref b), some (.ref (gp (wX, zX) 0)), some (.ref (gp (wY, zY) 0)), some (.int (nI (6 * n)))] [.int v, .int v] N1 N2
  refine l_icmp_eq 1412 dL_law_959 (by decide) (fun _ => ih) (fun z => absurd rfl z)
set_option maxRecDepth 20000 in
theorem lawc_30 {zX zY : Zt} {b Ln c0 s0 n : Nat} {xs : Nat → Int32} {M1 M2 : Me} (R : Nat → Me → Me → Prop) (q : sim30 R) (hn : n < 512) (hr : R n M1 M2) (hL : 6 * n + 6 ≤ Ln) (hL2 : Ln ≤ 3072) (ih : ∀ N1 N2, R (n + 1) N1 N2 → Lv (wX, zX) (wY, zY) b Ln xs c0 s0 1412 [some (.ref b), some (.ref (gp (wX, zX) 0)), some (.ref (gp (wY, zY) 0)), some (.int (nI (6 * n)))] [] N1 N2) : Lv (wX, zX) (wY, zY) b Ln xs c0 s0 964 [some (.ref b), some (.ref (gp (wX, zX) 0)), some (.ref (gp (wY, zY) 0)), some (.int (nI (6 * n)))] [] M1 M2 := by
  obtain ⟨v, N1, N2, e1, e2, hr2⟩ := q n M1 M2 (xs (6 * n + 1)) (xs (6 * n + 2)) hn hr
  have ih := ih N1 N2 hr2
  have hi : ∀ j, j < 6 → vp_in (nI (6 * n + j)) Ln := fun j hj => vp_in_nI (by omega) (by omega)
  have hj : ∀ j, j < 6 → (nI (6 * n + j)).toNatClampNeg = 6 * n + j := fun j hj => nI_clamp (by omega)
  have hx1 : nI (6 * n) + (1 : Int32) = nI (6 * n + 1) := nI_add (6 * n) 1
  have hx2 : nI (6 * n) + (2 : Int32) = nI (6 * n + 2) := nI_add (6 * n) 2
  refine l_aload_n dL_law_964 rfl ?_
  refine l_aload_n dL_law_965 rfl ?_
  refine l_iload_n dL_law_966 rfl ?_
  refine l_iconst (1 : Int32) dL_law_967 (by decide) ?_
  refine l_iadd dL_law_968 ?_
  refine l_sld (q := 6 * n + 1) hx1 (hi 1 (by decide)) (hj 1 (by decide)) dL_law_969 ?_
  refine l_aload_n dL_law_970 rfl ?_
  refine l_iload_n dL_law_971 rfl ?_
  refine l_iconst (2 : Int32) dL_law_972 (by decide) ?_
  refine l_iadd dL_law_973 ?_
  refine l_sld (q := 6 * n + 2) hx2 (hi 2 (by decide)) (hj 2 (by decide)) dL_law_974 ?_
  refine l_callX (S := []) (f2 := 4) (l2 := 88) (ν := mtX5_barrel) (as := [.int (xs (6 * n + 1)), .int (xs (6 * n + 2))]) cv_RL_139 kc_1 ⟨Nat.le_of_ble_eq_true rfl, Nat.le_of_ble_eq_true rfl⟩ rfl rfl (Nat.le_of_ble_eq_true rfl) dL_law_975 (by intro v hv; simp at hv; try (rcases hv with rfl | rfl | rfl | rfl | rfl <;> rfl); try (rcases hv with rfl | rfl | rfl | rfl <;> rfl); try (rcases hv with rfl | rfl | rfl <;> rfl); try (rcases hv with rfl | rfl <;> rfl); try (subst hv; rfl)) is_X0 ?_
  refine ctX5_barrel (xs (6 * n + 1)) (xs (6 * n + 2)) ⟨(v, N1), e1, ?_⟩
  show Lv (wX, zX) (wY, zY) b Ln xs c0 s0 978 [some (.ref b), some (.ref (gp (wX, zX) 0)), some (.ref (gp (wY, zY) 0)), some (.int (nI (6 * n)))] [.int v] N1 M2
  refine l_aload_n dL_law_978 rfl ?_
  refine l_aload_n dL_law_979 rfl ?_
  refine l_iload_n dL_law_980 rfl ?_
  refine l_iconst (1 : Int32) dL_law_981 (by decide) ?_
  refine l_iadd dL_law_982 ?_
  refine l_sld (q := 6 * n + 1) hx1 (hi 1 (by decide)) (hj 1 (by decide)) dL_law_983 ?_
  refine l_aload_n dL_law_984 rfl ?_
  refine l_iload_n dL_law_985 rfl ?_
  refine l_iconst (2 : Int32) dL_law_986 (by decide) ?_
  refine l_iadd dL_law_987 ?_
  refine l_sld (q := 6 * n + 2) hx2 (hi 2 (by decide)) (hj 2 (by decide)) dL_law_988 ?_
  refine l_callY (S := [.int v]) (f2 := 5) (l2 := 111) (ν := mtX6_barrel) (as := [.int (xs (6 * n + 1)), .int (xs (6 * n + 2))]) cv_RL_142 kc_7 ⟨Nat.le_of_ble_eq_true rfl, Nat.le_of_ble_eq_true rfl⟩ rfl rfl (Nat.le_of_ble_eq_true rfl) dL_law_989 (by intro v hv; simp at hv; try (rcases hv with rfl | rfl | rfl | rfl | rfl <;> rfl); try (rcases hv with rfl | rfl | rfl | rfl <;> rfl); try (rcases hv with rfl | rfl | rfl <;> rfl); try (rcases hv with rfl | rfl <;> rfl); try (subst hv; rfl)) is_Y0 ?_
  refine ctX6_barrel (xs (6 * n + 1)) (xs (6 * n + 2)) ⟨(v, N2), e2, ?_⟩
  show Lv (wX, zX) (wY, zY) b Ln xs c0 s0 992 [some (.ref b), some (.ref (gp (wX, zX) 0)), some (.ref (gp (wY, zY) 0)), some (.int (nI (6 * n)))] [.int v, .int v] N1 N2
  refine l_icmp_eq 1412 dL_law_992 (by decide) (fun _ => ih) (fun z => absurd rfl z)
set_option maxRecDepth 20000 in
theorem lawc_31 {zX zY : Zt} {b Ln c0 s0 n : Nat} {xs : Nat → Int32} {M1 M2 : Me} (R : Nat → Me → Me → Prop) (q : sim31 R) (hn : n < 512) (hr : R n M1 M2) (hL : 6 * n + 6 ≤ Ln) (hL2 : Ln ≤ 3072) (ih : ∀ N1 N2, R (n + 1) N1 N2 → Lv (wX, zX) (wY, zY) b Ln xs c0 s0 1412 [some (.ref b), some (.ref (gp (wX, zX) 0)), some (.ref (gp (wY, zY) 0)), some (.int (nI (6 * n)))] [] N1 N2) : Lv (wX, zX) (wY, zY) b Ln xs c0 s0 997 [some (.ref b), some (.ref (gp (wX, zX) 0)), some (.ref (gp (wY, zY) 0)), some (.int (nI (6 * n)))] [] M1 M2 := by
  obtain ⟨v, N1, N2, e1, e2, hr2⟩ := q n M1 M2 (xs (6 * n + 1)) (xs (6 * n + 2)) hn hr
  have ih := ih N1 N2 hr2
  have hi : ∀ j, j < 6 → vp_in (nI (6 * n + j)) Ln := fun j hj => vp_in_nI (by omega) (by omega)
  have hj : ∀ j, j < 6 → (nI (6 * n + j)).toNatClampNeg = 6 * n + j := fun j hj => nI_clamp (by omega)
  have hx1 : nI (6 * n) + (1 : Int32) = nI (6 * n + 1) := nI_add (6 * n) 1
  have hx2 : nI (6 * n) + (2 : Int32) = nI (6 * n + 2) := nI_add (6 * n) 2
  refine l_aload_n dL_law_997 rfl ?_
  refine l_aload_n dL_law_998 rfl ?_
  refine l_iload_n dL_law_999 rfl ?_
  refine l_iconst (1 : Int32) dL_law_1000 (by decide) ?_
  refine l_iadd dL_law_1001 ?_
  refine l_sld (q := 6 * n + 1) hx1 (hi 1 (by decide)) (hj 1 (by decide)) dL_law_1002 ?_
  refine l_aload_n dL_law_1003 rfl ?_
  refine l_iload_n dL_law_1004 rfl ?_
  refine l_iconst (2 : Int32) dL_law_1005 (by decide) ?_
  refine l_iadd dL_law_1006 ?_
  refine l_sld (q := 6 * n + 2) hx2 (hi 2 (by decide)) (hj 2 (by decide)) dL_law_1007 ?_
  refine l_callX (S := []) (f2 := 4) (l2 := 88) (ν := mtX5_judge) (as := [.int (xs (6 * n + 1)), .int (xs (6 * n + 2))]) cv_RL_143 kc_1 ⟨Nat.le_of_ble_eq_true rfl, Nat.le_of_ble_eq_true rfl⟩ rfl rfl (Nat.le_of_ble_eq_true rfl) dL_law_1008 (by intro v hv; simp at hv; try (rcases hv with rfl | rfl | rfl | rfl | rfl <;> rfl); try (rcases hv with rfl | rfl | rfl | rfl <;> rfl); try (rcases hv with rfl | rfl | rfl <;> rfl); try (rcases hv with rfl | rfl <;> rfl); try (subst hv; rfl)) is_X0 ?_
  refine ctX5_judge (xs (6 * n + 1)) (xs (6 * n + 2)) ⟨(v, N1), e1, ?_⟩
  show Lv (wX, zX) (wY, zY) b Ln xs c0 s0 1011 [some (.ref b), some (.ref (gp (wX, zX) 0)), some (.ref (gp (wY, zY) 0)), some (.int (nI (6 * n)))] [.int v] N1 M2
  refine l_aload_n dL_law_1011 rfl ?_
  refine l_aload_n dL_law_1012 rfl ?_
  refine l_iload_n dL_law_1013 rfl ?_
  refine l_iconst (1 : Int32) dL_law_1014 (by decide) ?_
  refine l_iadd dL_law_1015 ?_
  refine l_sld (q := 6 * n + 1) hx1 (hi 1 (by decide)) (hj 1 (by decide)) dL_law_1016 ?_
  refine l_aload_n dL_law_1017 rfl ?_
  refine l_iload_n dL_law_1018 rfl ?_
  refine l_iconst (2 : Int32) dL_law_1019 (by decide) ?_
  refine l_iadd dL_law_1020 ?_
  refine l_sld (q := 6 * n + 2) hx2 (hi 2 (by decide)) (hj 2 (by decide)) dL_law_1021 ?_
  refine l_callY (S := [.int v]) (f2 := 5) (l2 := 111) (ν := mtX6_judge) (as := [.int (xs (6 * n + 1)), .int (xs (6 * n + 2))]) cv_RL_146 kc_7 ⟨Nat.le_of_ble_eq_true rfl, Nat.le_of_ble_eq_true rfl⟩ rfl rfl (Nat.le_of_ble_eq_true rfl) dL_law_1022 (by intro v hv; simp at hv; try (rcases hv with rfl | rfl | rfl | rfl | rfl <;> rfl); try (rcases hv with rfl | rfl | rfl | rfl <;> rfl); try (rcases hv with rfl | rfl | rfl <;> rfl); try (rcases hv with rfl | rfl <;> rfl); try (subst hv; rfl)) is_Y0 ?_
  refine ctX6_judge (xs (6 * n + 1)) (xs (6 * n + 2)) ⟨(v, N2), e2, ?_⟩
  show Lv (wX, zX) (wY, zY) b Ln xs c0 s0 1025 [some (.ref b), some (.ref (gp (wX, zX) 0)), some (.ref (gp (wY, zY) 0)), some (.int (nI (6 * n)))] [.int v, .int v] N1 N2
  refine l_icmp_eq 1412 dL_law_1025 (by decide) (fun _ => ih) (fun z => absurd rfl z)
set_option maxRecDepth 20000 in
theorem lawc_32 {zX zY : Zt} {b Ln c0 s0 n : Nat} {xs : Nat → Int32} {M1 M2 : Me} (R : Nat → Me → Me → Prop) (q : sim32 R) (hn : n < 512) (hr : R n M1 M2) (hL : 6 * n + 6 ≤ Ln) (hL2 : Ln ≤ 3072) (ih : ∀ N1 N2, R (n + 1) N1 N2 → Lv (wX, zX) (wY, zY) b Ln xs c0 s0 1412 [some (.ref b), some (.ref (gp (wX, zX) 0)), some (.ref (gp (wY, zY) 0)), some (.int (nI (6 * n)))] [] N1 N2) : Lv (wX, zX) (wY, zY) b Ln xs c0 s0 1030 [some (.ref b), some (.ref (gp (wX, zX) 0)), some (.ref (gp (wY, zY) 0)), some (.int (nI (6 * n)))] [] M1 M2 := by
  obtain ⟨v, N1, N2, e1, e2, hr2⟩ := q n M1 M2 (xs (6 * n + 1)) (xs (6 * n + 2)) hn hr
  have ih := ih N1 N2 hr2
  have hi : ∀ j, j < 6 → vp_in (nI (6 * n + j)) Ln := fun j hj => vp_in_nI (by omega) (by omega)
  have hj : ∀ j, j < 6 → (nI (6 * n + j)).toNatClampNeg = 6 * n + j := fun j hj => nI_clamp (by omega)
  have hx1 : nI (6 * n) + (1 : Int32) = nI (6 * n + 1) := nI_add (6 * n) 1
  have hx2 : nI (6 * n) + (2 : Int32) = nI (6 * n + 2) := nI_add (6 * n) 2
  refine l_aload_n dL_law_1030 rfl ?_
  refine l_aload_n dL_law_1031 rfl ?_
  refine l_iload_n dL_law_1032 rfl ?_
  refine l_iconst (1 : Int32) dL_law_1033 (by decide) ?_
  refine l_iadd dL_law_1034 ?_
  refine l_sld (q := 6 * n + 1) hx1 (hi 1 (by decide)) (hj 1 (by decide)) dL_law_1035 ?_
  refine l_aload_n dL_law_1036 rfl ?_
  refine l_iload_n dL_law_1037 rfl ?_
  refine l_iconst (2 : Int32) dL_law_1038 (by decide) ?_
  refine l_iadd dL_law_1039 ?_
  refine l_sld (q := 6 * n + 2) hx2 (hi 2 (by decide)) (hj 2 (by decide)) dL_law_1040 ?_
  refine l_callX (S := []) (f2 := 1) (l2 := 22) (ν := mtX5_feed) (as := [.int (xs (6 * n + 1)), .int (xs (6 * n + 2))]) cv_RL_147 kc_1 ⟨Nat.le_of_ble_eq_true rfl, Nat.le_of_ble_eq_true rfl⟩ rfl rfl (Nat.le_of_ble_eq_true rfl) dL_law_1041 (by intro v hv; simp at hv; try (rcases hv with rfl | rfl | rfl | rfl | rfl <;> rfl); try (rcases hv with rfl | rfl | rfl | rfl <;> rfl); try (rcases hv with rfl | rfl | rfl <;> rfl); try (rcases hv with rfl | rfl <;> rfl); try (subst hv; rfl)) is_X0 ?_
  refine ctX5_feed (xs (6 * n + 1)) (xs (6 * n + 2)) ⟨(v, N1), e1, ?_⟩
  show Lv (wX, zX) (wY, zY) b Ln xs c0 s0 1044 [some (.ref b), some (.ref (gp (wX, zX) 0)), some (.ref (gp (wY, zY) 0)), some (.int (nI (6 * n)))] [.int v] N1 M2
  refine l_aload_n dL_law_1044 rfl ?_
  refine l_aload_n dL_law_1045 rfl ?_
  refine l_iload_n dL_law_1046 rfl ?_
  refine l_iconst (1 : Int32) dL_law_1047 (by decide) ?_
  refine l_iadd dL_law_1048 ?_
  refine l_sld (q := 6 * n + 1) hx1 (hi 1 (by decide)) (hj 1 (by decide)) dL_law_1049 ?_
  refine l_aload_n dL_law_1050 rfl ?_
  refine l_iload_n dL_law_1051 rfl ?_
  refine l_iconst (2 : Int32) dL_law_1052 (by decide) ?_
  refine l_iadd dL_law_1053 ?_
  refine l_sld (q := 6 * n + 2) hx2 (hi 2 (by decide)) (hj 2 (by decide)) dL_law_1054 ?_
  refine l_callY (S := [.int v]) (f2 := 1) (l2 := 25) (ν := mtX6_feed) (as := [.int (xs (6 * n + 1)), .int (xs (6 * n + 2))]) cv_RL_150 kc_7 ⟨Nat.le_of_ble_eq_true rfl, Nat.le_of_ble_eq_true rfl⟩ rfl rfl (Nat.le_of_ble_eq_true rfl) dL_law_1055 (by intro v hv; simp at hv; try (rcases hv with rfl | rfl | rfl | rfl | rfl <;> rfl); try (rcases hv with rfl | rfl | rfl | rfl <;> rfl); try (rcases hv with rfl | rfl | rfl <;> rfl); try (rcases hv with rfl | rfl <;> rfl); try (subst hv; rfl)) is_Y0 ?_
  refine ctX6_feed (xs (6 * n + 1)) (xs (6 * n + 2)) ⟨(v, N2), e2, ?_⟩
  show Lv (wX, zX) (wY, zY) b Ln xs c0 s0 1058 [some (.ref b), some (.ref (gp (wX, zX) 0)), some (.ref (gp (wY, zY) 0)), some (.int (nI (6 * n)))] [.int v, .int v] N1 N2
  refine l_icmp_eq 1412 dL_law_1058 (by decide) (fun _ => ih) (fun z => absurd rfl z)
set_option maxRecDepth 20000 in
theorem lawc_33 {zX zY : Zt} {b Ln c0 s0 n : Nat} {xs : Nat → Int32} {M1 M2 : Me} (R : Nat → Me → Me → Prop) (q : sim33 R) (hn : n < 512) (hr : R n M1 M2) (hL : 6 * n + 6 ≤ Ln) (hL2 : Ln ≤ 3072) (ih : ∀ N1 N2, R (n + 1) N1 N2 → Lv (wX, zX) (wY, zY) b Ln xs c0 s0 1412 [some (.ref b), some (.ref (gp (wX, zX) 0)), some (.ref (gp (wY, zY) 0)), some (.int (nI (6 * n)))] [] N1 N2) : Lv (wX, zX) (wY, zY) b Ln xs c0 s0 1063 [some (.ref b), some (.ref (gp (wX, zX) 0)), some (.ref (gp (wY, zY) 0)), some (.int (nI (6 * n)))] [] M1 M2 := by
  obtain ⟨v, N1, N2, e1, e2, hr2⟩ := q n M1 M2 hn hr
  have ih := ih N1 N2 hr2
  have hi : ∀ j, j < 6 → vp_in (nI (6 * n + j)) Ln := fun j hj => vp_in_nI (by omega) (by omega)
  have hj : ∀ j, j < 6 → (nI (6 * n + j)).toNatClampNeg = 6 * n + j := fun j hj => nI_clamp (by omega)
  refine l_aload_n dL_law_1063 rfl ?_
  refine l_callX (S := []) (f2 := 0) (l2 := 0) (ν := mtX5_wipe) (as := []) cv_RL_151 kc_1 ⟨Nat.le_of_ble_eq_true rfl, Nat.le_of_ble_eq_true rfl⟩ rfl rfl (Nat.le_of_ble_eq_true rfl) dL_law_1064 (by intro v hv; simp at hv; try (rcases hv with rfl | rfl | rfl | rfl | rfl <;> rfl); try (rcases hv with rfl | rfl | rfl | rfl <;> rfl); try (rcases hv with rfl | rfl | rfl <;> rfl); try (rcases hv with rfl | rfl <;> rfl); try (subst hv; rfl)) is_X0 ?_
  refine ctX5_wipe ⟨(v, N1), e1, ?_⟩
  show Lv (wX, zX) (wY, zY) b Ln xs c0 s0 1067 [some (.ref b), some (.ref (gp (wX, zX) 0)), some (.ref (gp (wY, zY) 0)), some (.int (nI (6 * n)))] [.int v] N1 M2
  refine l_aload_n dL_law_1067 rfl ?_
  refine l_callY (S := [.int v]) (f2 := 0) (l2 := 0) (ν := mtX6_wipe) (as := []) cv_RL_154 kc_7 ⟨Nat.le_of_ble_eq_true rfl, Nat.le_of_ble_eq_true rfl⟩ rfl rfl (Nat.le_of_ble_eq_true rfl) dL_law_1068 (by intro v hv; simp at hv; try (rcases hv with rfl | rfl | rfl | rfl | rfl <;> rfl); try (rcases hv with rfl | rfl | rfl | rfl <;> rfl); try (rcases hv with rfl | rfl | rfl <;> rfl); try (rcases hv with rfl | rfl <;> rfl); try (subst hv; rfl)) is_Y0 ?_
  refine ctX6_wipe ⟨(v, N2), e2, ?_⟩
  show Lv (wX, zX) (wY, zY) b Ln xs c0 s0 1071 [some (.ref b), some (.ref (gp (wX, zX) 0)), some (.ref (gp (wY, zY) 0)), some (.int (nI (6 * n)))] [.int v, .int v] N1 N2
  refine l_icmp_eq 1412 dL_law_1071 (by decide) (fun _ => ih) (fun z => absurd rfl z)
set_option maxRecDepth 20000 in
theorem lawc_34 {zX zY : Zt} {b Ln c0 s0 n : Nat} {xs : Nat → Int32} {M1 M2 : Me} (R : Nat → Me → Me → Prop) (q : sim34 R) (hn : n < 512) (hr : R n M1 M2) (hL : 6 * n + 6 ≤ Ln) (hL2 : Ln ≤ 3072) (ih : ∀ N1 N2, R (n + 1) N1 N2 → Lv (wX, zX) (wY, zY) b Ln xs c0 s0 1412 [some (.ref b), some (.ref (gp (wX, zX) 0)), some (.ref (gp (wY, zY) 0)), some (.int (nI (6 * n)))] [] N1 N2) : Lv (wX, zX) (wY, zY) b Ln xs c0 s0 1076 [some (.ref b), some (.ref (gp (wX, zX) 0)), some (.ref (gp (wY, zY) 0)), some (.int (nI (6 * n)))] [] M1 M2 := by
  obtain ⟨v, N1, N2, e1, e2, hr2⟩ := q n M1 M2 hn hr
  have ih := ih N1 N2 hr2
  have hi : ∀ j, j < 6 → vp_in (nI (6 * n + j)) Ln := fun j hj => vp_in_nI (by omega) (by omega)
  have hj : ∀ j, j < 6 → (nI (6 * n + j)).toNatClampNeg = 6 * n + j := fun j hj => nI_clamp (by omega)
  refine l_aload_n dL_law_1076 rfl ?_
  refine l_callX (S := []) (f2 := 8) (l2 := 176) (ν := mtX5_text) (as := []) cv_RL_155 kc_1 ⟨Nat.le_of_ble_eq_true rfl, Nat.le_of_ble_eq_true rfl⟩ rfl rfl (Nat.le_of_ble_eq_true rfl) dL_law_1077 (by intro v hv; simp at hv; try (rcases hv with rfl | rfl | rfl | rfl | rfl <;> rfl); try (rcases hv with rfl | rfl | rfl | rfl <;> rfl); try (rcases hv with rfl | rfl | rfl <;> rfl); try (rcases hv with rfl | rfl <;> rfl); try (subst hv; rfl)) is_X0 ?_
  refine ctX5_text ⟨(v, N1), e1, ?_⟩
  show Lv (wX, zX) (wY, zY) b Ln xs c0 s0 1080 [some (.ref b), some (.ref (gp (wX, zX) 0)), some (.ref (gp (wY, zY) 0)), some (.int (nI (6 * n)))] [.int v] N1 M2
  refine l_aload_n dL_law_1080 rfl ?_
  refine l_callY (S := [.int v]) (f2 := 8) (l2 := 183) (ν := mtX6_text) (as := []) cv_RL_158 kc_7 ⟨Nat.le_of_ble_eq_true rfl, Nat.le_of_ble_eq_true rfl⟩ rfl rfl (Nat.le_of_ble_eq_true rfl) dL_law_1081 (by intro v hv; simp at hv; try (rcases hv with rfl | rfl | rfl | rfl | rfl <;> rfl); try (rcases hv with rfl | rfl | rfl | rfl <;> rfl); try (rcases hv with rfl | rfl | rfl <;> rfl); try (rcases hv with rfl | rfl <;> rfl); try (subst hv; rfl)) is_Y0 ?_
  refine ctX6_text ⟨(v, N2), e2, ?_⟩
  show Lv (wX, zX) (wY, zY) b Ln xs c0 s0 1084 [some (.ref b), some (.ref (gp (wX, zX) 0)), some (.ref (gp (wY, zY) 0)), some (.int (nI (6 * n)))] [.int v, .int v] N1 N2
  refine l_icmp_eq 1412 dL_law_1084 (by decide) (fun _ => ih) (fun z => absurd rfl z)
set_option maxRecDepth 20000 in
theorem lawc_35 {zX zY : Zt} {b Ln c0 s0 n : Nat} {xs : Nat → Int32} {M1 M2 : Me} (R : Nat → Me → Me → Prop) (q : sim35 R) (hn : n < 512) (hr : R n M1 M2) (hL : 6 * n + 6 ≤ Ln) (hL2 : Ln ≤ 3072) (ih : ∀ N1 N2, R (n + 1) N1 N2 → Lv (wX, zX) (wY, zY) b Ln xs c0 s0 1412 [some (.ref b), some (.ref (gp (wX, zX) 0)), some (.ref (gp (wY, zY) 0)), some (.int (nI (6 * n)))] [] N1 N2) : Lv (wX, zX) (wY, zY) b Ln xs c0 s0 1089 [some (.ref b), some (.ref (gp (wX, zX) 0)), some (.ref (gp (wY, zY) 0)), some (.int (nI (6 * n)))] [] M1 M2 := by
  obtain ⟨v, N1, N2, e1, e2, hr2⟩ := q n M1 M2 (xs (6 * n + 1)) (xs (6 * n + 2)) hn hr
  have ih := ih N1 N2 hr2
  have hi : ∀ j, j < 6 → vp_in (nI (6 * n + j)) Ln := fun j hj => vp_in_nI (by omega) (by omega)
  have hj : ∀ j, j < 6 → (nI (6 * n + j)).toNatClampNeg = 6 * n + j := fun j hj => nI_clamp (by omega)
  have hx1 : nI (6 * n) + (1 : Int32) = nI (6 * n + 1) := nI_add (6 * n) 1
  have hx2 : nI (6 * n) + (2 : Int32) = nI (6 * n + 2) := nI_add (6 * n) 2
  refine l_aload_n dL_law_1089 rfl ?_
  refine l_aload_n dL_law_1090 rfl ?_
  refine l_iload_n dL_law_1091 rfl ?_
  refine l_iconst (1 : Int32) dL_law_1092 (by decide) ?_
  refine l_iadd dL_law_1093 ?_
  refine l_sld (q := 6 * n + 1) hx1 (hi 1 (by decide)) (hj 1 (by decide)) dL_law_1094 ?_
  refine l_aload_n dL_law_1095 rfl ?_
  refine l_iload_n dL_law_1096 rfl ?_
  refine l_iconst (2 : Int32) dL_law_1097 (by decide) ?_
  refine l_iadd dL_law_1098 ?_
  refine l_sld (q := 6 * n + 2) hx2 (hi 2 (by decide)) (hj 2 (by decide)) dL_law_1099 ?_
  refine l_callX (S := []) (f2 := 1) (l2 := 22) (ν := mtX5_hold) (as := [.int (xs (6 * n + 1)), .int (xs (6 * n + 2))]) cv_RL_159 kc_1 ⟨Nat.le_of_ble_eq_true rfl, Nat.le_of_ble_eq_true rfl⟩ rfl rfl (Nat.le_of_ble_eq_true rfl) dL_law_1100 (by intro v hv; simp at hv; try (rcases hv with rfl | rfl | rfl | rfl | rfl <;> rfl); try (rcases hv with rfl | rfl | rfl | rfl <;> rfl); try (rcases hv with rfl | rfl | rfl <;> rfl); try (rcases hv with rfl | rfl <;> rfl); try (subst hv; rfl)) is_X0 ?_
  refine ctX5_hold (xs (6 * n + 1)) (xs (6 * n + 2)) ⟨(v, N1), e1, ?_⟩
  show Lv (wX, zX) (wY, zY) b Ln xs c0 s0 1103 [some (.ref b), some (.ref (gp (wX, zX) 0)), some (.ref (gp (wY, zY) 0)), some (.int (nI (6 * n)))] [.int v] N1 M2
  refine l_aload_n dL_law_1103 rfl ?_
  refine l_aload_n dL_law_1104 rfl ?_
  refine l_iload_n dL_law_1105 rfl ?_
  refine l_iconst (1 : Int32) dL_law_1106 (by decide) ?_
  refine l_iadd dL_law_1107 ?_
  refine l_sld (q := 6 * n + 1) hx1 (hi 1 (by decide)) (hj 1 (by decide)) dL_law_1108 ?_
  refine l_aload_n dL_law_1109 rfl ?_
  refine l_iload_n dL_law_1110 rfl ?_
  refine l_iconst (2 : Int32) dL_law_1111 (by decide) ?_
  refine l_iadd dL_law_1112 ?_
  refine l_sld (q := 6 * n + 2) hx2 (hi 2 (by decide)) (hj 2 (by decide)) dL_law_1113 ?_
  refine l_callY (S := [.int v]) (f2 := 2) (l2 := 46) (ν := mtX6_hold) (as := [.int (xs (6 * n + 1)), .int (xs (6 * n + 2))]) cv_RL_162 kc_7 ⟨Nat.le_of_ble_eq_true rfl, Nat.le_of_ble_eq_true rfl⟩ rfl rfl (Nat.le_of_ble_eq_true rfl) dL_law_1114 (by intro v hv; simp at hv; try (rcases hv with rfl | rfl | rfl | rfl | rfl <;> rfl); try (rcases hv with rfl | rfl | rfl | rfl <;> rfl); try (rcases hv with rfl | rfl | rfl <;> rfl); try (rcases hv with rfl | rfl <;> rfl); try (subst hv; rfl)) is_Y0 ?_
  refine ctX6_hold (xs (6 * n + 1)) (xs (6 * n + 2)) ⟨(v, N2), e2, ?_⟩
  show Lv (wX, zX) (wY, zY) b Ln xs c0 s0 1117 [some (.ref b), some (.ref (gp (wX, zX) 0)), some (.ref (gp (wY, zY) 0)), some (.int (nI (6 * n)))] [.int v, .int v] N1 N2
  refine l_icmp_eq 1412 dL_law_1117 (by decide) (fun _ => ih) (fun z => absurd rfl z)
set_option maxRecDepth 20000 in
theorem lawc_36 {zX zY : Zt} {b Ln c0 s0 n : Nat} {xs : Nat → Int32} {M1 M2 : Me} (R : Nat → Me → Me → Prop) (q : sim36 R) (hn : n < 512) (hr : R n M1 M2) (hL : 6 * n + 6 ≤ Ln) (hL2 : Ln ≤ 3072) (ih : ∀ N1 N2, R (n + 1) N1 N2 → Lv (wX, zX) (wY, zY) b Ln xs c0 s0 1412 [some (.ref b), some (.ref (gp (wX, zX) 0)), some (.ref (gp (wY, zY) 0)), some (.int (nI (6 * n)))] [] N1 N2) : Lv (wX, zX) (wY, zY) b Ln xs c0 s0 1122 [some (.ref b), some (.ref (gp (wX, zX) 0)), some (.ref (gp (wY, zY) 0)), some (.int (nI (6 * n)))] [] M1 M2 := by
  obtain ⟨v, N1, N2, e1, e2, hr2⟩ := q n M1 M2 (xs (6 * n + 1)) (xs (6 * n + 2)) hn hr
  have ih := ih N1 N2 hr2
  have hi : ∀ j, j < 6 → vp_in (nI (6 * n + j)) Ln := fun j hj => vp_in_nI (by omega) (by omega)
  have hj : ∀ j, j < 6 → (nI (6 * n + j)).toNatClampNeg = 6 * n + j := fun j hj => nI_clamp (by omega)
  have hx1 : nI (6 * n) + (1 : Int32) = nI (6 * n + 1) := nI_add (6 * n) 1
  have hx2 : nI (6 * n) + (2 : Int32) = nI (6 * n + 2) := nI_add (6 * n) 2
  refine l_aload_n dL_law_1122 rfl ?_
  refine l_aload_n dL_law_1123 rfl ?_
  refine l_iload_n dL_law_1124 rfl ?_
  refine l_iconst (1 : Int32) dL_law_1125 (by decide) ?_
  refine l_iadd dL_law_1126 ?_
  refine l_sld (q := 6 * n + 1) hx1 (hi 1 (by decide)) (hj 1 (by decide)) dL_law_1127 ?_
  refine l_aload_n dL_law_1128 rfl ?_
  refine l_iload_n dL_law_1129 rfl ?_
  refine l_iconst (2 : Int32) dL_law_1130 (by decide) ?_
  refine l_iadd dL_law_1131 ?_
  refine l_sld (q := 6 * n + 2) hx2 (hi 2 (by decide)) (hj 2 (by decide)) dL_law_1132 ?_
  refine l_callX (S := []) (f2 := 1) (l2 := 23) (ν := mtX5_as) (as := [.int (xs (6 * n + 1)), .int (xs (6 * n + 2))]) cv_RL_163 kc_1 ⟨Nat.le_of_ble_eq_true rfl, Nat.le_of_ble_eq_true rfl⟩ rfl rfl (Nat.le_of_ble_eq_true rfl) dL_law_1133 (by intro v hv; simp at hv; try (rcases hv with rfl | rfl | rfl | rfl | rfl <;> rfl); try (rcases hv with rfl | rfl | rfl | rfl <;> rfl); try (rcases hv with rfl | rfl | rfl <;> rfl); try (rcases hv with rfl | rfl <;> rfl); try (subst hv; rfl)) is_X0 ?_
  refine ctX5_as (xs (6 * n + 1)) (xs (6 * n + 2)) ⟨(v, N1), e1, ?_⟩
  show Lv (wX, zX) (wY, zY) b Ln xs c0 s0 1136 [some (.ref b), some (.ref (gp (wX, zX) 0)), some (.ref (gp (wY, zY) 0)), some (.int (nI (6 * n)))] [.int v] N1 M2
  refine l_aload_n dL_law_1136 rfl ?_
  refine l_aload_n dL_law_1137 rfl ?_
  refine l_iload_n dL_law_1138 rfl ?_
  refine l_iconst (1 : Int32) dL_law_1139 (by decide) ?_
  refine l_iadd dL_law_1140 ?_
  refine l_sld (q := 6 * n + 1) hx1 (hi 1 (by decide)) (hj 1 (by decide)) dL_law_1141 ?_
  refine l_aload_n dL_law_1142 rfl ?_
  refine l_iload_n dL_law_1143 rfl ?_
  refine l_iconst (2 : Int32) dL_law_1144 (by decide) ?_
  refine l_iadd dL_law_1145 ?_
  refine l_sld (q := 6 * n + 2) hx2 (hi 2 (by decide)) (hj 2 (by decide)) dL_law_1146 ?_
  refine l_callY (S := [.int v]) (f2 := 2) (l2 := 43) (ν := mtX6_as) (as := [.int (xs (6 * n + 1)), .int (xs (6 * n + 2))]) cv_RL_166 kc_7 ⟨Nat.le_of_ble_eq_true rfl, Nat.le_of_ble_eq_true rfl⟩ rfl rfl (Nat.le_of_ble_eq_true rfl) dL_law_1147 (by intro v hv; simp at hv; try (rcases hv with rfl | rfl | rfl | rfl | rfl <;> rfl); try (rcases hv with rfl | rfl | rfl | rfl <;> rfl); try (rcases hv with rfl | rfl | rfl <;> rfl); try (rcases hv with rfl | rfl <;> rfl); try (subst hv; rfl)) is_Y0 ?_
  refine ctX6_as (xs (6 * n + 1)) (xs (6 * n + 2)) ⟨(v, N2), e2, ?_⟩
  show Lv (wX, zX) (wY, zY) b Ln xs c0 s0 1150 [some (.ref b), some (.ref (gp (wX, zX) 0)), some (.ref (gp (wY, zY) 0)), some (.int (nI (6 * n)))] [.int v, .int v] N1 N2
  refine l_icmp_eq 1412 dL_law_1150 (by decide) (fun _ => ih) (fun z => absurd rfl z)
set_option maxRecDepth 20000 in
theorem lawc_37 {zX zY : Zt} {b Ln c0 s0 n : Nat} {xs : Nat → Int32} {M1 M2 : Me} (R : Nat → Me → Me → Prop) (q : sim37 R) (hn : n < 512) (hr : R n M1 M2) (hL : 6 * n + 6 ≤ Ln) (hL2 : Ln ≤ 3072) (ih : ∀ N1 N2, R (n + 1) N1 N2 → Lv (wX, zX) (wY, zY) b Ln xs c0 s0 1412 [some (.ref b), some (.ref (gp (wX, zX) 0)), some (.ref (gp (wY, zY) 0)), some (.int (nI (6 * n)))] [] N1 N2) : Lv (wX, zX) (wY, zY) b Ln xs c0 s0 1155 [some (.ref b), some (.ref (gp (wX, zX) 0)), some (.ref (gp (wY, zY) 0)), some (.int (nI (6 * n)))] [] M1 M2 := by
  obtain ⟨v, N1, N2, e1, e2, hr2⟩ := q n M1 M2 (xs (6 * n + 1)) (xs (6 * n + 2)) (xs (6 * n + 3)) hn hr
  have ih := ih N1 N2 hr2
  have hi : ∀ j, j < 6 → vp_in (nI (6 * n + j)) Ln := fun j hj => vp_in_nI (by omega) (by omega)
  have hj : ∀ j, j < 6 → (nI (6 * n + j)).toNatClampNeg = 6 * n + j := fun j hj => nI_clamp (by omega)
  have hx1 : nI (6 * n) + (1 : Int32) = nI (6 * n + 1) := nI_add (6 * n) 1
  have hx2 : nI (6 * n) + (2 : Int32) = nI (6 * n + 2) := nI_add (6 * n) 2
  have hx3 : nI (6 * n) + (3 : Int32) = nI (6 * n + 3) := nI_add (6 * n) 3
  refine l_aload_n dL_law_1155 rfl ?_
  refine l_aload_n dL_law_1156 rfl ?_
  refine l_iload_n dL_law_1157 rfl ?_
  refine l_iconst (1 : Int32) dL_law_1158 (by decide) ?_
  refine l_iadd dL_law_1159 ?_
  refine l_sld (q := 6 * n + 1) hx1 (hi 1 (by decide)) (hj 1 (by decide)) dL_law_1160 ?_
  refine l_aload_n dL_law_1161 rfl ?_
  refine l_iload_n dL_law_1162 rfl ?_
  refine l_iconst (2 : Int32) dL_law_1163 (by decide) ?_
  refine l_iadd dL_law_1164 ?_
  refine l_sld (q := 6 * n + 2) hx2 (hi 2 (by decide)) (hj 2 (by decide)) dL_law_1165 ?_
  refine l_aload_n dL_law_1166 rfl ?_
  refine l_iload_n dL_law_1167 rfl ?_
  refine l_iconst (3 : Int32) dL_law_1168 (by decide) ?_
  refine l_iadd dL_law_1169 ?_
  refine l_sld (q := 6 * n + 3) hx3 (hi 3 (by decide)) (hj 3 (by decide)) dL_law_1170 ?_
  refine l_callX (S := []) (f2 := 2) (l2 := 42) (ν := mtX5_sheet) (as := [.int (xs (6 * n + 1)), .int (xs (6 * n + 2)), .int (xs (6 * n + 3))]) cv_RL_167 kc_1 ⟨Nat.le_of_ble_eq_true rfl, Nat.le_of_ble_eq_true rfl⟩ rfl rfl (Nat.le_of_ble_eq_true rfl) dL_law_1171 (by intro v hv; simp at hv; try (rcases hv with rfl | rfl | rfl | rfl | rfl <;> rfl); try (rcases hv with rfl | rfl | rfl | rfl <;> rfl); try (rcases hv with rfl | rfl | rfl <;> rfl); try (rcases hv with rfl | rfl <;> rfl); try (subst hv; rfl)) is_X0 ?_
  refine ctX5_sheet (xs (6 * n + 1)) (xs (6 * n + 2)) (xs (6 * n + 3)) ⟨(v, N1), e1, ?_⟩
  show Lv (wX, zX) (wY, zY) b Ln xs c0 s0 1174 [some (.ref b), some (.ref (gp (wX, zX) 0)), some (.ref (gp (wY, zY) 0)), some (.int (nI (6 * n)))] [.int v] N1 M2
  refine l_aload_n dL_law_1174 rfl ?_
  refine l_aload_n dL_law_1175 rfl ?_
  refine l_iload_n dL_law_1176 rfl ?_
  refine l_iconst (1 : Int32) dL_law_1177 (by decide) ?_
  refine l_iadd dL_law_1178 ?_
  refine l_sld (q := 6 * n + 1) hx1 (hi 1 (by decide)) (hj 1 (by decide)) dL_law_1179 ?_
  refine l_aload_n dL_law_1180 rfl ?_
  refine l_iload_n dL_law_1181 rfl ?_
  refine l_iconst (2 : Int32) dL_law_1182 (by decide) ?_
  refine l_iadd dL_law_1183 ?_
  refine l_sld (q := 6 * n + 2) hx2 (hi 2 (by decide)) (hj 2 (by decide)) dL_law_1184 ?_
  refine l_aload_n dL_law_1185 rfl ?_
  refine l_iload_n dL_law_1186 rfl ?_
  refine l_iconst (3 : Int32) dL_law_1187 (by decide) ?_
  refine l_iadd dL_law_1188 ?_
  refine l_sld (q := 6 * n + 3) hx3 (hi 3 (by decide)) (hj 3 (by decide)) dL_law_1189 ?_
  refine l_callY (S := [.int v]) (f2 := 2) (l2 := 45) (ν := mtX6_sheet) (as := [.int (xs (6 * n + 1)), .int (xs (6 * n + 2)), .int (xs (6 * n + 3))]) cv_RL_170 kc_7 ⟨Nat.le_of_ble_eq_true rfl, Nat.le_of_ble_eq_true rfl⟩ rfl rfl (Nat.le_of_ble_eq_true rfl) dL_law_1190 (by intro v hv; simp at hv; try (rcases hv with rfl | rfl | rfl | rfl | rfl <;> rfl); try (rcases hv with rfl | rfl | rfl | rfl <;> rfl); try (rcases hv with rfl | rfl | rfl <;> rfl); try (rcases hv with rfl | rfl <;> rfl); try (subst hv; rfl)) is_Y0 ?_
  refine ctX6_sheet (xs (6 * n + 1)) (xs (6 * n + 2)) (xs (6 * n + 3)) ⟨(v, N2), e2, ?_⟩
  show Lv (wX, zX) (wY, zY) b Ln xs c0 s0 1193 [some (.ref b), some (.ref (gp (wX, zX) 0)), some (.ref (gp (wY, zY) 0)), some (.int (nI (6 * n)))] [.int v, .int v] N1 N2
  refine l_icmp_eq 1412 dL_law_1193 (by decide) (fun _ => ih) (fun z => absurd rfl z)
set_option maxRecDepth 20000 in
theorem lawc_38 {zX zY : Zt} {b Ln c0 s0 n : Nat} {xs : Nat → Int32} {M1 M2 : Me} (R : Nat → Me → Me → Prop) (q : sim38 R) (hn : n < 512) (hr : R n M1 M2) (hL : 6 * n + 6 ≤ Ln) (hL2 : Ln ≤ 3072) (ih : ∀ N1 N2, R (n + 1) N1 N2 → Lv (wX, zX) (wY, zY) b Ln xs c0 s0 1412 [some (.ref b), some (.ref (gp (wX, zX) 0)), some (.ref (gp (wY, zY) 0)), some (.int (nI (6 * n)))] [] N1 N2) : Lv (wX, zX) (wY, zY) b Ln xs c0 s0 1198 [some (.ref b), some (.ref (gp (wX, zX) 0)), some (.ref (gp (wY, zY) 0)), some (.int (nI (6 * n)))] [] M1 M2 := by
  obtain ⟨v, N1, N2, e1, e2, hr2⟩ := q n M1 M2 (xs (6 * n + 1)) (xs (6 * n + 2)) (xs (6 * n + 3)) hn hr
  have ih := ih N1 N2 hr2
  have hi : ∀ j, j < 6 → vp_in (nI (6 * n + j)) Ln := fun j hj => vp_in_nI (by omega) (by omega)
  have hj : ∀ j, j < 6 → (nI (6 * n + j)).toNatClampNeg = 6 * n + j := fun j hj => nI_clamp (by omega)
  have hx1 : nI (6 * n) + (1 : Int32) = nI (6 * n + 1) := nI_add (6 * n) 1
  have hx2 : nI (6 * n) + (2 : Int32) = nI (6 * n + 2) := nI_add (6 * n) 2
  have hx3 : nI (6 * n) + (3 : Int32) = nI (6 * n + 3) := nI_add (6 * n) 3
  refine l_aload_n dL_law_1198 rfl ?_
  refine l_aload_n dL_law_1199 rfl ?_
  refine l_iload_n dL_law_1200 rfl ?_
  refine l_iconst (1 : Int32) dL_law_1201 (by decide) ?_
  refine l_iadd dL_law_1202 ?_
  refine l_sld (q := 6 * n + 1) hx1 (hi 1 (by decide)) (hj 1 (by decide)) dL_law_1203 ?_
  refine l_aload_n dL_law_1204 rfl ?_
  refine l_iload_n dL_law_1205 rfl ?_
  refine l_iconst (2 : Int32) dL_law_1206 (by decide) ?_
  refine l_iadd dL_law_1207 ?_
  refine l_sld (q := 6 * n + 2) hx2 (hi 2 (by decide)) (hj 2 (by decide)) dL_law_1208 ?_
  refine l_aload_n dL_law_1209 rfl ?_
  refine l_iload_n dL_law_1210 rfl ?_
  refine l_iconst (3 : Int32) dL_law_1211 (by decide) ?_
  refine l_iadd dL_law_1212 ?_
  refine l_sld (q := 6 * n + 3) hx3 (hi 3 (by decide)) (hj 3 (by decide)) dL_law_1213 ?_
  refine l_callX (S := []) (f2 := 2) (l2 := 42) (ν := mtX5_write) (as := [.int (xs (6 * n + 1)), .int (xs (6 * n + 2)), .int (xs (6 * n + 3))]) cv_RL_171 kc_1 ⟨Nat.le_of_ble_eq_true rfl, Nat.le_of_ble_eq_true rfl⟩ rfl rfl (Nat.le_of_ble_eq_true rfl) dL_law_1214 (by intro v hv; simp at hv; try (rcases hv with rfl | rfl | rfl | rfl | rfl <;> rfl); try (rcases hv with rfl | rfl | rfl | rfl <;> rfl); try (rcases hv with rfl | rfl | rfl <;> rfl); try (rcases hv with rfl | rfl <;> rfl); try (subst hv; rfl)) is_X0 ?_
  refine ctX5_write (xs (6 * n + 1)) (xs (6 * n + 2)) (xs (6 * n + 3)) ⟨(v, N1), e1, ?_⟩
  show Lv (wX, zX) (wY, zY) b Ln xs c0 s0 1217 [some (.ref b), some (.ref (gp (wX, zX) 0)), some (.ref (gp (wY, zY) 0)), some (.int (nI (6 * n)))] [.int v] N1 M2
  refine l_aload_n dL_law_1217 rfl ?_
  refine l_aload_n dL_law_1218 rfl ?_
  refine l_iload_n dL_law_1219 rfl ?_
  refine l_iconst (1 : Int32) dL_law_1220 (by decide) ?_
  refine l_iadd dL_law_1221 ?_
  refine l_sld (q := 6 * n + 1) hx1 (hi 1 (by decide)) (hj 1 (by decide)) dL_law_1222 ?_
  refine l_aload_n dL_law_1223 rfl ?_
  refine l_iload_n dL_law_1224 rfl ?_
  refine l_iconst (2 : Int32) dL_law_1225 (by decide) ?_
  refine l_iadd dL_law_1226 ?_
  refine l_sld (q := 6 * n + 2) hx2 (hi 2 (by decide)) (hj 2 (by decide)) dL_law_1227 ?_
  refine l_aload_n dL_law_1228 rfl ?_
  refine l_iload_n dL_law_1229 rfl ?_
  refine l_iconst (3 : Int32) dL_law_1230 (by decide) ?_
  refine l_iadd dL_law_1231 ?_
  refine l_sld (q := 6 * n + 3) hx3 (hi 3 (by decide)) (hj 3 (by decide)) dL_law_1232 ?_
  refine l_callY (S := [.int v]) (f2 := 3) (l2 := 66) (ν := mtX6_write) (as := [.int (xs (6 * n + 1)), .int (xs (6 * n + 2)), .int (xs (6 * n + 3))]) cv_RL_174 kc_7 ⟨Nat.le_of_ble_eq_true rfl, Nat.le_of_ble_eq_true rfl⟩ rfl rfl (Nat.le_of_ble_eq_true rfl) dL_law_1233 (by intro v hv; simp at hv; try (rcases hv with rfl | rfl | rfl | rfl | rfl <;> rfl); try (rcases hv with rfl | rfl | rfl | rfl <;> rfl); try (rcases hv with rfl | rfl | rfl <;> rfl); try (rcases hv with rfl | rfl <;> rfl); try (subst hv; rfl)) is_Y0 ?_
  refine ctX6_write (xs (6 * n + 1)) (xs (6 * n + 2)) (xs (6 * n + 3)) ⟨(v, N2), e2, ?_⟩
  show Lv (wX, zX) (wY, zY) b Ln xs c0 s0 1236 [some (.ref b), some (.ref (gp (wX, zX) 0)), some (.ref (gp (wY, zY) 0)), some (.int (nI (6 * n)))] [.int v, .int v] N1 N2
  refine l_icmp_eq 1412 dL_law_1236 (by decide) (fun _ => ih) (fun z => absurd rfl z)
set_option maxRecDepth 20000 in
theorem lawc_39 {zX zY : Zt} {b Ln c0 s0 n : Nat} {xs : Nat → Int32} {M1 M2 : Me} (R : Nat → Me → Me → Prop) (q : sim39 R) (hn : n < 512) (hr : R n M1 M2) (hL : 6 * n + 6 ≤ Ln) (hL2 : Ln ≤ 3072) (ih : ∀ N1 N2, R (n + 1) N1 N2 → Lv (wX, zX) (wY, zY) b Ln xs c0 s0 1412 [some (.ref b), some (.ref (gp (wX, zX) 0)), some (.ref (gp (wY, zY) 0)), some (.int (nI (6 * n)))] [] N1 N2) : Lv (wX, zX) (wY, zY) b Ln xs c0 s0 1241 [some (.ref b), some (.ref (gp (wX, zX) 0)), some (.ref (gp (wY, zY) 0)), some (.int (nI (6 * n)))] [] M1 M2 := by
  obtain ⟨v, N1, N2, e1, e2, hr2⟩ := q n M1 M2 (xs (6 * n + 1)) (xs (6 * n + 2)) (xs (6 * n + 3)) (xs (6 * n + 4)) (xs (6 * n + 5)) hn hr
  have ih := ih N1 N2 hr2
  have hi : ∀ j, j < 6 → vp_in (nI (6 * n + j)) Ln := fun j hj => vp_in_nI (by omega) (by omega)
  have hj : ∀ j, j < 6 → (nI (6 * n + j)).toNatClampNeg = 6 * n + j := fun j hj => nI_clamp (by omega)
  have hx1 : nI (6 * n) + (1 : Int32) = nI (6 * n + 1) := nI_add (6 * n) 1
  have hx2 : nI (6 * n) + (2 : Int32) = nI (6 * n + 2) := nI_add (6 * n) 2
  have hx3 : nI (6 * n) + (3 : Int32) = nI (6 * n + 3) := nI_add (6 * n) 3
  have hx4 : nI (6 * n) + (4 : Int32) = nI (6 * n + 4) := nI_add (6 * n) 4
  have hx5 : nI (6 * n) + (5 : Int32) = nI (6 * n + 5) := nI_add (6 * n) 5
  refine l_aload_n dL_law_1241 rfl ?_
  refine l_aload_n dL_law_1242 rfl ?_
  refine l_iload_n dL_law_1243 rfl ?_
  refine l_iconst (1 : Int32) dL_law_1244 (by decide) ?_
  refine l_iadd dL_law_1245 ?_
  refine l_sld (q := 6 * n + 1) hx1 (hi 1 (by decide)) (hj 1 (by decide)) dL_law_1246 ?_
  refine l_aload_n dL_law_1247 rfl ?_
  refine l_iload_n dL_law_1248 rfl ?_
  refine l_iconst (2 : Int32) dL_law_1249 (by decide) ?_
  refine l_iadd dL_law_1250 ?_
  refine l_sld (q := 6 * n + 2) hx2 (hi 2 (by decide)) (hj 2 (by decide)) dL_law_1251 ?_
  refine l_aload_n dL_law_1252 rfl ?_
  refine l_iload_n dL_law_1253 rfl ?_
  refine l_iconst (3 : Int32) dL_law_1254 (by decide) ?_
  refine l_iadd dL_law_1255 ?_
  refine l_sld (q := 6 * n + 3) hx3 (hi 3 (by decide)) (hj 3 (by decide)) dL_law_1256 ?_
  refine l_aload_n dL_law_1257 rfl ?_
  refine l_iload_n dL_law_1258 rfl ?_
  refine l_iconst (4 : Int32) dL_law_1259 (by decide) ?_
  refine l_iadd dL_law_1260 ?_
  refine l_sld (q := 6 * n + 4) hx4 (hi 4 (by decide)) (hj 4 (by decide)) dL_law_1261 ?_
  refine l_aload_n dL_law_1262 rfl ?_
  refine l_iload_n dL_law_1263 rfl ?_
  refine l_iconst (5 : Int32) dL_law_1264 (by decide) ?_
  refine l_iadd dL_law_1265 ?_
  refine l_sld (q := 6 * n + 5) hx5 (hi 5 (by decide)) (hj 5 (by decide)) dL_law_1266 ?_
  refine l_callX (S := []) (f2 := 2) (l2 := 42) (ν := mtX5_copy) (as := [.int (xs (6 * n + 1)), .int (xs (6 * n + 2)), .int (xs (6 * n + 3)), .int (xs (6 * n + 4)), .int (xs (6 * n + 5))]) cv_RL_175 kc_1 ⟨Nat.le_of_ble_eq_true rfl, Nat.le_of_ble_eq_true rfl⟩ rfl rfl (Nat.le_of_ble_eq_true rfl) dL_law_1267 (by intro v hv; simp at hv; try (rcases hv with rfl | rfl | rfl | rfl | rfl <;> rfl); try (rcases hv with rfl | rfl | rfl | rfl <;> rfl); try (rcases hv with rfl | rfl | rfl <;> rfl); try (rcases hv with rfl | rfl <;> rfl); try (subst hv; rfl)) is_X0 ?_
  refine ctX5_copy (xs (6 * n + 1)) (xs (6 * n + 2)) (xs (6 * n + 3)) (xs (6 * n + 4)) (xs (6 * n + 5)) ⟨(v, N1), e1, ?_⟩
  show Lv (wX, zX) (wY, zY) b Ln xs c0 s0 1270 [some (.ref b), some (.ref (gp (wX, zX) 0)), some (.ref (gp (wY, zY) 0)), some (.int (nI (6 * n)))] [.int v] N1 M2
  refine l_aload_n dL_law_1270 rfl ?_
  refine l_aload_n dL_law_1271 rfl ?_
  refine l_iload_n dL_law_1272 rfl ?_
  refine l_iconst (1 : Int32) dL_law_1273 (by decide) ?_
  refine l_iadd dL_law_1274 ?_
  refine l_sld (q := 6 * n + 1) hx1 (hi 1 (by decide)) (hj 1 (by decide)) dL_law_1275 ?_
  refine l_aload_n dL_law_1276 rfl ?_
  refine l_iload_n dL_law_1277 rfl ?_
  refine l_iconst (2 : Int32) dL_law_1278 (by decide) ?_
  refine l_iadd dL_law_1279 ?_
  refine l_sld (q := 6 * n + 2) hx2 (hi 2 (by decide)) (hj 2 (by decide)) dL_law_1280 ?_
  refine l_aload_n dL_law_1281 rfl ?_
  refine l_iload_n dL_law_1282 rfl ?_
  refine l_iconst (3 : Int32) dL_law_1283 (by decide) ?_
  refine l_iadd dL_law_1284 ?_
  refine l_sld (q := 6 * n + 3) hx3 (hi 3 (by decide)) (hj 3 (by decide)) dL_law_1285 ?_
  refine l_aload_n dL_law_1286 rfl ?_
  refine l_iload_n dL_law_1287 rfl ?_
  refine l_iconst (4 : Int32) dL_law_1288 (by decide) ?_
  refine l_iadd dL_law_1289 ?_
  refine l_sld (q := 6 * n + 4) hx4 (hi 4 (by decide)) (hj 4 (by decide)) dL_law_1290 ?_
  refine l_aload_n dL_law_1291 rfl ?_
  refine l_iload_n dL_law_1292 rfl ?_
  refine l_iconst (5 : Int32) dL_law_1293 (by decide) ?_
  refine l_iadd dL_law_1294 ?_
  refine l_sld (q := 6 * n + 5) hx5 (hi 5 (by decide)) (hj 5 (by decide)) dL_law_1295 ?_
  refine l_callY (S := [.int v]) (f2 := 2) (l2 := 45) (ν := mtX6_copy) (as := [.int (xs (6 * n + 1)), .int (xs (6 * n + 2)), .int (xs (6 * n + 3)), .int (xs (6 * n + 4)), .int (xs (6 * n + 5))]) cv_RL_179 kc_7 ⟨Nat.le_of_ble_eq_true rfl, Nat.le_of_ble_eq_true rfl⟩ rfl rfl (Nat.le_of_ble_eq_true rfl) dL_law_1296 (by intro v hv; simp at hv; try (rcases hv with rfl | rfl | rfl | rfl | rfl <;> rfl); try (rcases hv with rfl | rfl | rfl | rfl <;> rfl); try (rcases hv with rfl | rfl | rfl <;> rfl); try (rcases hv with rfl | rfl <;> rfl); try (subst hv; rfl)) is_Y0 ?_
  refine ctX6_copy (xs (6 * n + 1)) (xs (6 * n + 2)) (xs (6 * n + 3)) (xs (6 * n + 4)) (xs (6 * n + 5)) ⟨(v, N2), e2, ?_⟩
  show Lv (wX, zX) (wY, zY) b Ln xs c0 s0 1299 [some (.ref b), some (.ref (gp (wX, zX) 0)), some (.ref (gp (wY, zY) 0)), some (.int (nI (6 * n)))] [.int v, .int v] N1 N2
  refine l_icmp_eq 1412 dL_law_1299 (by decide) (fun _ => ih) (fun z => absurd rfl z)
set_option maxRecDepth 20000 in
theorem lawc_40 {zX zY : Zt} {b Ln c0 s0 n : Nat} {xs : Nat → Int32} {M1 M2 : Me} (R : Nat → Me → Me → Prop) (q : sim40 R) (hn : n < 512) (hr : R n M1 M2) (hL : 6 * n + 6 ≤ Ln) (hL2 : Ln ≤ 3072) (ih : ∀ N1 N2, R (n + 1) N1 N2 → Lv (wX, zX) (wY, zY) b Ln xs c0 s0 1412 [some (.ref b), some (.ref (gp (wX, zX) 0)), some (.ref (gp (wY, zY) 0)), some (.int (nI (6 * n)))] [] N1 N2) : Lv (wX, zX) (wY, zY) b Ln xs c0 s0 1304 [some (.ref b), some (.ref (gp (wX, zX) 0)), some (.ref (gp (wY, zY) 0)), some (.int (nI (6 * n)))] [] M1 M2 := by
  obtain ⟨v, N1, N2, e1, e2, hr2⟩ := q n M1 M2 (xs (6 * n + 1)) hn hr
  have ih := ih N1 N2 hr2
  have hi : ∀ j, j < 6 → vp_in (nI (6 * n + j)) Ln := fun j hj => vp_in_nI (by omega) (by omega)
  have hj : ∀ j, j < 6 → (nI (6 * n + j)).toNatClampNeg = 6 * n + j := fun j hj => nI_clamp (by omega)
  have hx1 : nI (6 * n) + (1 : Int32) = nI (6 * n + 1) := nI_add (6 * n) 1
  refine l_aload_n dL_law_1304 rfl ?_
  refine l_aload_n dL_law_1305 rfl ?_
  refine l_iload_n dL_law_1306 rfl ?_
  refine l_iconst (1 : Int32) dL_law_1307 (by decide) ?_
  refine l_iadd dL_law_1308 ?_
  refine l_sld (q := 6 * n + 1) hx1 (hi 1 (by decide)) (hj 1 (by decide)) dL_law_1309 ?_
  refine l_callX (S := []) (f2 := 2) (l2 := 42) (ν := mtX5_load) (as := [.int (xs (6 * n + 1))]) cv_RL_180 kc_1 ⟨Nat.le_of_ble_eq_true rfl, Nat.le_of_ble_eq_true rfl⟩ rfl rfl (Nat.le_of_ble_eq_true rfl) dL_law_1310 (by intro v hv; simp at hv; try (rcases hv with rfl | rfl | rfl | rfl | rfl <;> rfl); try (rcases hv with rfl | rfl | rfl | rfl <;> rfl); try (rcases hv with rfl | rfl | rfl <;> rfl); try (rcases hv with rfl | rfl <;> rfl); try (subst hv; rfl)) is_X0 ?_
  refine ctX5_load (xs (6 * n + 1)) ⟨(v, N1), e1, ?_⟩
  show Lv (wX, zX) (wY, zY) b Ln xs c0 s0 1313 [some (.ref b), some (.ref (gp (wX, zX) 0)), some (.ref (gp (wY, zY) 0)), some (.int (nI (6 * n)))] [.int v] N1 M2
  refine l_aload_n dL_law_1313 rfl ?_
  refine l_aload_n dL_law_1314 rfl ?_
  refine l_iload_n dL_law_1315 rfl ?_
  refine l_iconst (1 : Int32) dL_law_1316 (by decide) ?_
  refine l_iadd dL_law_1317 ?_
  refine l_sld (q := 6 * n + 1) hx1 (hi 1 (by decide)) (hj 1 (by decide)) dL_law_1318 ?_
  refine l_callY (S := [.int v]) (f2 := 3) (l2 := 66) (ν := mtX6_load) (as := [.int (xs (6 * n + 1))]) cv_RL_183 kc_7 ⟨Nat.le_of_ble_eq_true rfl, Nat.le_of_ble_eq_true rfl⟩ rfl rfl (Nat.le_of_ble_eq_true rfl) dL_law_1319 (by intro v hv; simp at hv; try (rcases hv with rfl | rfl | rfl | rfl | rfl <;> rfl); try (rcases hv with rfl | rfl | rfl | rfl <;> rfl); try (rcases hv with rfl | rfl | rfl <;> rfl); try (rcases hv with rfl | rfl <;> rfl); try (subst hv; rfl)) is_Y0 ?_
  refine ctX6_load (xs (6 * n + 1)) ⟨(v, N2), e2, ?_⟩
  show Lv (wX, zX) (wY, zY) b Ln xs c0 s0 1322 [some (.ref b), some (.ref (gp (wX, zX) 0)), some (.ref (gp (wY, zY) 0)), some (.int (nI (6 * n)))] [.int v, .int v] N1 N2
  refine l_icmp_eq 1412 dL_law_1322 (by decide) (fun _ => ih) (fun z => absurd rfl z)
set_option maxRecDepth 20000 in
theorem lawc_41 {zX zY : Zt} {b Ln c0 s0 n : Nat} {xs : Nat → Int32} {M1 M2 : Me} (R : Nat → Me → Me → Prop) (q : sim41 R) (hn : n < 512) (hr : R n M1 M2) (hL : 6 * n + 6 ≤ Ln) (hL2 : Ln ≤ 3072) (ih : ∀ N1 N2, R (n + 1) N1 N2 → Lv (wX, zX) (wY, zY) b Ln xs c0 s0 1412 [some (.ref b), some (.ref (gp (wX, zX) 0)), some (.ref (gp (wY, zY) 0)), some (.int (nI (6 * n)))] [] N1 N2) : Lv (wX, zX) (wY, zY) b Ln xs c0 s0 1327 [some (.ref b), some (.ref (gp (wX, zX) 0)), some (.ref (gp (wY, zY) 0)), some (.int (nI (6 * n)))] [] M1 M2 := by
  obtain ⟨v, N1, N2, e1, e2, hr2⟩ := q n M1 M2 hn hr
  have ih := ih N1 N2 hr2
  have hi : ∀ j, j < 6 → vp_in (nI (6 * n + j)) Ln := fun j hj => vp_in_nI (by omega) (by omega)
  have hj : ∀ j, j < 6 → (nI (6 * n + j)).toNatClampNeg = 6 * n + j := fun j hj => nI_clamp (by omega)
  refine l_aload_n dL_law_1327 rfl ?_
  refine l_callX (S := []) (f2 := 2) (l2 := 48) (ν := mtX5_image) (as := []) cv_RL_184 kc_1 ⟨Nat.le_of_ble_eq_true rfl, Nat.le_of_ble_eq_true rfl⟩ rfl rfl (Nat.le_of_ble_eq_true rfl) dL_law_1328 (by intro v hv; simp at hv; try (rcases hv with rfl | rfl | rfl | rfl | rfl <;> rfl); try (rcases hv with rfl | rfl | rfl | rfl <;> rfl); try (rcases hv with rfl | rfl | rfl <;> rfl); try (rcases hv with rfl | rfl <;> rfl); try (subst hv; rfl)) is_X0 ?_
  refine ctX5_image ⟨(v, N1), e1, ?_⟩
  show Lv (wX, zX) (wY, zY) b Ln xs c0 s0 1331 [some (.ref b), some (.ref (gp (wX, zX) 0)), some (.ref (gp (wY, zY) 0)), some (.int (nI (6 * n)))] [.int v] N1 M2
  refine l_aload_n dL_law_1331 rfl ?_
  refine l_callY (S := [.int v]) (f2 := 0) (l2 := 0) (ν := mtX6_image) (as := []) cv_RL_187 kc_7 ⟨Nat.le_of_ble_eq_true rfl, Nat.le_of_ble_eq_true rfl⟩ rfl rfl (Nat.le_of_ble_eq_true rfl) dL_law_1332 (by intro v hv; simp at hv; try (rcases hv with rfl | rfl | rfl | rfl | rfl <;> rfl); try (rcases hv with rfl | rfl | rfl | rfl <;> rfl); try (rcases hv with rfl | rfl | rfl <;> rfl); try (rcases hv with rfl | rfl <;> rfl); try (subst hv; rfl)) is_Y0 ?_
  refine ctX6_image ⟨(v, N2), e2, ?_⟩
  show Lv (wX, zX) (wY, zY) b Ln xs c0 s0 1335 [some (.ref b), some (.ref (gp (wX, zX) 0)), some (.ref (gp (wY, zY) 0)), some (.int (nI (6 * n)))] [.int v, .int v] N1 N2
  refine l_icmp_eq 1412 dL_law_1335 (by decide) (fun _ => ih) (fun z => absurd rfl z)
set_option maxRecDepth 20000 in
theorem lawc_42 {zX zY : Zt} {b Ln c0 s0 n : Nat} {xs : Nat → Int32} {M1 M2 : Me} (R : Nat → Me → Me → Prop) (q : sim42 R) (hn : n < 512) (hr : R n M1 M2) (hL : 6 * n + 6 ≤ Ln) (hL2 : Ln ≤ 3072) (ih : ∀ N1 N2, R (n + 1) N1 N2 → Lv (wX, zX) (wY, zY) b Ln xs c0 s0 1412 [some (.ref b), some (.ref (gp (wX, zX) 0)), some (.ref (gp (wY, zY) 0)), some (.int (nI (6 * n)))] [] N1 N2) : Lv (wX, zX) (wY, zY) b Ln xs c0 s0 1340 [some (.ref b), some (.ref (gp (wX, zX) 0)), some (.ref (gp (wY, zY) 0)), some (.int (nI (6 * n)))] [] M1 M2 := by
  obtain ⟨v, N1, N2, e1, e2, hr2⟩ := q n M1 M2 hn hr
  have ih := ih N1 N2 hr2
  have hi : ∀ j, j < 6 → vp_in (nI (6 * n + j)) Ln := fun j hj => vp_in_nI (by omega) (by omega)
  have hj : ∀ j, j < 6 → (nI (6 * n + j)).toNatClampNeg = 6 * n + j := fun j hj => nI_clamp (by omega)
  refine l_aload_n dL_law_1340 rfl ?_
  refine l_callX (S := []) (f2 := 2) (l2 := 48) (ν := mtX5_undo) (as := []) cv_RL_188 kc_1 ⟨Nat.le_of_ble_eq_true rfl, Nat.le_of_ble_eq_true rfl⟩ rfl rfl (Nat.le_of_ble_eq_true rfl) dL_law_1341 (by intro v hv; simp at hv; try (rcases hv with rfl | rfl | rfl | rfl | rfl <;> rfl); try (rcases hv with rfl | rfl | rfl | rfl <;> rfl); try (rcases hv with rfl | rfl | rfl <;> rfl); try (rcases hv with rfl | rfl <;> rfl); try (subst hv; rfl)) is_X0 ?_
  refine ctX5_undo ⟨(v, N1), e1, ?_⟩
  show Lv (wX, zX) (wY, zY) b Ln xs c0 s0 1344 [some (.ref b), some (.ref (gp (wX, zX) 0)), some (.ref (gp (wY, zY) 0)), some (.int (nI (6 * n)))] [.int v] N1 M2
  refine l_aload_n dL_law_1344 rfl ?_
  refine l_callY (S := [.int v]) (f2 := 1) (l2 := 21) (ν := mtX6_undo) (as := []) cv_RL_191 kc_7 ⟨Nat.le_of_ble_eq_true rfl, Nat.le_of_ble_eq_true rfl⟩ rfl rfl (Nat.le_of_ble_eq_true rfl) dL_law_1345 (by intro v hv; simp at hv; try (rcases hv with rfl | rfl | rfl | rfl | rfl <;> rfl); try (rcases hv with rfl | rfl | rfl | rfl <;> rfl); try (rcases hv with rfl | rfl | rfl <;> rfl); try (rcases hv with rfl | rfl <;> rfl); try (subst hv; rfl)) is_Y0 ?_
  refine ctX6_undo ⟨(v, N2), e2, ?_⟩
  show Lv (wX, zX) (wY, zY) b Ln xs c0 s0 1348 [some (.ref b), some (.ref (gp (wX, zX) 0)), some (.ref (gp (wY, zY) 0)), some (.int (nI (6 * n)))] [.int v, .int v] N1 N2
  refine l_icmp_eq 1412 dL_law_1348 (by decide) (fun _ => ih) (fun z => absurd rfl z)
set_option maxRecDepth 20000 in
theorem lawc_43 {zX zY : Zt} {b Ln c0 s0 n : Nat} {xs : Nat → Int32} {M1 M2 : Me} (R : Nat → Me → Me → Prop) (q : sim43 R) (hn : n < 512) (hr : R n M1 M2) (hL : 6 * n + 6 ≤ Ln) (hL2 : Ln ≤ 3072) (ih : ∀ N1 N2, R (n + 1) N1 N2 → Lv (wX, zX) (wY, zY) b Ln xs c0 s0 1412 [some (.ref b), some (.ref (gp (wX, zX) 0)), some (.ref (gp (wY, zY) 0)), some (.int (nI (6 * n)))] [] N1 N2) : Lv (wX, zX) (wY, zY) b Ln xs c0 s0 1353 [some (.ref b), some (.ref (gp (wX, zX) 0)), some (.ref (gp (wY, zY) 0)), some (.int (nI (6 * n)))] [] M1 M2 := by
  obtain ⟨v, N1, N2, e1, e2, hr2⟩ := q n M1 M2 hn hr
  have ih := ih N1 N2 hr2
  have hi : ∀ j, j < 6 → vp_in (nI (6 * n + j)) Ln := fun j hj => vp_in_nI (by omega) (by omega)
  have hj : ∀ j, j < 6 → (nI (6 * n + j)).toNatClampNeg = 6 * n + j := fun j hj => nI_clamp (by omega)
  refine l_aload_n dL_law_1353 rfl ?_
  refine l_callX (S := []) (f2 := 0) (l2 := 0) (ν := mtX5_tear) (as := []) cv_RL_192 kc_1 ⟨Nat.le_of_ble_eq_true rfl, Nat.le_of_ble_eq_true rfl⟩ rfl rfl (Nat.le_of_ble_eq_true rfl) dL_law_1354 (by intro v hv; simp at hv; try (rcases hv with rfl | rfl | rfl | rfl | rfl <;> rfl); try (rcases hv with rfl | rfl | rfl | rfl <;> rfl); try (rcases hv with rfl | rfl | rfl <;> rfl); try (rcases hv with rfl | rfl <;> rfl); try (subst hv; rfl)) is_X0 ?_
  refine ctX5_tear ⟨(v, N1), e1, ?_⟩
  show Lv (wX, zX) (wY, zY) b Ln xs c0 s0 1357 [some (.ref b), some (.ref (gp (wX, zX) 0)), some (.ref (gp (wY, zY) 0)), some (.int (nI (6 * n)))] [.int v] N1 M2
  refine l_aload_n dL_law_1357 rfl ?_
  refine l_callY (S := [.int v]) (f2 := 0) (l2 := 0) (ν := mtX6_tear) (as := []) cv_RL_195 kc_7 ⟨Nat.le_of_ble_eq_true rfl, Nat.le_of_ble_eq_true rfl⟩ rfl rfl (Nat.le_of_ble_eq_true rfl) dL_law_1358 (by intro v hv; simp at hv; try (rcases hv with rfl | rfl | rfl | rfl | rfl <;> rfl); try (rcases hv with rfl | rfl | rfl | rfl <;> rfl); try (rcases hv with rfl | rfl | rfl <;> rfl); try (rcases hv with rfl | rfl <;> rfl); try (subst hv; rfl)) is_Y0 ?_
  refine ctX6_tear ⟨(v, N2), e2, ?_⟩
  show Lv (wX, zX) (wY, zY) b Ln xs c0 s0 1361 [some (.ref b), some (.ref (gp (wX, zX) 0)), some (.ref (gp (wY, zY) 0)), some (.int (nI (6 * n)))] [.int v, .int v] N1 N2
  refine l_icmp_eq 1412 dL_law_1361 (by decide) (fun _ => ih) (fun z => absurd rfl z)
set_option maxRecDepth 20000 in
theorem lawc_44 {zX zY : Zt} {b Ln c0 s0 n : Nat} {xs : Nat → Int32} {M1 M2 : Me} (R : Nat → Me → Me → Prop) (q : sim44 R) (hn : n < 512) (hr : R n M1 M2) (hL : 6 * n + 6 ≤ Ln) (hL2 : Ln ≤ 3072) (ih : ∀ N1 N2, R (n + 1) N1 N2 → Lv (wX, zX) (wY, zY) b Ln xs c0 s0 1412 [some (.ref b), some (.ref (gp (wX, zX) 0)), some (.ref (gp (wY, zY) 0)), some (.int (nI (6 * n)))] [] N1 N2) : Lv (wX, zX) (wY, zY) b Ln xs c0 s0 1366 [some (.ref b), some (.ref (gp (wX, zX) 0)), some (.ref (gp (wY, zY) 0)), some (.int (nI (6 * n)))] [] M1 M2 := by
  obtain ⟨v, N1, N2, e1, e2, hr2⟩ := q n M1 M2 (xs (6 * n + 1)) hn hr
  have ih := ih N1 N2 hr2
  have hi : ∀ j, j < 6 → vp_in (nI (6 * n + j)) Ln := fun j hj => vp_in_nI (by omega) (by omega)
  have hj : ∀ j, j < 6 → (nI (6 * n + j)).toNatClampNeg = 6 * n + j := fun j hj => nI_clamp (by omega)
  have hx1 : nI (6 * n) + (1 : Int32) = nI (6 * n + 1) := nI_add (6 * n) 1
  refine l_aload_n dL_law_1366 rfl ?_
  refine l_aload_n dL_law_1367 rfl ?_
  refine l_iload_n dL_law_1368 rfl ?_
  refine l_iconst (1 : Int32) dL_law_1369 (by decide) ?_
  refine l_iadd dL_law_1370 ?_
  refine l_sld (q := 6 * n + 1) hx1 (hi 1 (by decide)) (hj 1 (by decide)) dL_law_1371 ?_
  refine l_callX (S := []) (f2 := 5) (l2 := 109) (ν := mtX5_count) (as := [.int (xs (6 * n + 1))]) cv_RL_196 kc_1 ⟨Nat.le_of_ble_eq_true rfl, Nat.le_of_ble_eq_true rfl⟩ rfl rfl (Nat.le_of_ble_eq_true rfl) dL_law_1372 (by intro v hv; simp at hv; try (rcases hv with rfl | rfl | rfl | rfl | rfl <;> rfl); try (rcases hv with rfl | rfl | rfl | rfl <;> rfl); try (rcases hv with rfl | rfl | rfl <;> rfl); try (rcases hv with rfl | rfl <;> rfl); try (subst hv; rfl)) is_X0 ?_
  refine ctX5_count (xs (6 * n + 1)) ⟨(v, N1), e1, ?_⟩
  show Lv (wX, zX) (wY, zY) b Ln xs c0 s0 1375 [some (.ref b), some (.ref (gp (wX, zX) 0)), some (.ref (gp (wY, zY) 0)), some (.int (nI (6 * n)))] [.int v] N1 M2
  refine l_aload_n dL_law_1375 rfl ?_
  refine l_aload_n dL_law_1376 rfl ?_
  refine l_iload_n dL_law_1377 rfl ?_
  refine l_iconst (1 : Int32) dL_law_1378 (by decide) ?_
  refine l_iadd dL_law_1379 ?_
  refine l_sld (q := 6 * n + 1) hx1 (hi 1 (by decide)) (hj 1 (by decide)) dL_law_1380 ?_
  refine l_callY (S := [.int v]) (f2 := 5) (l2 := 112) (ν := mtX6_count) (as := [.int (xs (6 * n + 1))]) cv_RL_199 kc_7 ⟨Nat.le_of_ble_eq_true rfl, Nat.le_of_ble_eq_true rfl⟩ rfl rfl (Nat.le_of_ble_eq_true rfl) dL_law_1381 (by intro v hv; simp at hv; try (rcases hv with rfl | rfl | rfl | rfl | rfl <;> rfl); try (rcases hv with rfl | rfl | rfl | rfl <;> rfl); try (rcases hv with rfl | rfl | rfl <;> rfl); try (rcases hv with rfl | rfl <;> rfl); try (subst hv; rfl)) is_Y0 ?_
  refine ctX6_count (xs (6 * n + 1)) ⟨(v, N2), e2, ?_⟩
  show Lv (wX, zX) (wY, zY) b Ln xs c0 s0 1384 [some (.ref b), some (.ref (gp (wX, zX) 0)), some (.ref (gp (wY, zY) 0)), some (.int (nI (6 * n)))] [.int v, .int v] N1 N2
  refine l_icmp_eq 1412 dL_law_1384 (by decide) (fun _ => ih) (fun z => absurd rfl z)
set_option maxRecDepth 20000 in
theorem lawc_45 {zX zY : Zt} {b Ln c0 s0 n : Nat} {xs : Nat → Int32} {M1 M2 : Me} (R : Nat → Me → Me → Prop) (q : sim45 R) (hn : n < 512) (hr : R n M1 M2) (hL : 6 * n + 6 ≤ Ln) (hL2 : Ln ≤ 3072) (ih : ∀ N1 N2, R (n + 1) N1 N2 → Lv (wX, zX) (wY, zY) b Ln xs c0 s0 1412 [some (.ref b), some (.ref (gp (wX, zX) 0)), some (.ref (gp (wY, zY) 0)), some (.int (nI (6 * n)))] [] N1 N2) : Lv (wX, zX) (wY, zY) b Ln xs c0 s0 1389 [some (.ref b), some (.ref (gp (wX, zX) 0)), some (.ref (gp (wY, zY) 0)), some (.int (nI (6 * n)))] [] M1 M2 := by
  obtain ⟨v, N1, N2, e1, e2, hr2⟩ := q n M1 M2 (xs (6 * n + 1)) hn hr
  have ih := ih N1 N2 hr2
  have hi : ∀ j, j < 6 → vp_in (nI (6 * n + j)) Ln := fun j hj => vp_in_nI (by omega) (by omega)
  have hj : ∀ j, j < 6 → (nI (6 * n + j)).toNatClampNeg = 6 * n + j := fun j hj => nI_clamp (by omega)
  have hx1 : nI (6 * n) + (1 : Int32) = nI (6 * n + 1) := nI_add (6 * n) 1
  refine l_aload_n dL_law_1389 rfl ?_
  refine l_aload_n dL_law_1390 rfl ?_
  refine l_iload_n dL_law_1391 rfl ?_
  refine l_iconst (1 : Int32) dL_law_1392 (by decide) ?_
  refine l_iadd dL_law_1393 ?_
  refine l_sld (q := 6 * n + 1) hx1 (hi 1 (by decide)) (hj 1 (by decide)) dL_law_1394 ?_
  refine l_callX (S := []) (f2 := 1) (l2 := 22) (ν := mtX5_status) (as := [.int (xs (6 * n + 1))]) cv_RL_200 kc_1 ⟨Nat.le_of_ble_eq_true rfl, Nat.le_of_ble_eq_true rfl⟩ rfl rfl (Nat.le_of_ble_eq_true rfl) dL_law_1395 (by intro v hv; simp at hv; try (rcases hv with rfl | rfl | rfl | rfl | rfl <;> rfl); try (rcases hv with rfl | rfl | rfl | rfl <;> rfl); try (rcases hv with rfl | rfl | rfl <;> rfl); try (rcases hv with rfl | rfl <;> rfl); try (subst hv; rfl)) is_X0 ?_
  refine ctX5_status (xs (6 * n + 1)) ⟨(v, N1), e1, ?_⟩
  show Lv (wX, zX) (wY, zY) b Ln xs c0 s0 1398 [some (.ref b), some (.ref (gp (wX, zX) 0)), some (.ref (gp (wY, zY) 0)), some (.int (nI (6 * n)))] [.int v] N1 M2
  refine l_aload_n dL_law_1398 rfl ?_
  refine l_aload_n dL_law_1399 rfl ?_
  refine l_iload_n dL_law_1400 rfl ?_
  refine l_iconst (1 : Int32) dL_law_1401 (by decide) ?_
  refine l_iadd dL_law_1402 ?_
  refine l_sld (q := 6 * n + 1) hx1 (hi 1 (by decide)) (hj 1 (by decide)) dL_law_1403 ?_
  refine l_callY (S := [.int v]) (f2 := 1) (l2 := 25) (ν := mtX6_status) (as := [.int (xs (6 * n + 1))]) cv_RL_203 kc_7 ⟨Nat.le_of_ble_eq_true rfl, Nat.le_of_ble_eq_true rfl⟩ rfl rfl (Nat.le_of_ble_eq_true rfl) dL_law_1404 (by intro v hv; simp at hv; try (rcases hv with rfl | rfl | rfl | rfl | rfl <;> rfl); try (rcases hv with rfl | rfl | rfl | rfl <;> rfl); try (rcases hv with rfl | rfl | rfl <;> rfl); try (rcases hv with rfl | rfl <;> rfl); try (subst hv; rfl)) is_Y0 ?_
  refine ctX6_status (xs (6 * n + 1)) ⟨(v, N2), e2, ?_⟩
  show Lv (wX, zX) (wY, zY) b Ln xs c0 s0 1407 [some (.ref b), some (.ref (gp (wX, zX) 0)), some (.ref (gp (wY, zY) 0)), some (.int (nI (6 * n)))] [.int v, .int v] N1 N2
  refine l_icmp_eq 1412 dL_law_1407 (by decide) (fun _ => ih) (fun z => absurd rfl z)
set_option maxRecDepth 20000 in
theorem law_loop {zX zY : Zt} {b Ln c0 s0 : Nat} {xs : Nat → Int32} (R : Nat → Me → Me → Prop) (q0 : sim0 R) (q1 : sim1 R) (q2 : sim2 R) (q3 : sim3 R) (q4 : sim4 R) (q5 : sim5 R) (q6 : sim6 R) (q7 : sim7 R) (q8 : sim8 R) (q9 : sim9 R) (q10 : sim10 R) (q11 : sim11 R) (q12 : sim12 R) (q13 : sim13 R) (q14 : sim14 R) (q15 : sim15 R) (q16 : sim16 R) (q17 : sim17 R) (q18 : sim18 R) (q19 : sim19 R) (q20 : sim20 R) (q21 : sim21 R) (q22 : sim22 R) (q23 : sim23 R) (q24 : sim24 R) (q25 : sim25 R) (q26 : sim26 R) (q27 : sim27 R) (q28 : sim28 R) (q29 : sim29 R) (q30 : sim30 R) (q31 : sim31 R) (q32 : sim32 R) (q33 : sim33 R) (q34 : sim34 R) (q35 : sim35 R) (q36 : sim36 R) (q37 : sim37 R) (q38 : sim38 R) (q39 : sim39 R) (q40 : sim40 R) (q41 : sim41 R) (q42 : sim42 R) (q43 : sim43 R) (q44 : sim44 R) (q45 : sim45 R) (hskip : ∀ (n : Nat) (M1 M2 : Me), n < 512 → R n M1 M2 → R (n + 1) M1 M2) (hL2 : Ln ≤ 3072) : ∀ (k n : Nat) (M1 M2 : Me), n ≤ 512 → 512 - n < k → R n M1 M2 → Lv (wX, zX) (wY, zY) b Ln xs c0 s0 18 [some (.ref b), some (.ref (gp (wX, zX) 0)), some (.ref (gp (wY, zY) 0)), some (.int (nI (6 * n)))] [] M1 M2 := by
  intro k
  induction k with
  | zero => intro n M1 M2 _ h; omega
  | succ k ih0 =>
    intro n M1 M2 hn0 hk hr
    refine l_iload_n dL_law_18 rfl ?_
    refine l_aload_n dL_law_19 rfl ?_
    refine l_slen dL_law_20 ?_
    refine l_bipush (6 : Int32) dL_law_21 (by decide) ?_
    refine l_isub dL_law_23 ?_
    refine l_icmp_gt 1418 dL_law_24 (by decide) (fun _ => ?_) (fun hc => ?_)
    · refine l_iconst (1 : Int32) dL_law_1418 (by decide) ?_
      exact l_ret dL_law_1419
    · have h6 : 6 * n + 6 ≤ Ln := by
        rcases Nat.lt_or_ge Ln (6 * n + 6) with z | z
        · exfalso
          apply hc
          have e1 : (Int32.ofNat Ln - 6).toInt = (Ln : Int) - 6 := pk_sub_toInt (a := Ln) (b := 6) (by omega) (by omega)
          rw [Int32.lt_iff_toInt_lt, nI_toInt (by omega), e1]
          omega
        · exact z
      have hn : n < 512 := by omega
      have ih : ∀ N1 N2, R (n + 1) N1 N2 → Lv (wX, zX) (wY, zY) b Ln xs c0 s0 1412 [some (.ref b), some (.ref (gp (wX, zX) 0)), some (.ref (gp (wY, zY) 0)), some (.int (nI (6 * n)))] [] N1 N2 := by
        intro N1 N2 hr2
        refine l_iinc (nI (6 * (n + 1))) dL_law_1412 rfl (nI_add (6 * n) 6) (by decide) rfl ?_
        refine l_goto 18 dL_law_1415 (by decide) ?_
        exact ih0 (n + 1) N1 N2 (by omega) (by omega) hr2
      refine l_aload_n dL_law_27 rfl ?_
      refine l_iload_n dL_law_28 rfl ?_
      refine l_sld (q := 6 * n) rfl (vp_in_nI (by omega) (by omega)) (nI_clamp (by omega)) dL_law_29 ?_
      refine l_bipush (63 : Int32) dL_law_30 (by decide) ?_
      refine l_iand dL_law_32 ?_
      obtain ⟨j, hj, ej⟩ := pk_andE (xs (6 * n)) (m := 63) 6 (by decide)
      match j, hj with
    | 0, _ => exact l_tswC (0 : Int32) 232 (by rw [ej]; decide) dL_law_33 (by decide) (by decide) rfl (by decide) (lawc_0 R q0 hn hr h6 hL2 ih)
    | 1, _ => exact l_tswC (1 : Int32) 275 (by rw [ej]; decide) dL_law_33 (by decide) (by decide) rfl (by decide) (lawc_1 R q1 hn hr h6 hL2 ih)
    | 2, _ => exact l_tswC (2 : Int32) 308 (by rw [ej]; decide) dL_law_33 (by decide) (by decide) rfl (by decide) (lawc_2 R q2 hn hr h6 hL2 ih)
    | 3, _ => exact l_tswC (3 : Int32) 351 (by rw [ej]; decide) dL_law_33 (by decide) (by decide) rfl (by decide) (lawc_3 R q3 hn hr h6 hL2 ih)
    | 4, _ => exact l_tswC (4 : Int32) 384 (by rw [ej]; decide) dL_law_33 (by decide) (by decide) rfl (by decide) (lawc_4 R q4 hn hr h6 hL2 ih)
    | 5, _ => exact l_tswC (5 : Int32) 407 (by rw [ej]; decide) dL_law_33 (by decide) (by decide) rfl (by decide) (lawc_5 R q5 hn hr h6 hL2 ih)
    | 6, _ => exact l_tswC (6 : Int32) 430 (by rw [ej]; decide) dL_law_33 (by decide) (by decide) rfl (by decide) (lawc_6 R q6 hn hr h6 hL2 ih)
    | 7, _ => exact l_tswC (7 : Int32) 453 (by rw [ej]; decide) dL_law_33 (by decide) (by decide) rfl (by decide) (lawc_7 R q7 hn hr h6 hL2 ih)
    | 8, _ => exact l_tswC (8 : Int32) 476 (by rw [ej]; decide) dL_law_33 (by decide) (by decide) rfl (by decide) (lawc_8 R q8 hn hr h6 hL2 ih)
    | 9, _ => exact l_tswC (9 : Int32) 499 (by rw [ej]; decide) dL_law_33 (by decide) (by decide) rfl (by decide) (lawc_9 R q9 hn hr h6 hL2 ih)
    | 10, _ => exact l_tswC (10 : Int32) 512 (by rw [ej]; decide) dL_law_33 (by decide) (by decide) rfl (by decide) (lawc_10 R q10 hn hr h6 hL2 ih)
    | 11, _ => exact l_tswC (11 : Int32) 535 (by rw [ej]; decide) dL_law_33 (by decide) (by decide) rfl (by decide) (lawc_11 R q11 hn hr h6 hL2 ih)
    | 12, _ => exact l_tswC (12 : Int32) 548 (by rw [ej]; decide) dL_law_33 (by decide) (by decide) rfl (by decide) (lawc_12 R q12 hn hr h6 hL2 ih)
    | 13, _ => exact l_tswC (13 : Int32) 571 (by rw [ej]; decide) dL_law_33 (by decide) (by decide) rfl (by decide) (lawc_13 R q13 hn hr h6 hL2 ih)
    | 14, _ => exact l_tswC (14 : Int32) 594 (by rw [ej]; decide) dL_law_33 (by decide) (by decide) rfl (by decide) (lawc_14 R q14 hn hr h6 hL2 ih)
    | 15, _ => exact l_tswC (15 : Int32) 627 (by rw [ej]; decide) dL_law_33 (by decide) (by decide) rfl (by decide) (lawc_15 R q15 hn hr h6 hL2 ih)
    | 16, _ => exact l_tswC (16 : Int32) 640 (by rw [ej]; decide) dL_law_33 (by decide) (by decide) rfl (by decide) (lawc_16 R q16 hn hr h6 hL2 ih)
    | 17, _ => exact l_tswC (17 : Int32) 663 (by rw [ej]; decide) dL_law_33 (by decide) (by decide) rfl (by decide) (lawc_17 R q17 hn hr h6 hL2 ih)
    | 18, _ => exact l_tswC (18 : Int32) 676 (by rw [ej]; decide) dL_law_33 (by decide) (by decide) rfl (by decide) (lawc_18 R q18 hn hr h6 hL2 ih)
    | 19, _ => exact l_tswC (19 : Int32) 699 (by rw [ej]; decide) dL_law_33 (by decide) (by decide) rfl (by decide) (lawc_19 R q19 hn hr h6 hL2 ih)
    | 20, _ => exact l_tswC (20 : Int32) 712 (by rw [ej]; decide) dL_law_33 (by decide) (by decide) rfl (by decide) (lawc_20 R q20 hn hr h6 hL2 ih)
    | 21, _ => exact l_tswC (21 : Int32) 745 (by rw [ej]; decide) dL_law_33 (by decide) (by decide) rfl (by decide) (lawc_21 R q21 hn hr h6 hL2 ih)
    | 22, _ => exact l_tswC (22 : Int32) 768 (by rw [ej]; decide) dL_law_33 (by decide) (by decide) rfl (by decide) (lawc_22 R q22 hn hr h6 hL2 ih)
    | 23, _ => exact l_tswC (23 : Int32) 791 (by rw [ej]; decide) dL_law_33 (by decide) (by decide) rfl (by decide) (lawc_23 R q23 hn hr h6 hL2 ih)
    | 24, _ => exact l_tswC (24 : Int32) 814 (by rw [ej]; decide) dL_law_33 (by decide) (by decide) rfl (by decide) (lawc_24 R q24 hn hr h6 hL2 ih)
    | 25, _ => exact l_tswC (25 : Int32) 837 (by rw [ej]; decide) dL_law_33 (by decide) (by decide) rfl (by decide) (lawc_25 R q25 hn hr h6 hL2 ih)
    | 26, _ => exact l_tswC (26 : Int32) 860 (by rw [ej]; decide) dL_law_33 (by decide) (by decide) rfl (by decide) (lawc_26 R q26 hn hr h6 hL2 ih)
    | 27, _ => exact l_tswC (27 : Int32) 894 (by rw [ej]; decide) dL_law_33 (by decide) (by decide) rfl (by decide) (lawc_27 R q27 hn hr h6 hL2 ih)
    | 28, _ => exact l_tswC (28 : Int32) 918 (by rw [ej]; decide) dL_law_33 (by decide) (by decide) rfl (by decide) (lawc_28 R q28 hn hr h6 hL2 ih)
    | 29, _ => exact l_tswC (29 : Int32) 941 (by rw [ej]; decide) dL_law_33 (by decide) (by decide) rfl (by decide) (lawc_29 R q29 hn hr h6 hL2 ih)
    | 30, _ => exact l_tswC (30 : Int32) 964 (by rw [ej]; decide) dL_law_33 (by decide) (by decide) rfl (by decide) (lawc_30 R q30 hn hr h6 hL2 ih)
    | 31, _ => exact l_tswC (31 : Int32) 997 (by rw [ej]; decide) dL_law_33 (by decide) (by decide) rfl (by decide) (lawc_31 R q31 hn hr h6 hL2 ih)
    | 32, _ => exact l_tswC (32 : Int32) 1030 (by rw [ej]; decide) dL_law_33 (by decide) (by decide) rfl (by decide) (lawc_32 R q32 hn hr h6 hL2 ih)
    | 33, _ => exact l_tswC (33 : Int32) 1063 (by rw [ej]; decide) dL_law_33 (by decide) (by decide) rfl (by decide) (lawc_33 R q33 hn hr h6 hL2 ih)
    | 34, _ => exact l_tswC (34 : Int32) 1076 (by rw [ej]; decide) dL_law_33 (by decide) (by decide) rfl (by decide) (lawc_34 R q34 hn hr h6 hL2 ih)
    | 35, _ => exact l_tswC (35 : Int32) 1089 (by rw [ej]; decide) dL_law_33 (by decide) (by decide) rfl (by decide) (lawc_35 R q35 hn hr h6 hL2 ih)
    | 36, _ => exact l_tswC (36 : Int32) 1122 (by rw [ej]; decide) dL_law_33 (by decide) (by decide) rfl (by decide) (lawc_36 R q36 hn hr h6 hL2 ih)
    | 37, _ => exact l_tswC (37 : Int32) 1155 (by rw [ej]; decide) dL_law_33 (by decide) (by decide) rfl (by decide) (lawc_37 R q37 hn hr h6 hL2 ih)
    | 38, _ => exact l_tswC (38 : Int32) 1198 (by rw [ej]; decide) dL_law_33 (by decide) (by decide) rfl (by decide) (lawc_38 R q38 hn hr h6 hL2 ih)
    | 39, _ => exact l_tswC (39 : Int32) 1241 (by rw [ej]; decide) dL_law_33 (by decide) (by decide) rfl (by decide) (lawc_39 R q39 hn hr h6 hL2 ih)
    | 40, _ => exact l_tswC (40 : Int32) 1304 (by rw [ej]; decide) dL_law_33 (by decide) (by decide) rfl (by decide) (lawc_40 R q40 hn hr h6 hL2 ih)
    | 41, _ => exact l_tswC (41 : Int32) 1327 (by rw [ej]; decide) dL_law_33 (by decide) (by decide) rfl (by decide) (lawc_41 R q41 hn hr h6 hL2 ih)
    | 42, _ => exact l_tswC (42 : Int32) 1340 (by rw [ej]; decide) dL_law_33 (by decide) (by decide) rfl (by decide) (lawc_42 R q42 hn hr h6 hL2 ih)
    | 43, _ => exact l_tswC (43 : Int32) 1353 (by rw [ej]; decide) dL_law_33 (by decide) (by decide) rfl (by decide) (lawc_43 R q43 hn hr h6 hL2 ih)
    | 44, _ => exact l_tswC (44 : Int32) 1366 (by rw [ej]; decide) dL_law_33 (by decide) (by decide) rfl (by decide) (lawc_44 R q44 hn hr h6 hL2 ih)
    | 45, _ => exact l_tswC (45 : Int32) 1389 (by rw [ej]; decide) dL_law_33 (by decide) (by decide) rfl (by decide) (lawc_45 R q45 hn hr h6 hL2 ih)
    | j + 46, hj =>
        refine l_tswD 1412 dL_law_33 (Or.inr ?_) (by decide) (ih M1 M2 ?_)
        · rw [ej, nI_toInt (by omega)]
          omega
        · exact hskip n M1 M2 hn hr
