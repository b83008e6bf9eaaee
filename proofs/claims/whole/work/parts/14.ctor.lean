/-! Constructors: a picture of t cells, cell k at the address ρ k holding F k; a new cell is the t-th -/
abbrev Ht : Type := Launch × va_G × (ClassId × ClassId × ClassId)
def tyH (h : Ht) : List (ClassId × FieldType) := [(h.2.2.1, .int), (h.2.2.2.1, .object RX1), (h.2.2.2.2, .object RX3)]
def wl (ρ : Nat → Nat) (t : Nat) (F : Nat → va_E) : va_W := (List.range t).map fun k => (ρ k, F k)
theorem wl_at {ρ : Nat → Nat} {t k : Nat} {F : Nat → va_E} (hk : k < t) : (wl ρ t F)[k]? = some (ρ k, F k) := by simp [wl, hk]
theorem wl_in {ρ : Nat → Nat} {t k : Nat} {F : Nat → va_E} {q : Nat × va_E} (h : (wl ρ t F)[k]? = some q) : k < t ∧ q = (ρ k, F k) := by
  have hl := (List.getElem?_eq_some_iff.mp h).1
  have hr : k < t := by simpa [wl] using hl
  rw [wl_at hr] at h
  exact ⟨hr, (Option.some.inj h).symm⟩
theorem wl_set {ρ : Nat → Nat} {t k : Nat} {F F' : Nat → va_E} {e : va_E} (hk : k < t) (h1 : F' k = e) (h2 : ∀ j, j ≠ k → F' j = F j) : (wl ρ t F).set k (ρ k, e) = wl ρ t F' := by
  apply List.ext_getElem?
  intro i
  by_cases hi : i = k
  · subst hi
    rw [List.getElem?_set_self (by simpa [wl] using hk), wl_at hk, h1]
  · rw [List.getElem?_set_ne (Ne.symm hi)]
    by_cases hl : i < t
    · rw [wl_at hl, wl_at hl, h2 i hi]
    · simp [wl, hl]
theorem wl_push {ρ ρ' : Nat → Nat} {t q : Nat} {F F' : Nat → va_E} {e : va_E} (h1 : F' t = e) (h2 : ∀ j, j ≠ t → F' j = F j) (h3 : ρ' t = q) (h4 : ∀ j, j ≠ t → ρ' j = ρ j) : wl ρ t F ++ [(q, e)] = wl ρ' (t + 1) F' := by
  unfold wl
  rw [List.range_succ, List.map_append]
  congr 1
  · apply List.map_congr_left
    intro j hj
    have hj : j < t := List.mem_range.mp hj
    rw [h2 j (by omega), h4 j (by omega)]
  · simp [h1, h3]
theorem up_self {α : Type} {F : Nat → α} {k : Nat} {e : α} : va_up F k e k = e := by simp [va_up]
theorem up_ne {α : Type} {F : Nat → α} {k j : Nat} {e : α} (h : j ≠ k) : va_up F k e j = F j := by simp [va_up, h]
def CxC (h : Ht) (μ : Mt) (p : Program) (s : State) (m : MethodId) (args : Array Value) (meth : Method) (c : Code) (A : Nat → Prop) : Prop :=
  p.tables.exec = Jvm.exec ∧ c.code = μ.2.1 ∧ c.maxLocals = μ.2.2.1 ∧ meth.sig.returnType = μ.2.2.2 ∧ meth.locks = false ∧ s.vm.findClass μ.1.cls = some m.cls ∧ (∀ w ∈ mws μ, w.before args s = true) ∧ va_K h.2.1 vwCl (tyH h) s ∧ (∀ w ∈ nestW, va_Nw w s) ∧ va_AO RX1 s ∧ va_AO RX3 s ∧ meth.name = μ.1.name ∧ ∀ q : Nat, s.heap.size ≤ q → A q
def QC (h : Ht) (Q : (Nat → Nat) → Nat → (Nat → va_E) → Prop) (A : Nat → Prop) : Array Value → State → Outcome → State → Prop := fun _ st oc t =>
  oc = .returned none ∧ (∃ (ρ' : Nat → Nat) (t' : Nat) (F' : Nat → va_E), Q ρ' t' F' ∧ va_P h.2.1 vwCl (wl ρ' t' F') t.heap ∧ va_D A (wl ρ' t' F')) ∧ va_F A st t
def Cv (h : Ht) (μ : Mt) (rm : Room) (mc ms : Nat) (c0 s0 pc : Nat) (L : List (Option Value)) (S : List Value) (ρ : Nat → Nat) (t : Nat) (F : Nat → va_E) (Q : (Nat → Nat) → Nat → (Nat → va_E) → Prop) : Prop :=
  ∀ (p : Program) (e : Env) (s : State) (m : MethodId) (args : Array Value) (below : List Frame) (meth : Method) (c : Code) (H : Heap) (locs : List Loc) (A : Nat → Prop) (ls : Array Slot),
    CxC h μ p s m args meth c A → va_P h.2.1 vwCl (wl ρ t F) H → va_D A (wl ρ t F) → va_S A s.heap H locs → lh (fun n => n) ls μ.2.2.1 L →
    W p h.1 e (headSpec (mws μ) rm).room s m args below meth c H locs c0 s0 (MQ below (QC h Q A) args s mc ms A) (F0 m pc ls S)
def CvM (h : Ht) (μ : Mt) (rm : Room) (mc ms : Nat) (as : List Value) (ρ : Nat → Nat) (t : Nat) (F : Nat → va_E) (Q : (Nat → Nat) → Nat → (Nat → va_E) → Prop) : Prop :=
  ∀ sz : Nat, Met h.1 μ.1 (mws μ) rm (va_Pc as (fun U => U.heap.size = sz ∧ va_P h.2.1 vwCl (wl ρ t F) U.heap ∧ va_K h.2.1 vwCl (tyH h) U ∧ va_D (fun _ => True) (wl ρ t F) ∧ (∀ w ∈ nestW, va_Nw w U) ∧ va_AO RX1 U ∧ va_AO RX3 U)) (QC h Q (va_A (wl ρ t F) sz)) mc ms (va_A (wl ρ t F) sz)
theorem cvm_of {h : Ht} {μ : Mt} {rm : Room} {mc ms t : Nat} {a : Nat} {ρ : Nat → Nat} {F : Nat → va_E} {Q : (Nat → Nat) → Nat → (Nat → va_E) → Prop} (L : List (Option Value)) (k : Nat) (hy : plainName μ.1.cls = true) (hn : 1 ≤ μ.2.2.1) (hL : some (.ref a) :: List.replicate k none = L) (hh : Cv h μ rm mc ms 0 0 0 L [] ρ t F Q) : CvM h μ rm mc ms [.ref a] ρ t F Q := by
  intro sz
  refine Met.ofW (cc := μ.2.1) (maxL := μ.2.2.1) (ret := μ.2.2.2) hy rfl ?_
  intro p e s m args below meth c s₁ BB hml hv
  obtain ⟨rfl, hsz, hP, hK, hD0, hN, hA1, hA3⟩ := hv
  have hts := atoms_spec (ws := mws μ) BB.pre
  have hown : s.vm.findClass μ.1.cls = some m.cls := findClass_of_methodNamed BB.named
  have hin : meth.name = μ.1.name := (name_of_methodNamed BB.named BB.method).1
  subst hsz
  have hD := hD0.self (sz := s.heap.size)
  rw [lg_entry_eq]
  have hl := lv_entry ([.ref a]) (n := μ.2.2.1) hn
  have hl2 : lh (fun n => n) ((lg_sl ([Value.ref a]) ++ List.replicate (μ.2.2.1 - (lg_sl ([Value.ref a])).length) Slot.unset).toArray) μ.2.2.1 L := by
    have := lh_entry (ρ := fun n => n) (as := [.ref a]) (k := k) hl
    rw [← hL]
    exact this
  exact hh p e s m _ below meth c s.heap [] _ _ ⟨BB.exec, BB.bytes, hml, BB.returns, BB.notSynchronized, hown, hts, hK, hN, hA1, hA3, hin, fun q h => Or.inr h⟩ hP hD va_S.rf hl2
section CR
variable {h : Ht} {μ : Mt} {rm : Room} {mc ms c0 s0 pc : Nat} {L L' : List (Option Value)} {S : List Value} {ρ : Nat → Nat} {t : Nat} {F : Nat → va_E} {Q : (Nat → Nat) → Nat → (Nat → va_E) → Prop}
theorem c_iconst {n : Int} (v : Int32) (hd : decode μ.2.1 pc = .ok (.iconst n, 1)) (hv : Int32.ofInt n = v) (k : Cv h μ rm mc ms c0 s0 (pc + 1) L (.int v :: S) ρ t F Q) : Cv h μ rm mc ms c0 s0 pc L S ρ t F Q :=
  fun p e s m args below meth c H locs A ls C hP hD hS hl => lv_iconst C.1 C.2.1 hd hv (k p e s m args below meth c H locs A ls C hP hD hS hl)
theorem c_bipush {n : Int} (v : Int32) (hd : decode μ.2.1 pc = .ok (.bipush n, 2)) (hv : (Int8.ofInt n).toInt32 = v) (k : Cv h μ rm mc ms c0 s0 (pc + 2) L (.int v :: S) ρ t F Q) : Cv h μ rm mc ms c0 s0 pc L S ρ t F Q :=
  fun p e s m args below meth c H locs A ls C hP hD hS hl => lv_bipush C.1 C.2.1 hd hv (k p e s m args below meth c H locs A ls C hP hD hS hl)
theorem c_sipush {n : Int} (v : Int32) (hd : decode μ.2.1 pc = .ok (.sipush n, 3)) (hv : (Int16.ofInt n).toInt32 = v) (k : Cv h μ rm mc ms c0 s0 (pc + 3) L (.int v :: S) ρ t F Q) : Cv h μ rm mc ms c0 s0 pc L S ρ t F Q :=
  fun p e s m args below meth c H locs A ls C hP hD hS hl => lv_sipush C.1 C.2.1 hd hv (k p e s m args below meth c H locs A ls C hP hD hS hl)
theorem c_iload_n {q : Fin 4} {x : Int32} (hd : decode μ.2.1 pc = .ok (.iload_n q, 1)) (hv : L[(q : Nat)]? = some (some (.int x))) (k : Cv h μ rm mc ms c0 s0 (pc + 1) L (.int x :: S) ρ t F Q) : Cv h μ rm mc ms c0 s0 pc L S ρ t F Q :=
  fun p e s m args below meth c H locs A ls C hP hD hS hl => lv_iload_n C.1 C.2.1 hd rfl (hl.2.2 _ _ hv) (k p e s m args below meth c H locs A ls C hP hD hS hl)
theorem c_aload_n {q : Fin 4} {x : Nat} (hd : decode μ.2.1 pc = .ok (.aload_n q, 1)) (hv : L[(q : Nat)]? = some (some (.ref x))) (k : Cv h μ rm mc ms c0 s0 (pc + 1) L (.ref x :: S) ρ t F Q) : Cv h μ rm mc ms c0 s0 pc L S ρ t F Q :=
  fun p e s m args below meth c H locs A ls C hP hD hS hl => lv_aload_n C.1 C.2.1 hd rfl (hl.2.2 _ _ hv) (k p e s m args below meth c H locs A ls C hP hD hS hl)
theorem c_iadd {x y : Int32} (hd : decode μ.2.1 pc = .ok (.iadd, 1)) (k : Cv h μ rm mc ms c0 s0 (pc + 1) L (.int (x + y) :: S) ρ t F Q) : Cv h μ rm mc ms c0 s0 pc L (.int y :: .int x :: S) ρ t F Q :=
  fun p e s m args below meth c H locs A ls C hP hD hS hl => lv_iadd C.1 C.2.1 hd (k p e s m args below meth c H locs A ls C hP hD hS hl)
theorem c_dup {a : Nat} (hd : decode μ.2.1 pc = .ok (.dup, 1)) (k : Cv h μ rm mc ms c0 s0 (pc + 1) L (.ref a :: .ref a :: S) ρ t F Q) : Cv h μ rm mc ms c0 s0 pc L (.ref a :: S) ρ t F Q :=
  fun p e s m args below meth c H locs A ls C hP hD hS hl => lv_dup C.1 C.2.1 hd rfl (k p e s m args below meth c H locs A ls C hP hD hS hl)
theorem c_goto {off : Int} (tgt : Nat) (hd : decode μ.2.1 pc = .ok (.goto off, 3)) (ht : (pc : Int) + off = (tgt : Int)) (k : Cv h μ rm mc ms c0 s0 tgt L S ρ t F Q) : Cv h μ rm mc ms c0 s0 pc L S ρ t F Q :=
  fun p e s m args below meth c H locs A ls C hP hD hS hl => lv_goto C.1 C.2.1 hd ht (k p e s m args below meth c H locs A ls C hP hD hS hl)
theorem c_icmp_ge {x y : Int32} {off : Int} (tgt : Nat) (hd : decode μ.2.1 pc = .ok (.if_icmp .ge off, 3)) (ht : (pc : Int) + off = (tgt : Int)) (kt : y ≤ x → Cv h μ rm mc ms c0 s0 tgt L S ρ t F Q) (kf : ¬ y ≤ x → Cv h μ rm mc ms c0 s0 (pc + 3) L S ρ t F Q) : Cv h μ rm mc ms c0 s0 pc L (.int y :: .int x :: S) ρ t F Q :=
  fun p e s m args below meth c H locs A ls C hP hD hS hl => lv_icmp_ge C.1 C.2.1 hd ht (fun z => kt z p e s m args below meth c H locs A ls C hP hD hS hl) (fun z => kf z p e s m args below meth c H locs A ls C hP hD hS hl)
theorem c_istore_n {q : Fin 4} {x : Int32} (hd : decode μ.2.1 pc = .ok (.istore_n q, 1)) (hn : (q : Nat) < μ.2.2.1) (hL : stL L (q : Nat) (.int x) = L') (k : Cv h μ rm mc ms c0 s0 (pc + 1) L' S ρ t F Q) : Cv h μ rm mc ms c0 s0 pc L (.int x :: S) ρ t F Q :=
  fun p e s m args below meth c H locs A ls C hP hD hS hl => lv_istore_n C.1 C.2.1 hd rfl (lh_has hl) hn rfl (fun ls' h' => k p e s m args below meth c H locs A ls' C hP hD hS (hL ▸ lh_st0 (v := .int x) h'))
theorem c_iinc {i : Nat} {n : Int} {x : Int32} (v : Int32) (hd : decode μ.2.1 pc = .ok (.iinc i n, 3)) (hv : L[i]? = some (some (.int x))) (he : x + Int32.ofInt n = v) (hn : i < μ.2.2.1) (hL : stL L i (.int v) = L') (k : Cv h μ rm mc ms c0 s0 (pc + 3) L' S ρ t F Q) : Cv h μ rm mc ms c0 s0 pc L S ρ t F Q := by
  intro p e s m args below meth c H locs A ls C hP hD hS hl
  obtain ⟨j, hj⟩ := List.getElem?_of_mem (lvL_mem (q := (i, .int x)).mpr ⟨_, hv, rfl⟩ : (i, Value.int x) ∈ lvL (fun n => n) L)
  exact lv_iinc C.1 C.2.1 hd (lh_has hl) (k := j) hj he hn rfl (fun ls' h' => k p e s m args below meth c H locs A ls' C hP hD hS (hL ▸ lh_st0 (v := .int v) h'))
def oiW (own : String) (idx : Nat) : Prop := Cond.methodLink own idx objectInit ∈ gtb ∧ Cond.instanceMethod objectInit ∈ gtb ∧ Cond.code objectInit ⟨#[0xb1]⟩ 1 none ∈ gtb
theorem c_objinit {idx a : Nat} (w : oiW μ.1.cls idx) (hd : decode μ.2.1 pc = .ok (.invokespecial idx, 3)) (hfr : 1 ≤ rm.frames) (hlo : 12 ≤ rm.locals) (k : Cv h μ rm mc ms c0 s0 (pc + 3) L [] ρ t F Q) : Cv h μ rm mc ms c0 s0 pc L [.ref a] ρ t F Q := by
  intro p e s m args below meth c H locs A ls C hP hD hS hl
  have hts := C.2.2.2.2.2.2.1
  exact W.objInit C.1 C.2.1 C.2.2.2.2.2.1 (hts _ (mws_in w.1)) (hts _ (mws_in w.2.1)) (hts _ (mws_in w.2.2)) rfl (by rw [C.2.2.1]; exact hl.1) rfl hd hfr hlo (k p e s m args below meth c H locs A ls C hP hD hS hl)
theorem c_vret (hr : μ.2.2.2 = none) (hd : decode μ.2.1 pc = .ok (.return_, 1)) (hq : Q ρ t F) : Cv h μ rm mc ms mc ms pc L [] ρ t F Q :=
  fun p e s m args below meth c H locs A ls C hP hD hS hl => W.vret C.1 C.2.1 (C.2.2.2.1.trans hr) (fun T ht hW => ⟨rfl, ⟨ρ, t, F, hq, by rw [ht]; exact hP, hD⟩, hS.F ht⟩) hS.2.2 hd C.2.2.2.2.1
theorem c_getR {idx k j ci a b : Nat} {cs : List Nat} {fs : List Value} (K cd : Nat) (fa : FA μ.1.cls idx K j cd) (hK : kO K = some (ci, cs)) (hk : k < t) (hb : ρ k = b) (hF : F k = .inr (ci, fs)) (hv : fs[j]? = some (.ref a)) (hd : decode μ.2.1 pc = .ok (.getfield idx, 3)) (kk : Cv h μ rm mc ms c0 s0 (pc + 3) L (.ref a :: S) ρ t F Q) : Cv h μ rm mc ms c0 s0 pc L (.ref b :: S) ρ t F Q := by
  subst hb
  intro p e s m args below meth c H locs A ls C hP hD hS hl
  obtain ⟨ci', cs', C', T, N, h1, h2, h3, h4, h5, h6⟩ := fa
  have e1 : ci' = ci := by
    rw [hK] at h1
    exact (congrArg Prod.fst (Option.some.inj h1)).symm
  subst e1
  have he := wl_at (ρ := ρ) (F := F) hk
  rw [hF] at he
  have hts := C.2.2.2.2.2.2.1
  exact va_get (D := h.2.1) (ci := ci') (v := .ref a) (C := C') (T := T) (N := N) C.1 C.2.1 hts (fun w hw => mws_in (h4 w hw)) C.2.2.2.2.2.1 C.2.2.2.2.2.2.2.1 hP k he h3 j h5 (hts _ (mws_in h6)) (fun _ h9 => h9) hv hd (kk p e s m args below meth c H locs A ls C hP hD hS hl)
/-- a final field, in a constructor -/
def FF (own : String) (idx K j : Nat) (ty : FieldType) : Prop := ∃ (ci : Nat) (cs : List Nat) (C : String) (T : u_T) (N : Nat) (ty0 : Nat → FieldType), kO K = some (ci, cs) ∧ vwCl[ci]? = some (C, T, N) ∧ (∀ w ∈ u_ws C T N, w ∈ gtb) ∧ j < N ∧ Cond.fieldLink own idx (T j).1 (T j).2.1 (T j).2.2.1 ∈ gtb ∧
  (∀ k, k < N → parseFieldDescriptor (T k).2.2.1 = some (ty0 k)) ∧ (∀ a, a < N → ∀ b, b < N → a ≠ b → (T a).2.1 ≠ (T b).2.1) ∧ (T j).2.2.2 = true ∧ (T j).1 = own ∧ parseFieldDescriptor (T j).2.2.1 = some ty
theorem c_putF {idx k j ci a b : Nat} {cs : List Nat} {fs : List Value} {ty : FieldType} (K : Nat) (fa : FF μ.1.cls idx K j ty) (hK : kO K = some (ci, cs)) (hnm : μ.1.name = "<init>") (hk : k < t) (hb : ρ k = b) (hF : F k = .inr (ci, fs)) (hlen : j < fs.length) (hn : narrow ty (.ref a) = .ref a) (hfit : fits ty (.ref a) = true) (hd : decode μ.2.1 pc = .ok (.putfield idx, 3)) (kk : ∀ F' : Nat → va_E, F' k = .inr (ci, fs.set j (.ref a)) → (∀ j, j ≠ k → F' j = F j) → Cv h μ rm mc ms c0 s0 (pc + 3) L S ρ t F' Q) : Cv h μ rm mc ms c0 s0 pc L (.ref a :: .ref b :: S) ρ t F Q := by
  subst hb
  intro p e s m args below meth c H locs A ls C hP hD hS hl
  obtain ⟨ci', cs', C', T, N, ty0, h1, h3, h4, h5, h6, h7, h8, h9, h10, h11⟩ := fa
  have e1 : ci' = ci := by
    rw [hK] at h1
    exact (congrArg Prod.fst (Option.some.inj h1)).symm
  subst e1
  have he := wl_at (ρ := ρ) (F := F) hk
  rw [hF] at he
  have hts := C.2.2.2.2.2.2.1
  refine va_putF (D := h.2.1) (ci := ci') (v := .ref a) (ty := ty) (C := C') (T := T) (N := N) C.1 C.2.1 hts (fun w hw => mws_in (h4 w hw)) ty0 h7 h8 C.2.2.2.2.2.1 C.2.2.2.2.2.2.2.1 hP hD hS k he h3 j h5 (hts _ (mws_in h6)) (fun _ z => z) h9 (C.2.2.2.2.2.2.2.2.2.2.2.1.trans hnm) h10 h11 hn hfit hlen hd (fun H1 locs1 hP1 hD1 hS1 => ?_)
  rw [wl_set (F' := va_up F k (.inr (ci', fs.set j (.ref a)))) hk up_self (fun j hj => up_ne hj)] at hP1 hD1
  exact kk _ up_self (fun j hj => up_ne hj) p e s m args below meth c H1 locs1 A ls C hP1 hD1 hS1 hl
theorem c_put {idx k j ci b : Nat} {cs : List Nat} {fs : List Value} {ty : FieldType} {v : Int32} (K : Nat) (fa : FW μ.1.cls idx K j 0 ty) (hK : kO K = some (ci, cs)) (hk : k < t) (hb : ρ k = b) (hF : F k = .inr (ci, fs)) (hlen : j < fs.length) (hn : narrow ty (.int v) = .int v) (hfit : fits ty (.int v) = true) (hd : decode μ.2.1 pc = .ok (.putfield idx, 3)) (kk : ∀ F' : Nat → va_E, F' k = .inr (ci, fs.set j (.int v)) → (∀ j, j ≠ k → F' j = F j) → Cv h μ rm mc ms c0 s0 (pc + 3) L S ρ t F' Q) : Cv h μ rm mc ms c0 s0 pc L (.int v :: .ref b :: S) ρ t F Q := by
  subst hb
  intro p e s m args below meth c H locs A ls C hP hD hS hl
  obtain ⟨ci', cs', C', T, N, ty0, h1, h2, h3, h4, h5, h6, h7, h8, h9, h10⟩ := fa
  have e1 : ci' = ci := by
    rw [hK] at h1
    exact (congrArg Prod.fst (Option.some.inj h1)).symm
  subst e1
  have he := wl_at (ρ := ρ) (F := F) hk
  rw [hF] at he
  have hts := C.2.2.2.2.2.2.1
  refine va_put (D := h.2.1) (ci := ci') (v := .int v) (ty := ty) (C := C') (T := T) (N := N) C.1 C.2.1 hts (fun w hw => mws_in (h4 w hw)) ty0 h7 h8 C.2.2.2.2.2.1 C.2.2.2.2.2.2.2.1 hP hD hS k he h3 j h5 (hts _ (mws_in h6)) (fun _ z => z) h9 h10 hn hfit hlen hd (fun H1 locs1 hP1 hD1 hS1 => ?_)
  rw [wl_set (F' := va_up F k (.inr (ci', fs.set j (.int v)))) hk up_self (fun j hj => up_ne hj)] at hP1 hD1
  exact kk _ up_self (fun j hj => up_ne hj) p e s m args below meth c H1 locs1 A ls C hP1 hD1 hS1 hl
theorem c_newa {n : Int32} (N' : Nat) (ha : Cond.arrayClass .int ∈ gtb) (hn : ¬ n < 0) (hN : n.toNatClampNeg = N') (hby : N' * 4 ≤ 536870912) (hc : c0 + 1 ≤ rm.cells) (hs : s0 + N' ≤ rm.slots) (hd : decode μ.2.1 pc = .ok (.newarray .int, 2)) (kk : ∀ (ρ' : Nat → Nat) (F' : Nat → va_E) (q : Nat), ρ' t = q → (∀ j, j ≠ t → ρ' j = ρ j) → F' t = .inl (h.2.2.1, N', .inl (fun _ => 0)) → (∀ j, j ≠ t → F' j = F j) → Cv h μ rm mc ms (c0 + 1) (s0 + N') (pc + 2) L (.ref q :: S) ρ' (t + 1) F' Q) : Cv h μ rm mc ms c0 s0 pc L (.int n :: S) ρ t F Q := by
  intro p e s m args below meth c H locs A ls C hP hD hS hl
  have hts := C.2.2.2.2.2.2.1
  refine va_newa (atype := .int) (ty := .int) C.1 C.2.1 (hts _ (mws_in ha)) rfl C.2.2.2.2.2.2.2.1 hP hD hS C.2.2.2.2.2.2.2.2.2.2.2.2 (a0 := (N', .inl (fun _ => 0))) (fun cA => rfl) hn hN hby hc hs hd (fun q cA H1 hK1 hP1 hD1 hS1 => ?_)
  have e1 : cA = h.2.2.1 := by
    have z1 := (hK1.2 0 _ rfl).2
    have z2 := (hK1.2 3 _ rfl).2
    exact Option.some.inj (z2.symm.trans z1)
  subst e1
  rw [wl_push (ρ' := va_up ρ t q) (F' := va_up F t (.inl (h.2.2.1, N', .inl (fun _ => 0)))) up_self (fun j hj => up_ne hj) up_self (fun j hj => up_ne hj)] at hP1 hD1
  exact kk _ _ q up_self (fun j hj => up_ne hj) up_self (fun j hj => up_ne hj) p e s m args below meth c H1 locs A ls C hP1 hD1 hS1 hl
theorem c_anewP {n : Int32} {idx : Nat} (N' : Nat) (ha : Cond.classLink μ.1.cls idx RX1 ∈ gtb) (hn : ¬ n < 0) (hN : n.toNatClampNeg = N') (hby : N' * 4 ≤ 536870912) (hc : c0 + 1 ≤ rm.cells) (hs : s0 + N' ≤ rm.slots) (hd : decode μ.2.1 pc = .ok (.anewarray idx, 3)) (kk : ∀ (ρ' : Nat → Nat) (F' : Nat → va_E) (q : Nat), ρ' t = q → (∀ j, j ≠ t → ρ' j = ρ j) → F' t = .inl (h.2.2.2.1, N', .inr (.inr (.inr (.inr (fun _ => none))))) → (∀ j, j ≠ t → F' j = F j) → Cv h μ rm mc ms (c0 + 1) (s0 + N') (pc + 3) L (.ref q :: S) ρ' (t + 1) F' Q) : Cv h μ rm mc ms c0 s0 pc L (.int n :: S) ρ t F Q := by
  intro p e s m args below meth c H locs A ls C hP hD hS hl
  have hts := C.2.2.2.2.2.2.1
  refine va_newq (C := RX1) C.1 C.2.1 C.2.2.2.2.2.1 (hts _ (mws_in ha)) C.2.2.2.2.2.2.2.2.2.1 C.2.2.2.2.2.2.2.1 hP hD hS C.2.2.2.2.2.2.2.2.2.2.2.2 hn hN hby hc hs hd (fun q cA H1 hK1 hP1 hD1 hS1 => ?_)
  have e1 : cA = h.2.2.2.1 := by
    obtain ⟨_, _, _, _, _, z1⟩ := (hK1.2 1 _ rfl).2
    obtain ⟨_, _, _, _, _, z2⟩ := (hK1.2 3 _ rfl).2
    exact Option.some.inj (z2.symm.trans z1)
  subst e1
  rw [wl_push (ρ' := va_up ρ t q) (F' := va_up F t (.inl (h.2.2.2.1, N', .inr (.inr (.inr (.inr (fun _ => none))))))) up_self (fun j hj => up_ne hj) up_self (fun j hj => up_ne hj)] at hP1 hD1
  exact kk _ _ q up_self (fun j hj => up_ne hj) up_self (fun j hj => up_ne hj) p e s m args below meth c H1 locs A ls C hP1 hD1 hS1 hl
theorem c_anewS {n : Int32} {idx : Nat} (N' : Nat) (ha : Cond.classLink μ.1.cls idx RX3 ∈ gtb) (hn : ¬ n < 0) (hN : n.toNatClampNeg = N') (hby : N' * 4 ≤ 536870912) (hc : c0 + 1 ≤ rm.cells) (hs : s0 + N' ≤ rm.slots) (hd : decode μ.2.1 pc = .ok (.anewarray idx, 3)) (kk : ∀ (ρ' : Nat → Nat) (F' : Nat → va_E) (q : Nat), ρ' t = q → (∀ j, j ≠ t → ρ' j = ρ j) → F' t = .inl (h.2.2.2.2, N', .inr (.inr (.inr (.inr (fun _ => none))))) → (∀ j, j ≠ t → F' j = F j) → Cv h μ rm mc ms (c0 + 1) (s0 + N') (pc + 3) L (.ref q :: S) ρ' (t + 1) F' Q) : Cv h μ rm mc ms c0 s0 pc L (.int n :: S) ρ t F Q := by
  intro p e s m args below meth c H locs A ls C hP hD hS hl
  have hts := C.2.2.2.2.2.2.1
  refine va_newq (C := RX3) C.1 C.2.1 C.2.2.2.2.2.1 (hts _ (mws_in ha)) C.2.2.2.2.2.2.2.2.2.2.1 C.2.2.2.2.2.2.2.1 hP hD hS C.2.2.2.2.2.2.2.2.2.2.2.2 hn hN hby hc hs hd (fun q cA H1 hK1 hP1 hD1 hS1 => ?_)
  have e1 : cA = h.2.2.2.2 := by
    obtain ⟨_, _, _, _, _, z1⟩ := (hK1.2 2 _ rfl).2
    obtain ⟨_, _, _, _, _, z2⟩ := (hK1.2 3 _ rfl).2
    exact Option.some.inj (z2.symm.trans z1)
  subst e1
  rw [wl_push (ρ' := va_up ρ t q) (F' := va_up F t (.inl (h.2.2.2.2, N', .inr (.inr (.inr (.inr (fun _ => none))))))) up_self (fun j hj => up_ne hj) up_self (fun j hj => up_ne hj)] at hP1 hD1
  exact kk _ _ q up_self (fun j hj => up_ne hj) up_self (fun j hj => up_ne hj) p e s m args below meth c H1 locs A ls C hP1 hD1 hS1 hl
def nwW (own : String) (idx ci : Nat) (fs : List Value) (N : Nat) : Prop := ∃ (C : String) (T : u_T) (ty : Nat → FieldType), vwCl[ci]? = some (C, T, N) ∧ (∀ w ∈ u_ws C T N, w ∈ gtb) ∧ (∀ k, k < N → parseFieldDescriptor (T k).2.2.1 = some (ty k)) ∧ Cond.classLink own idx C ∈ gtb ∧ Cond.instantiable C N ∈ gtb ∧ Cond.initialized C ∈ gtb ∧ ∀ j, j < N → defaultValue (ty j) = vp_V fs j
theorem c_new {idx ci N : Nat} {fs : List Value} (w : nwW μ.1.cls idx ci fs N) (hc : c0 + 1 ≤ rm.cells) (hs : s0 + N ≤ rm.slots) (hd : decode μ.2.1 pc = .ok (.new idx, 3)) (kk : ∀ (ρ' : Nat → Nat) (F' : Nat → va_E) (q : Nat), ρ' t = q → (∀ j, j ≠ t → ρ' j = ρ j) → F' t = .inr (ci, fs) → (∀ j, j ≠ t → F' j = F j) → Cv h μ rm mc ms (c0 + 1) (s0 + N) (pc + 3) L (.ref q :: S) ρ' (t + 1) F' Q) : Cv h μ rm mc ms c0 s0 pc L S ρ t F Q := by
  intro p e s m args below meth c H locs A ls C hP hD hS hl
  obtain ⟨C', T, ty, h1, h2, h3, h4, h5, h6, h7⟩ := w
  have hts := C.2.2.2.2.2.2.1
  refine va_new (ci := ci) (fs := fs) (C := C') (T := T) (N := N) C.1 C.2.1 hts (fun w hw => mws_in (h2 w hw)) ty h3 C.2.2.2.2.2.1 (hts _ (mws_in h4)) (hts _ (mws_in h5)) (hts _ (mws_in h6)) C.2.2.2.2.2.2.2.1 hP hD hS C.2.2.2.2.2.2.2.2.2.2.2.2 h1 h7 hc hs hd (fun q H1 hP1 hD1 hS1 => ?_)
  rw [wl_push (ρ' := va_up ρ t q) (F' := va_up F t (.inr (ci, fs))) up_self (fun j hj => up_ne hj) up_self (fun j hj => up_ne hj)] at hP1 hD1
  exact kk _ _ q up_self (fun j hj => up_ne hj) up_self (fun j hj => up_ne hj) p e s m args below meth c H1 locs A ls C hP1 hD1 hS1 hl
theorem c_iast {k n b : Nat} {f : Nat → Int32} {i v : Int32} (hk : k < t) (hb : ρ k = b) (hF : F k = .inl (h.2.2.1, n, .inl f)) (hin : vp_in i n) (hd : decode μ.2.1 pc = .ok (.iastore, 1)) (kk : ∀ F' : Nat → va_E, F' k = .inl (h.2.2.1, n, .inl (upd f i.toNatClampNeg v)) → (∀ j, j ≠ k → F' j = F j) → Cv h μ rm mc ms c0 s0 (pc + 1) L S ρ t F' Q) : Cv h μ rm mc ms c0 s0 pc L (.int v :: .int i :: .ref b :: S) ρ t F Q := by
  subst hb
  intro p e s m args below meth c H locs A ls C hP hD hS hl
  have he := wl_at (ρ := ρ) (F := F) hk
  rw [hF] at he
  refine va_iast C.1 C.2.1 C.2.2.2.2.2.2.2.1 hP hD hS k 0 he rfl hin hd (fun H1 locs1 hP1 hD1 hS1 => ?_)
  rw [wl_set (F' := va_up F k (.inl (h.2.2.1, n, .inl (upd f i.toNatClampNeg v)))) hk up_self (fun j hj => up_ne hj)] at hP1 hD1
  exact kk _ up_self (fun j hj => up_ne hj) p e s m args below meth c H1 locs1 A ls C hP1 hD1 hS1 hl
theorem c_aastP {k k2 n b a : Nat} {f : Nat → Option Nat} {fs : List Value} {i : Int32} (hk : k < t) (hb : ρ k = b) (hF : F k = .inl (h.2.2.2.1, n, .inr (.inr (.inr (.inr f))))) (hk2 : k2 < t) (ha : ρ k2 = a) (hF2 : F k2 = .inr (1, fs)) (hin : vp_in i n) (hd : decode μ.2.1 pc = .ok (.aastore, 1)) (kk : ∀ F' : Nat → va_E, F' k = .inl (h.2.2.2.1, n, .inr (.inr (.inr (.inr (va_up f i.toNatClampNeg (some a)))))) → (∀ j, j ≠ k → F' j = F j) → Cv h μ rm mc ms c0 s0 (pc + 1) L S ρ t F' Q) : Cv h μ rm mc ms c0 s0 pc L (.ref a :: .int i :: .ref b :: S) ρ t F Q := by
  subst hb
  subst ha
  intro p e s m args below meth c H locs A ls C hP hD hS hl
  have he := wl_at (ρ := ρ) (F := F) hk
  rw [hF] at he
  have he2 := wl_at (ρ := ρ) (F := F) hk2
  rw [hF2] at he2
  refine va_astq (r := (RX1, TX1, 6)) C.1 C.2.1 C.2.2.2.2.2.2.2.1 hP hD hS k 1 k2 1 he rfl he2 rfl hin hd (fun H1 locs1 hP1 hD1 hS1 => ?_)
  rw [wl_set (F' := va_up F k (.inl (h.2.2.2.1, n, .inr (.inr (.inr (.inr (va_up f i.toNatClampNeg (some (ρ k2))))))))) hk up_self (fun j hj => up_ne hj)] at hP1 hD1
  exact kk _ up_self (fun j hj => up_ne hj) p e s m args below meth c H1 locs1 A ls C hP1 hD1 hS1 hl
theorem c_aastS {k k2 n b a : Nat} {f : Nat → Option Nat} {fs : List Value} {i : Int32} (hk : k < t) (hb : ρ k = b) (hF : F k = .inl (h.2.2.2.2, n, .inr (.inr (.inr (.inr f))))) (hk2 : k2 < t) (ha : ρ k2 = a) (hF2 : F k2 = .inr (3, fs)) (hin : vp_in i n) (hd : decode μ.2.1 pc = .ok (.aastore, 1)) (kk : ∀ F' : Nat → va_E, F' k = .inl (h.2.2.2.2, n, .inr (.inr (.inr (.inr (va_up f i.toNatClampNeg (some a)))))) → (∀ j, j ≠ k → F' j = F j) → Cv h μ rm mc ms c0 s0 (pc + 1) L S ρ t F' Q) : Cv h μ rm mc ms c0 s0 pc L (.ref a :: .int i :: .ref b :: S) ρ t F Q := by
  subst hb
  subst ha
  intro p e s m args below meth c H locs A ls C hP hD hS hl
  have he := wl_at (ρ := ρ) (F := F) hk
  rw [hF] at he
  have he2 := wl_at (ρ := ρ) (F := F) hk2
  rw [hF2] at he2
  refine va_astq (r := (RX3, TX3, 3)) C.1 C.2.1 C.2.2.2.2.2.2.2.1 hP hD hS k 2 k2 3 he rfl he2 rfl hin hd (fun H1 locs1 hP1 hD1 hS1 => ?_)
  rw [wl_set (F' := va_up F k (.inl (h.2.2.2.2, n, .inr (.inr (.inr (.inr (va_up f i.toNatClampNeg (some (ρ k2))))))))) hk up_self (fun j hj => up_ne hj)] at hP1 hD1
  exact kk _ up_self (fun j hj => up_ne hj) p e s m args below meth c H1 locs1 A ls C hP1 hD1 hS1 hl
theorem cv_pre {a : Nat} {s : State} {H : Heap} {A : Nat → Prop} {p : Program} {m : MethodId} {args : Array Value} {meth : Method} {c : Code} (C : CxC h μ p s m args meth c A) (hP : va_P h.2.1 vwCl (wl ρ t F) H) (hD : va_D A (wl ρ t F)) :
    PreS s H (va_Pc [.ref a] (fun U => U.heap.size = H.size ∧ va_P h.2.1 vwCl (wl ρ t F) U.heap ∧ va_K h.2.1 vwCl (tyH h) U ∧ va_D (fun _ => True) (wl ρ t F) ∧ (∀ w ∈ nestW, va_Nw w U) ∧ va_AO RX1 U ∧ va_AO RX3 U)) [.ref a] := by
  refine ⟨fun a U f mk q => ?_, fun U hU hW => ⟨rfl, by rw [hU], by rw [hU]; exact hP, va_K.moved hW.alike C.2.2.2.2.2.2.2.1, hD.weaken (fun _ _ _ _ => trivial), nestW_warm hW C.2.2.2.2.2.2.2.2.1, va_AO.moved hW.alike C.2.2.2.2.2.2.2.2.2.1, va_AO.moved hW.alike C.2.2.2.2.2.2.2.2.2.2.1⟩⟩
  obtain ⟨q0, q1, qP, qK, qD, qN, q3, q4⟩ := q
  exact ⟨q0, q1, qP, va_K.moved (u := U) (U := U.calling f mk a) (Vm.Alike.refl U.vm) qK, qD, nestW_same (u := U) rfl qN, va_AO.moved (u := U) (U := U.calling f mk a) (Vm.Alike.refl U.vm) q3, va_AO.moved (u := U) (U := U.calling f mk a) (Vm.Alike.refl U.vm) q4⟩
theorem cv_run {p : Program} {e : Env} {s : State} {m : MethodId} {args a : Array Value} {below : List Frame} {meth : Method} {c : Code} {H : Heap} {locs : List Loc} {A : Nat → Prop} {ls : Array Slot} {st0 : List Value} {mc2 ms2 : Nat} {Q2 : (Nat → Nat) → Nat → (Nat → va_E) → Prop}
    (C : CxC h μ p s m args meth c A) (hD : va_D A (wl ρ t F)) (hS : va_S A s.heap H locs) (hl : lh (fun n => n) ls μ.2.2.1 L)
    (hr : va_Run p h.1 e (headSpec (mws μ) rm).room s m args below meth c H locs c0 s0 mc2 ms2 (F0 m pc ls st0) S (QC h Q2 (va_A (wl ρ t F) H.size) a) (va_A (wl ρ t F) H.size))
    (kk : ∀ ρ' t' F', Q2 ρ' t' F' → Cv h μ rm mc ms (c0 + mc2) (s0 + ms2) (pc + 3) L S ρ' t' F' Q) :
    W p h.1 e (headSpec (mws μ) rm).room s m args below meth c H locs c0 s0 (MQ below (QC h Q A) args s mc ms A) (F0 m pc ls st0) := by
  have hF : ∀ q, va_A (wl ρ t F) H.size q → A q := by
    intro q hq
    rcases hq with ⟨k, e, hq⟩ | hq
    · exact hD.2 k _ hq
    · exact C.2.2.2.2.2.2.2.2.2.2.2.2 q (Nat.le_trans hS.1 hq)
  intro T hT X
  obtain ⟨v, st₀, u, T', L', h0, X', hL, e1, e2, ⟨hv, ⟨ρ', t', F', hq, hP1, hD1⟩, hz, hk⟩, st⟩ := hr T hT X
  cases hv
  rw [h0] at hz hk
  have hS' : va_S A s.heap T'.heap (locs ++ L') := ⟨Nat.le_trans hS.1 (by rw [e1]; exact hz), fun q h1 h2 => by rw [e1, hk q (Nat.lt_of_lt_of_le h1 hS.1) (fun z => h2 (hF q z))]; exact hS.2.1 q h1 h2, fun q hq => by
    rcases List.mem_append.mp hq with h | h
    · exact hS.2.2 q h
    · exact hF _ (hL q h)⟩
  obtain ⟨t2, a1, b1⟩ := kk ρ' t' F' hq p e s m args below meth c T'.heap (locs ++ L') A ls C (by rw [e1]; exact hP1) (hD1.weaken (fun k q _ z => hF q.1 z)) hS' hl T' rfl X'
  exact ⟨t2, st t2 a1, b1⟩
def CI (own : String) (idx : Nat) (ν : Mt) : Prop := Cond.methodLink own idx ν.1 ∈ gtb ∧ Cond.instanceMethod ν.1 ∈ gtb ∧ Cond.initialized ν.1.cls ∈ gtb ∧ Cond.code ν.1 ν.2.1 ν.2.2.1 none ∈ gtb ∧ ν.2.2.2 = none ∧ ν.1.name = "<init>" ∧ nmOk ν.1 0
def CIN (own : String) (idx : Nat) (ν : Mt) : Prop := (∃ host, Cond.methodLinkNest own idx ν.1 host ∈ nestW) ∧ Cond.instanceMethod ν.1 ∈ gtb ∧ Cond.initialized ν.1.cls ∈ gtb ∧ Cond.code ν.1 ν.2.1 ν.2.2.1 none ∈ gtb ∧ ν.2.2.2 = none ∧ ν.1.name = "<init>" ∧ nmOk ν.1 0
theorem c_callI {idx a : Nat} {ν : Mt} {rm2 : Room} {mc2 ms2 : Nat} {Q2 : (Nat → Nat) → Nat → (Nat → va_E) → Prop} (ci : CI μ.1.cls idx ν) (hR : rm2.frames + 1 ≤ rm.frames ∧ 8 + (ν.2.2.1 + 11) + rm2.locals ≤ rm.locals) (h1 : rm2.cells = mc2) (h2 : rm2.slots = ms2) (hc : c0 + mc2 ≤ rm.cells ∧ s0 + ms2 ≤ rm.slots) (h8 : (S.map fun v => v.category).sum ≤ 8) (hd : decode μ.2.1 pc = .ok (.invokespecial idx, 3)) (hM : CvM h ν rm2 mc2 ms2 [.ref a] ρ t F Q2) (kk : ∀ ρ' t' F', Q2 ρ' t' F' → Cv h μ rm mc ms (c0 + mc2) (s0 + ms2) (pc + 3) L S ρ' t' F' Q) : Cv h μ rm mc ms c0 s0 pc L (.ref a :: S) ρ t F Q := by
  intro p e s m args below meth c H locs A ls C hP hD hS hl
  obtain ⟨c1, c2, c3, c4, c5, c6, c7⟩ := ci
  have hts := C.2.2.2.2.2.2.1
  have hg : GoodIn (mws μ) (mws ν) := mws_good (by rw [c5]; exact c4)
  have hw : mws ν = Cond.code ν.1 ν.2.1 ν.2.2.1 none :: gtb := by unfold mws; rw [c5]
  refine cv_run C hD hS hl (va_runI (As := []) (rest := S) ⟨C.1, C.2.1, C.2.2.1, C.2.2.2.2.2.1, hts⟩ (hM H.size) ⟨callB_of 0 hts hg hw h1 h2 (hts _ (mws_in c3)) (hts _ (mws_in c1)) c7 hR, c6, hts _ (mws_in c2)⟩ (cv_pre C hP hD) rfl rfl hl.1 rfl (lv_room h8) hd hc) kk
theorem c_callN {idx a : Nat} {ν : Mt} {rm2 : Room} {mc2 ms2 : Nat} {Q2 : (Nat → Nat) → Nat → (Nat → va_E) → Prop} (ci : CIN μ.1.cls idx ν) (hR : rm2.frames + 1 ≤ rm.frames ∧ 8 + (ν.2.2.1 + 11) + rm2.locals ≤ rm.locals) (h1 : rm2.cells = mc2) (h2 : rm2.slots = ms2) (hc : c0 + mc2 ≤ rm.cells ∧ s0 + ms2 ≤ rm.slots) (h8 : (S.map fun v => v.category).sum ≤ 8) (hd : decode μ.2.1 pc = .ok (.invokespecial idx, 3)) (hM : CvM h ν rm2 mc2 ms2 [.ref a] ρ t F Q2) (kk : ∀ ρ' t' F', Q2 ρ' t' F' → Cv h μ rm mc ms (c0 + mc2) (s0 + ms2) (pc + 3) L S ρ' t' F' Q) : Cv h μ rm mc ms c0 s0 pc L (.ref a :: S) ρ t F Q := by
  intro p e s m args below meth c H locs A ls C hP hD hS hl
  obtain ⟨⟨host, c1⟩, c2, c3, c4, c5, c6, c7⟩ := ci
  have hts := C.2.2.2.2.2.2.1
  have hg : GoodIn (mws μ) (mws ν) := mws_good (by rw [c5]; exact c4)
  have hw : mws ν = Cond.code ν.1 ν.2.1 ν.2.2.1 none :: gtb := by unfold mws; rw [c5]
  refine cv_run C hD hS hl (va_runIN (As := []) (rest := S) ⟨C.1, C.2.1, C.2.2.1, C.2.2.2.2.2.1, hts⟩ (hM H.size) ⟨va_cnB 0 hts hg hw h1 h2 (C.2.2.2.2.2.2.2.2.1 _ c1) (hts _ (mws_in c3)) c7 hR, c6, hts _ (mws_in c2)⟩ (cv_pre C hP hD) rfl rfl hl.1 rfl (lv_room h8) hd hc) kk
end CR
