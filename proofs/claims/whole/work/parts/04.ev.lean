/-! Ev and its rows -/
def nestW : List Cond := [.methodLinkNest RX0 89 yX5_spiltBetween RX5, .methodLinkNest RX2 108 yX5_spiltBetween RX5, .fieldLinkNest RX1 37 RX5 "KIND_ABOVE" "[I" RX5, .methodLinkNest RX2 58 yX1_init RX5, .methodLinkNest RX5 28 yX4_init RX5, .methodLinkNest RX5 50 yX3_init RX5]
def strIx : List (Nat × String) := [(93, "deep"), (95, "spring"), (97, "tired"), (99, "shared"), (101, "morning"), (103, "faint"), (105, "pump"), (79, "at"), (81, "gives"), (83, "fails"), (52, "room"), (67, "spills"), (71, "water"), (75, "drought")]
def strLen : List Nat := [4, 6, 5, 6, 7, 5, 4, 2, 5, 5, 4, 6, 5, 7]
def strByt : List (List Int32) := [[100, 101, 101, 112], [115, 112, 114, 105, 110, 103], [116, 105, 114, 101, 100], [115, 104, 97, 114, 101, 100], [109, 111, 114, 110, 105, 110, 103], [102, 97, 105, 110, 116], [112, 117, 109, 112], [97, 116], [103, 105, 118, 101, 115], [102, 97, 105, 108, 115], [114, 111, 111, 109], [115, 112, 105, 108, 108, 115], [119, 97, 116, 101, 114], [100, 114, 111, 117, 103, 104, 116]]
def kAbove : List Int32 := [-1, 0, 0, 0, 1, 0, 3]
/-- what is known beside the world: links of nest mates, string constants, statics -/
def Sg (g : Gt) (A : Nat → Prop) (U : State) (H : Heap) : Prop :=
  (∀ w ∈ nestW, va_Nw w U) ∧ vk_S 14 strLen strByt (gS g) (gV g) A U H ∧ (∀ (i : Nat) (q : Nat × String), strIx[i]? = some q → vk_R RX4 q.1 q.2 (gS g i) U) ∧
  va_Z "java/lang/String" "COMPACT_STRINGS" "Z" (.int 1) A U H ∧ (va_Z "jdk/internal/util/Preconditions" "SIOOBE_FORMATTER" "Ljava/util/function/BiFunction;" .null A U H ∨ va_Z "jdk/internal/util/Preconditions" "SIOOBE_FORMATTER" "Ljava/util/function/BiFunction;" (.ref (gp g 998)) A U H) ∧
  va_Z RX5 "KIND_ABOVE" "[I" (.ref (gT g)) A U H ∧ va_T .int (gT g) 7 (fun j => .int (kAbove.getD j 0)) A U H ∧ (gp g 999 = gT g ∧ ∀ i, i < 14 → gp g (1000 + i) = gS g i ∧ gp g (2000 + i) = gV g i)
theorem nestW_warm {s U : State} (hW : s.WarmedH U.vm) (h : ∀ w ∈ nestW, va_Nw w s) : ∀ w ∈ nestW, va_Nw w U := by
  intro w hw
  have h0 := h w hw
  simp only [nestW, List.mem_cons, List.not_mem_nil, or_false] at hw
  rcases hw with rfl | rfl | rfl | rfl | rfl | rfl
  · exact va_Nw.warmM hW h0
  · exact va_Nw.warmM hW h0
  · exact va_Nw.warmF hW h0
  · exact va_Nw.warmM hW h0
  · exact va_Nw.warmM hW h0
  · exact va_Nw.warmM hW h0
theorem nestW_same {u U : State} (hv : u.vm = U.vm) (h : ∀ w ∈ nestW, va_Nw w u) : ∀ w ∈ nestW, va_Nw w U := by
  intro w hw
  have h0 := h w hw
  simp only [nestW, List.mem_cons, List.not_mem_nil, or_false] at hw
  rcases hw with rfl | rfl | rfl | rfl | rfl | rfl <;> exact va_Nw.same rfl hv h0
theorem Sg.move {g : Gt} {A B : Nat → Prop} {s U : State} {H : Heap} {locs : List Loc} (h : Sg g A s s.heap) (hW : s.WarmedH U.vm) (hU : U.heap = H) (hS : va_S A s.heap H locs) (hAB : ∀ q, B q → A q) : Sg g B U U.heap := by
  obtain ⟨h1, h2, h3, h4, h5, h6, h7, h8⟩ := h
  subst hU
  exact ⟨nestW_warm hW h1, ((h2.kept hS.2.1).narrow hAB).moved hW.alike, fun i q hq => (h3 i q hq).warm hW, va_Z.moved hW.alike ((h4.kept hS.2.1).narrow hAB), h5.imp (fun h5 => va_Z.moved hW.alike ((h5.kept hS.2.1).narrow hAB)) (fun h5 => va_Z.moved hW.alike ((h5.kept hS.2.1).narrow hAB)), va_Z.moved hW.alike ((h6.kept hS.2.1).narrow hAB), va_T.moved hW.alike ((h7.kept hS.2.1).narrow hAB), h8⟩
theorem Sg.calling {g : Gt} {A : Nat → Prop} {U : State} {f : JFrame} {mk : MethodId} {a : Array Value} (h : Sg g A U U.heap) : Sg g A (U.calling f mk a) (U.calling f mk a).heap := by
  obtain ⟨h1, h2, h3, h4, h5, h6, h7, h8⟩ := h
  have e : U.vm.Alike (U.calling f mk a).vm := Vm.Alike.refl U.vm
  exact ⟨nestW_same (u := U) rfl h1, vk_S.moved e h2, fun i q hq => (h3 i q hq).same rfl, va_Z.moved e h4, h5.imp (fun h5 => va_Z.moved e h5) (fun h5 => va_Z.moved e h5), va_Z.moved e h6, va_T.moved e h7, h8⟩
/-- the end of a method: its answer, the memory behind it -/
def Qof (g : Gt) (Q : Option Value → Me → Prop) (A : Nat → Prop) : Array Value → State → Outcome → State → Prop := fun _ st oc t =>
  (∃ (r : Option Value) (M' : Me), oc = .returned (r.map (rv (gp g))) ∧ Q r M' ∧ va_P (gD g) vwCl (wd g M') t.heap ∧ va_K (gD g) vwCl (tysG g) t ∧ va_D A (wd g M')) ∧ va_F A st t
def Cx (g : Gt) (μ : Mt) (p : Program) (s : State) (m : MethodId) (args : Array Value) (meth : Method) (c : Code) (A : Nat → Prop) : Prop :=
  p.tables.exec = Jvm.exec ∧ c.code = μ.2.1 ∧ c.maxLocals = μ.2.2.1 ∧ meth.sig.returnType = μ.2.2.2 ∧ meth.locks = false ∧ s.vm.findClass μ.1.cls = some m.cls ∧ (∀ w ∈ mws μ, w.before args s = true) ∧ va_K (gD g) vwCl (tysG g) s ∧ (∀ q : Nat, s.heap.size ≤ q → A q) ∧ Sg g A s s.heap
theorem Cx.ex {g : Gt} {μ : Mt} {p : Program} {s : State} {m : MethodId} {args : Array Value} {meth : Method} {c : Code} {A : Nat → Prop} (C : Cx g μ p s m args meth c A) : p.tables.exec = Jvm.exec := C.1
theorem Cx.by_ {g : Gt} {μ : Mt} {p : Program} {s : State} {m : MethodId} {args : Array Value} {meth : Method} {c : Code} {A : Nat → Prop} (C : Cx g μ p s m args meth c A) : c.code = μ.2.1 := C.2.1
theorem Cx.ml {g : Gt} {μ : Mt} {p : Program} {s : State} {m : MethodId} {args : Array Value} {meth : Method} {c : Code} {A : Nat → Prop} (C : Cx g μ p s m args meth c A) : c.maxLocals = μ.2.2.1 := C.2.2.1
theorem Cx.re {g : Gt} {μ : Mt} {p : Program} {s : State} {m : MethodId} {args : Array Value} {meth : Method} {c : Code} {A : Nat → Prop} (C : Cx g μ p s m args meth c A) : meth.sig.returnType = μ.2.2.2 := C.2.2.2.1
theorem Cx.lk {g : Gt} {μ : Mt} {p : Program} {s : State} {m : MethodId} {args : Array Value} {meth : Method} {c : Code} {A : Nat → Prop} (C : Cx g μ p s m args meth c A) : meth.locks = false := C.2.2.2.2.1
theorem Cx.ow {g : Gt} {μ : Mt} {p : Program} {s : State} {m : MethodId} {args : Array Value} {meth : Method} {c : Code} {A : Nat → Prop} (C : Cx g μ p s m args meth c A) : s.vm.findClass μ.1.cls = some m.cls := C.2.2.2.2.2.1
theorem Cx.ts {g : Gt} {μ : Mt} {p : Program} {s : State} {m : MethodId} {args : Array Value} {meth : Method} {c : Code} {A : Nat → Prop} (C : Cx g μ p s m args meth c A) : ∀ w ∈ mws μ, w.before args s = true := C.2.2.2.2.2.2.1
theorem Cx.gt {g : Gt} {μ : Mt} {p : Program} {s : State} {m : MethodId} {args : Array Value} {meth : Method} {c : Code} {A : Nat → Prop} (C : Cx g μ p s m args meth c A) {w : Cond} (h : w ∈ gtb) : w.before args s = true := C.ts w (mws_in h)
theorem Cx.K {g : Gt} {μ : Mt} {p : Program} {s : State} {m : MethodId} {args : Array Value} {meth : Method} {c : Code} {A : Nat → Prop} (C : Cx g μ p s m args meth c A) : va_K (gD g) vwCl (tysG g) s := C.2.2.2.2.2.2.2.1
theorem Cx.A0 {g : Gt} {μ : Mt} {p : Program} {s : State} {m : MethodId} {args : Array Value} {meth : Method} {c : Code} {A : Nat → Prop} (C : Cx g μ p s m args meth c A) : ∀ q : Nat, s.heap.size ≤ q → A q := C.2.2.2.2.2.2.2.2.1
theorem Cx.G {g : Gt} {μ : Mt} {p : Program} {s : State} {m : MethodId} {args : Array Value} {meth : Method} {c : Code} {A : Nat → Prop} (C : Cx g μ p s m args meth c A) : Sg g A s s.heap := C.2.2.2.2.2.2.2.2.2
/-- from this frame the method comes to its end with Q -/
def Ev (g : Gt) (μ : Mt) (fr lo pc : Nat) (L : List (Option Value)) (S : List Value) (M : Me) (Q : Option Value → Me → Prop) : Prop :=
  ∀ (p : Program) (e : Env) (s : State) (m : MethodId) (args : Array Value) (below : List Frame) (meth : Method) (c : Code) (H : Heap) (locs : List Loc) (A : Nat → Prop) (ls : Array Slot),
    Cx g μ p s m args meth c A → va_P (gD g) vwCl (wd g M) H → va_D A (wd g M) → va_S A s.heap H locs → lh (gp g) ls μ.2.2.1 L →
    W p (gl g) e (headSpec (mws μ) (rmOf fr lo)).room s m args below meth c H locs 0 0 (MQ below (Qof g Q A) args s 0 0 A) (F0 m pc ls (S.map (rv (gp g))))
/-- a method's contract at these arguments and this memory -/
def EvM (g : Gt) (μ : Mt) (fr lo : Nat) (as : List Value) (M : Me) (Q : Option Value → Me → Prop) : Prop :=
  ∀ sz : Nat, Met (gl g) μ.1 (mws μ) (rmOf fr lo) (va_Pc (as.map (rv (gp g))) (fun U => U.heap.size = sz ∧ va_P (gD g) vwCl (wd g M) U.heap ∧ va_K (gD g) vwCl (tysG g) U ∧ va_D (fun _ => True) (wd g M) ∧ Sg g (va_A (wd g M) sz) U U.heap)) (Qof g Q (va_A (wd g M) sz)) 0 0 (va_A (wd g M) sz)
theorem entL_in (ρ : Nat → Nat) : ∀ (as : List Value) (i j : Nat) (v : Value), (entL as)[j]? = some (some v) → (i + j, rv ρ v) ∈ lv_args i (as.map (rv ρ))
  | [], i, j, v, h => by simp [entL] at h
  | a :: t, i, j, v, h => by
    cases a with
    | long x =>
      match j, h with
      | 0, h =>
        simp [entL] at h
        subst h
        exact List.mem_cons_self
      | 1, h => simp [entL] at h
      | j + 2, h =>
        simp [entL] at h
        have h2 := entL_in ρ t (i + 2) j v h
        refine List.mem_cons_of_mem _ ?_
        rw [show i + (j + 2) = i + 2 + j by omega]
        exact h2
    | double x =>
      match j, h with
      | 0, h =>
        simp [entL] at h
        subst h
        exact List.mem_cons_self
      | 1, h => simp [entL] at h
      | j + 2, h =>
        simp [entL] at h
        have h2 := entL_in ρ t (i + 2) j v h
        refine List.mem_cons_of_mem _ ?_
        rw [show i + (j + 2) = i + 2 + j by omega]
        exact h2
    | int x =>
      match j, h with
      | 0, h => simp [entL] at h; subst h; exact List.mem_cons_self
      | j + 1, h =>
        simp [entL] at h
        have h2 := entL_in ρ t (i + 1) j v h
        refine List.mem_cons_of_mem _ ?_
        rw [show i + (j + 1) = i + 1 + j by omega]
        exact h2
    | float x =>
      match j, h with
      | 0, h => simp [entL] at h; subst h; exact List.mem_cons_self
      | j + 1, h =>
        simp [entL] at h
        have h2 := entL_in ρ t (i + 1) j v h
        refine List.mem_cons_of_mem _ ?_
        rw [show i + (j + 1) = i + 1 + j by omega]
        exact h2
    | null =>
      match j, h with
      | 0, h => simp [entL] at h; subst h; exact List.mem_cons_self
      | j + 1, h =>
        simp [entL] at h
        have h2 := entL_in ρ t (i + 1) j v h
        refine List.mem_cons_of_mem _ ?_
        rw [show i + (j + 1) = i + 1 + j by omega]
        exact h2
    | ref x =>
      match j, h with
      | 0, h => simp [entL] at h; subst h; exact List.mem_cons_self
      | j + 1, h =>
        simp [entL] at h
        have h2 := entL_in ρ t (i + 1) j v h
        refine List.mem_cons_of_mem _ ?_
        rw [show i + (j + 1) = i + 1 + j by omega]
        exact h2
    | retAddr x =>
      match j, h with
      | 0, h => simp [entL] at h; subst h; exact List.mem_cons_self
      | j + 1, h =>
        simp [entL] at h
        have h2 := entL_in ρ t (i + 1) j v h
        refine List.mem_cons_of_mem _ ?_
        rw [show i + (j + 1) = i + 1 + j by omega]
        exact h2
theorem lh_entry {ρ : Nat → Nat} {as : List Value} {n k : Nat} {ls : Array Slot} (h : lv_has ls n (lv_args 0 (as.map (rv ρ)))) : lh ρ ls n (entL as ++ List.replicate k none) := by
  refine ⟨h.1, h.2.1, fun i v hv => ?_⟩
  by_cases hi : i < (entL as).length
  · rw [List.getElem?_append_left hi] at hv
    have h2 := entL_in ρ as 0 i v hv
    rw [Nat.zero_add] at h2
    exact h.2.2 _ h2
  · rw [List.getElem?_append_right (by omega)] at hv
    have h3 := List.mem_of_getElem? hv
    rw [List.mem_replicate] at h3
    cases h3.2
theorem lg_len (ρ : Nat → Nat) (as : List Value) : (lg_sl (as.map (rv ρ))).length = (entL as).length := by
  induction as with
  | nil => rfl
  | cons a t ih =>
    have e : lg_sl ((a :: t).map (rv ρ)) = (if (rv ρ a).category = 2 then [.val (rv ρ a), .second] else [.val (rv ρ a)]) ++ lg_sl (t.map (rv ρ)) := by simp [lg_sl]
    rw [e, List.length_append, ih]
    cases a <;> simp [entL, rv, Value.category] <;> omega
theorem evm_of {g : Gt} {μ : Mt} {fr lo : Nat} {as : List Value} {M : Me} {Q : Option Value → Me → Prop} (L : List (Option Value)) (k : Nat) (hy : plainName μ.1.cls = true) (hn : (entL as).length ≤ μ.2.2.1) (hL : entL as ++ List.replicate k none = L) (h : Ev g μ fr lo 0 L [] M Q) : EvM g μ fr lo as M Q := by
  intro sz
  refine Met.ofW (cc := μ.2.1) (maxL := μ.2.2.1) (ret := μ.2.2.2) hy rfl ?_
  intro p e s m args below meth c s₁ B hml hv
  obtain ⟨rfl, hsz, hP, hK, hD0, hG⟩ := hv
  have hx := B.exec
  have hb := B.bytes
  have hr := B.returns
  have hts := atoms_spec (ws := mws μ) B.pre
  have hown : s.vm.findClass μ.1.cls = some m.cls := findClass_of_methodNamed B.named
  have hlocks := B.notSynchronized
  subst hsz
  have hD := hD0.self (sz := s.heap.size)
  rw [lg_entry_eq]
  have hl := lv_entry (as.map (rv (gp g))) (n := μ.2.2.1) (by rw [lg_len]; exact hn)
  subst hL
  exact h p e s m _ below meth c s.heap [] (va_A (wd g M) s.heap.size) _ ⟨hx, hb, hml, hr, hlocks, hown, hts, hK, fun q h => Or.inr h, hG⟩ hP hD va_S.rf (lh_entry hl)
section ER
variable {g : Gt} {μ : Mt} {fr lo pc : Nat} {L L' : List (Option Value)} {S : List Value} {M : Me} {Q : Option Value → Me → Prop}
theorem e_forget (L0 : List (Option Value)) (hl : leL L0 L) (k : Ev g μ fr lo pc L0 S M Q) : Ev g μ fr lo pc L S M Q :=
  fun p e s m args below meth c H locs A ls C hP hD hS h => k p e s m args below meth c H locs A ls C hP hD hS (lh_le h hl)
theorem e_iconst {n : Int} (v : Int32) (hd : decode μ.2.1 pc = .ok (.iconst n, 1)) (hv : Int32.ofInt n = v) (k : Ev g μ fr lo (pc + 1) L (.int v :: S) M Q) : Ev g μ fr lo pc L S M Q :=
  fun p e s m args below meth c H locs A ls C hP hD hS h => lv_iconst C.ex C.by_ hd hv (k p e s m args below meth c H locs A ls C hP hD hS h)
theorem e_bipush {n : Int} (v : Int32) (hd : decode μ.2.1 pc = .ok (.bipush n, 2)) (hv : (Int8.ofInt n).toInt32 = v) (k : Ev g μ fr lo (pc + 2) L (.int v :: S) M Q) : Ev g μ fr lo pc L S M Q :=
  fun p e s m args below meth c H locs A ls C hP hD hS h => lv_bipush C.ex C.by_ hd hv (k p e s m args below meth c H locs A ls C hP hD hS h)
theorem e_sipush {n : Int} (v : Int32) (hd : decode μ.2.1 pc = .ok (.sipush n, 3)) (hv : (Int16.ofInt n).toInt32 = v) (k : Ev g μ fr lo (pc + 3) L (.int v :: S) M Q) : Ev g μ fr lo pc L S M Q :=
  fun p e s m args below meth c H locs A ls C hP hD hS h => lv_sipush C.ex C.by_ hd hv (k p e s m args below meth c H locs A ls C hP hD hS h)
theorem e_lconst {n : Fin 2} (v : Int64) (hd : decode μ.2.1 pc = .ok (.lconst n, 1)) (hv : Int64.ofNat (n : Nat) = v) (k : Ev g μ fr lo (pc + 1) L (.long v :: S) M Q) : Ev g μ fr lo pc L S M Q :=
  fun p e s m args below meth c H locs A ls C hP hD hS h => lv_lconst C.ex C.by_ hd hv (k p e s m args below meth c H locs A ls C hP hD hS h)
theorem e_ldc {idx : Nat} {v : Int32} (hc : Cond.constant μ.1.cls idx v ∈ gtb) (hd : decode μ.2.1 pc = .ok (.ldc idx, 2)) (k : Ev g μ fr lo (pc + 2) L (.int v :: S) M Q) : Ev g μ fr lo pc L S M Q :=
  fun p e s m args below meth c H locs A ls C hP hD hS h => lv_ldc C.ex C.by_ C.ow (C.gt hc) hd (k p e s m args below meth c H locs A ls C hP hD hS h)
theorem e_ldcw {idx : Nat} {v : Int32} (hc : Cond.constant μ.1.cls idx v ∈ gtb) (hd : decode μ.2.1 pc = .ok (.ldc_w idx, 3)) (k : Ev g μ fr lo (pc + 3) L (.int v :: S) M Q) : Ev g μ fr lo pc L S M Q :=
  fun p e s m args below meth c H locs A ls C hP hD hS h => lv_ldcw C.ex C.by_ C.ow (C.gt hc) hd (k p e s m args below meth c H locs A ls C hP hD hS h)
theorem e_ldc2 {idx : Nat} {v : Int64} (hc : Cond.constantLong μ.1.cls idx v ∈ gtb) (hd : decode μ.2.1 pc = .ok (.ldc2_w idx, 3)) (k : Ev g μ fr lo (pc + 3) L (.long v :: S) M Q) : Ev g μ fr lo pc L S M Q :=
  fun p e s m args below meth c H locs A ls C hP hD hS h => lv_ldc2 C.ex C.by_ C.ow (C.gt hc) hd (k p e s m args below meth c H locs A ls C hP hD hS h)
theorem e_iload_n {q : Fin 4} {x : Int32} (hd : decode μ.2.1 pc = .ok (.iload_n q, 1)) (hl : L[(q : Nat)]? = some (some (.int x))) (k : Ev g μ fr lo (pc + 1) L (.int x :: S) M Q) : Ev g μ fr lo pc L S M Q :=
  fun p e s m args below meth c H locs A ls C hP hD hS h => lv_iload_n C.ex C.by_ hd rfl (h.2.2 _ _ hl) (k p e s m args below meth c H locs A ls C hP hD hS h)
theorem e_iload {i : Nat} {x : Int32} (hd : decode μ.2.1 pc = .ok (.iload i, 2)) (hl : L[i]? = some (some (.int x))) (k : Ev g μ fr lo (pc + 2) L (.int x :: S) M Q) : Ev g μ fr lo pc L S M Q :=
  fun p e s m args below meth c H locs A ls C hP hD hS h => lv_iload C.ex C.by_ hd (h.2.2 _ _ hl) (k p e s m args below meth c H locs A ls C hP hD hS h)
theorem e_lload_n {q : Fin 4} {x : Int64} (hd : decode μ.2.1 pc = .ok (.lload_n q, 1)) (hl : L[(q : Nat)]? = some (some (.long x))) (k : Ev g μ fr lo (pc + 1) L (.long x :: S) M Q) : Ev g μ fr lo pc L S M Q :=
  fun p e s m args below meth c H locs A ls C hP hD hS h => lv_lload_n C.ex C.by_ hd rfl (h.2.2 _ _ hl) (k p e s m args below meth c H locs A ls C hP hD hS h)
theorem e_lload {i : Nat} {x : Int64} (hd : decode μ.2.1 pc = .ok (.lload i, 2)) (hl : L[i]? = some (some (.long x))) (k : Ev g μ fr lo (pc + 2) L (.long x :: S) M Q) : Ev g μ fr lo pc L S M Q :=
  fun p e s m args below meth c H locs A ls C hP hD hS h => lv_lload C.ex C.by_ hd (h.2.2 _ _ hl) (k p e s m args below meth c H locs A ls C hP hD hS h)
theorem e_aload_n {q : Fin 4} {x : Nat} (hd : decode μ.2.1 pc = .ok (.aload_n q, 1)) (hl : L[(q : Nat)]? = some (some (.ref x))) (k : Ev g μ fr lo (pc + 1) L (.ref x :: S) M Q) : Ev g μ fr lo pc L S M Q :=
  fun p e s m args below meth c H locs A ls C hP hD hS h => lv_aload_n C.ex C.by_ hd rfl (h.2.2 _ _ hl) (k p e s m args below meth c H locs A ls C hP hD hS h)
theorem e_aload {i : Nat} {x : Nat} (hd : decode μ.2.1 pc = .ok (.aload i, 2)) (hl : L[i]? = some (some (.ref x))) (k : Ev g μ fr lo (pc + 2) L (.ref x :: S) M Q) : Ev g μ fr lo pc L S M Q :=
  fun p e s m args below meth c H locs A ls C hP hD hS h => lv_aload C.ex C.by_ hd (h.2.2 _ _ hl) (k p e s m args below meth c H locs A ls C hP hD hS h)
theorem e_istore_n {q : Fin 4} {x : Int32} (hd : decode μ.2.1 pc = .ok (.istore_n q, 1)) (hn : (q : Nat) < μ.2.2.1) (hL : stL L (q : Nat) (.int x) = L') (k : Ev g μ fr lo (pc + 1) L' S M Q) : Ev g μ fr lo pc L (.int x :: S) M Q :=
  fun p e s m args below meth c H locs A ls C hP hD hS h => lv_istore_n C.ex C.by_ hd rfl (lh_has h) hn rfl (fun ls' h' => k p e s m args below meth c H locs A ls' C hP hD hS (hL ▸ lh_st (v := .int x) h'))
theorem e_istore {i : Nat} {x : Int32} (hd : decode μ.2.1 pc = .ok (.istore i, 2)) (hn : i < μ.2.2.1) (hL : stL L i (.int x) = L') (k : Ev g μ fr lo (pc + 2) L' S M Q) : Ev g μ fr lo pc L (.int x :: S) M Q :=
  fun p e s m args below meth c H locs A ls C hP hD hS h => lv_istore C.ex C.by_ hd (lh_has h) hn rfl (fun ls' h' => k p e s m args below meth c H locs A ls' C hP hD hS (hL ▸ lh_st (v := .int x) h'))
theorem e_lstore_n {q : Fin 4} {x : Int64} (hd : decode μ.2.1 pc = .ok (.lstore_n q, 1)) (hn : (q : Nat) + 1 < μ.2.2.1) (hL : stL2 L (q : Nat) (.long x) = L') (k : Ev g μ fr lo (pc + 1) L' S M Q) : Ev g μ fr lo pc L (.long x :: S) M Q :=
  fun p e s m args below meth c H locs A ls C hP hD hS h => lv_lstore_n C.ex C.by_ hd rfl (lh_has h) hn rfl (fun ls' h' => k p e s m args below meth c H locs A ls' C hP hD hS (hL ▸ lh_st2 (v := .long x) h'))
theorem e_lstore {i : Nat} {x : Int64} (hd : decode μ.2.1 pc = .ok (.lstore i, 2)) (hn : i + 1 < μ.2.2.1) (hL : stL2 L i (.long x) = L') (k : Ev g μ fr lo (pc + 2) L' S M Q) : Ev g μ fr lo pc L (.long x :: S) M Q :=
  fun p e s m args below meth c H locs A ls C hP hD hS h => lv_lstore C.ex C.by_ hd (lh_has h) hn rfl (fun ls' h' => k p e s m args below meth c H locs A ls' C hP hD hS (hL ▸ lh_st2 (v := .long x) h'))
theorem e_astore_n {q : Fin 4} {x : Nat} (hd : decode μ.2.1 pc = .ok (.astore_n q, 1)) (hn : (q : Nat) < μ.2.2.1) (hL : stL L (q : Nat) (.ref x) = L') (k : Ev g μ fr lo (pc + 1) L' S M Q) : Ev g μ fr lo pc L (.ref x :: S) M Q :=
  fun p e s m args below meth c H locs A ls C hP hD hS h => lv_astore_n C.ex C.by_ hd rfl (lh_has h) hn rfl (fun ls' h' => k p e s m args below meth c H locs A ls' C hP hD hS (hL ▸ lh_st (v := .ref x) h'))
theorem e_astore {i : Nat} {x : Nat} (hd : decode μ.2.1 pc = .ok (.astore i, 2)) (hn : i < μ.2.2.1) (hL : stL L i (.ref x) = L') (k : Ev g μ fr lo (pc + 2) L' S M Q) : Ev g μ fr lo pc L (.ref x :: S) M Q :=
  fun p e s m args below meth c H locs A ls C hP hD hS h => lv_astore C.ex C.by_ hd (lh_has h) hn rfl (fun ls' h' => k p e s m args below meth c H locs A ls' C hP hD hS (hL ▸ lh_st (v := .ref x) h'))
theorem e_iinc {i : Nat} {n : Int} {x : Int32} (v : Int32) (hd : decode μ.2.1 pc = .ok (.iinc i n, 3)) (hl : L[i]? = some (some (.int x))) (hv : x + Int32.ofInt n = v) (hn : i < μ.2.2.1) (hL : stL L i (.int v) = L') (k : Ev g μ fr lo (pc + 3) L' S M Q) : Ev g μ fr lo pc L S M Q := by
  intro p e s m args below meth c H locs A ls C hP hD hS h
  obtain ⟨j, hj⟩ := List.getElem?_of_mem (lvL_mem (q := (i, .int x)).mpr ⟨_, hl, rfl⟩ : (i, Value.int x) ∈ lvL (gp g) L)
  exact lv_iinc C.ex C.by_ hd (lh_has h) (k := j) hj hv hn rfl (fun ls' h' => k p e s m args below meth c H locs A ls' C hP hD hS (hL ▸ lh_st (v := .int v) h'))
theorem e_iadd {x y : Int32} (hd : decode μ.2.1 pc = .ok (.iadd, 1)) (k : Ev g μ fr lo (pc + 1) L (.int (x + y) :: S) M Q) : Ev g μ fr lo pc L (.int y :: .int x :: S) M Q :=
  fun p e s m args below meth c H locs A ls C hP hD hS h => lv_iadd C.ex C.by_ hd (k p e s m args below meth c H locs A ls C hP hD hS h)
theorem e_isub {x y : Int32} (hd : decode μ.2.1 pc = .ok (.isub, 1)) (k : Ev g μ fr lo (pc + 1) L (.int (x - y) :: S) M Q) : Ev g μ fr lo pc L (.int y :: .int x :: S) M Q :=
  fun p e s m args below meth c H locs A ls C hP hD hS h => lv_isub C.ex C.by_ hd (k p e s m args below meth c H locs A ls C hP hD hS h)
theorem e_imul {x y : Int32} (hd : decode μ.2.1 pc = .ok (.imul, 1)) (k : Ev g μ fr lo (pc + 1) L (.int (x * y) :: S) M Q) : Ev g μ fr lo pc L (.int y :: .int x :: S) M Q :=
  fun p e s m args below meth c H locs A ls C hP hD hS h => lv_imul C.ex C.by_ hd (k p e s m args below meth c H locs A ls C hP hD hS h)
theorem e_idiv {x y : Int32} (hd : decode μ.2.1 pc = .ok (.idiv, 1)) (hy : ¬ y = 0) (k : Ev g μ fr lo (pc + 1) L (.int (x / y) :: S) M Q) : Ev g μ fr lo pc L (.int y :: .int x :: S) M Q :=
  fun p e s m args below meth c H locs A ls C hP hD hS h => lv_idiv C.ex C.by_ hd hy (k p e s m args below meth c H locs A ls C hP hD hS h)
theorem e_irem {x y : Int32} (hd : decode μ.2.1 pc = .ok (.irem, 1)) (hy : ¬ y = 0) (k : Ev g μ fr lo (pc + 1) L (.int (x - x / y * y) :: S) M Q) : Ev g μ fr lo pc L (.int y :: .int x :: S) M Q :=
  fun p e s m args below meth c H locs A ls C hP hD hS h => lv_irem C.ex C.by_ hd hy (k p e s m args below meth c H locs A ls C hP hD hS h)
theorem e_iand {x y : Int32} (hd : decode μ.2.1 pc = .ok (.iand, 1)) (k : Ev g μ fr lo (pc + 1) L (.int (x &&& y) :: S) M Q) : Ev g μ fr lo pc L (.int y :: .int x :: S) M Q :=
  fun p e s m args below meth c H locs A ls C hP hD hS h => lv_iand C.ex C.by_ hd (k p e s m args below meth c H locs A ls C hP hD hS h)
theorem e_ior {x y : Int32} (hd : decode μ.2.1 pc = .ok (.ior, 1)) (k : Ev g μ fr lo (pc + 1) L (.int (x ||| y) :: S) M Q) : Ev g μ fr lo pc L (.int y :: .int x :: S) M Q :=
  fun p e s m args below meth c H locs A ls C hP hD hS h => lv_ior C.ex C.by_ hd (k p e s m args below meth c H locs A ls C hP hD hS h)
theorem e_ixor {x y : Int32} (hd : decode μ.2.1 pc = .ok (.ixor, 1)) (k : Ev g μ fr lo (pc + 1) L (.int (x ^^^ y) :: S) M Q) : Ev g μ fr lo pc L (.int y :: .int x :: S) M Q :=
  fun p e s m args below meth c H locs A ls C hP hD hS h => lv_ixor C.ex C.by_ hd (k p e s m args below meth c H locs A ls C hP hD hS h)
theorem e_ishl {x y : Int32} (hd : decode μ.2.1 pc = .ok (.ishl, 1)) (k : Ev g μ fr lo (pc + 1) L (.int (x <<< (y &&& 31)) :: S) M Q) : Ev g μ fr lo pc L (.int y :: .int x :: S) M Q :=
  fun p e s m args below meth c H locs A ls C hP hD hS h => lv_ishl C.ex C.by_ hd (k p e s m args below meth c H locs A ls C hP hD hS h)
theorem e_ishr {x y : Int32} (hd : decode μ.2.1 pc = .ok (.ishr, 1)) (k : Ev g μ fr lo (pc + 1) L (.int (x >>> (y &&& 31)) :: S) M Q) : Ev g μ fr lo pc L (.int y :: .int x :: S) M Q :=
  fun p e s m args below meth c H locs A ls C hP hD hS h => lv_ishr C.ex C.by_ hd (k p e s m args below meth c H locs A ls C hP hD hS h)
def jushr (x y : Int32) : Int32 := (x.toUInt32 >>> (y.toUInt32 &&& Int32.toUInt32 31)).toInt32
theorem e_iushr {x y : Int32} (hd : decode μ.2.1 pc = .ok (.iushr, 1)) (k : Ev g μ fr lo (pc + 1) L (.int (jushr x y) :: S) M Q) : Ev g μ fr lo pc L (.int y :: .int x :: S) M Q :=
  fun p e s m args below meth c H locs A ls C hP hD hS h => lv_iushr (v := jushr x y) C.ex C.by_ hd rfl (k p e s m args below meth c H locs A ls C hP hD hS h)
theorem e_ineg {x : Int32} (hd : decode μ.2.1 pc = .ok (.ineg, 1)) (k : Ev g μ fr lo (pc + 1) L (.int (-x) :: S) M Q) : Ev g μ fr lo pc L (.int x :: S) M Q :=
  fun p e s m args below meth c H locs A ls C hP hD hS h => lv_ineg C.ex C.by_ hd (k p e s m args below meth c H locs A ls C hP hD hS h)
theorem e_ladd {x y : Int64} (hd : decode μ.2.1 pc = .ok (.ladd, 1)) (k : Ev g μ fr lo (pc + 1) L (.long (x + y) :: S) M Q) : Ev g μ fr lo pc L (.long y :: .long x :: S) M Q :=
  fun p e s m args below meth c H locs A ls C hP hD hS h => lv_ladd C.ex C.by_ hd (k p e s m args below meth c H locs A ls C hP hD hS h)
theorem e_lmul {x y : Int64} (hd : decode μ.2.1 pc = .ok (.lmul, 1)) (k : Ev g μ fr lo (pc + 1) L (.long (x * y) :: S) M Q) : Ev g μ fr lo pc L (.long y :: .long x :: S) M Q :=
  fun p e s m args below meth c H locs A ls C hP hD hS h => lv_lmul C.ex C.by_ hd (k p e s m args below meth c H locs A ls C hP hD hS h)
theorem e_i2l {x : Int32} (hd : decode μ.2.1 pc = .ok (.i2l, 1)) (k : Ev g μ fr lo (pc + 1) L (.long x.toInt64 :: S) M Q) : Ev g μ fr lo pc L (.int x :: S) M Q :=
  fun p e s m args below meth c H locs A ls C hP hD hS h => lv_i2l (v := x.toInt64) C.ex C.by_ hd rfl (k p e s m args below meth c H locs A ls C hP hD hS h)
theorem e_i2b {x : Int32} (hd : decode μ.2.1 pc = .ok (.i2b, 1)) (k : Ev g μ fr lo (pc + 1) L (.int x.toInt8.toInt32 :: S) M Q) : Ev g μ fr lo pc L (.int x :: S) M Q :=
  fun p e s m args below meth c H locs A ls C hP hD hS h => lv_i2b (v := x.toInt8.toInt32) C.ex C.by_ hd rfl (k p e s m args below meth c H locs A ls C hP hD hS h)
theorem e_i2s {x : Int32} (hd : decode μ.2.1 pc = .ok (.i2s, 1)) (k : Ev g μ fr lo (pc + 1) L (.int x.toInt16.toInt32 :: S) M Q) : Ev g μ fr lo pc L (.int x :: S) M Q :=
  fun p e s m args below meth c H locs A ls C hP hD hS h => lv_i2s (v := x.toInt16.toInt32) C.ex C.by_ hd rfl (k p e s m args below meth c H locs A ls C hP hD hS h)
theorem e_lcmp {x y : Int64} (hd : decode μ.2.1 pc = .ok (.lcmp, 1)) (k : Ev g μ fr lo (pc + 1) L (.int (lg_cmp x y) :: S) M Q) : Ev g μ fr lo pc L (.long y :: .long x :: S) M Q :=
  fun p e s m args below meth c H locs A ls C hP hD hS h => W.lcmp C.ex C.by_ hd (k p e s m args below meth c H locs A ls C hP hD hS h)
theorem e_dup {v : Value} (hd : decode μ.2.1 pc = .ok (.dup, 1)) (hv : v.category = 1) (k : Ev g μ fr lo (pc + 1) L (v :: v :: S) M Q) : Ev g μ fr lo pc L (v :: S) M Q :=
  fun p e s m args below meth c H locs A ls C hP hD hS h => lv_dup C.ex C.by_ hd (by rw [rv_cat]; exact hv) (k p e s m args below meth c H locs A ls C hP hD hS h)
theorem e_dup2 {v w : Value} (hd : decode μ.2.1 pc = .ok (.dup2, 1)) (hv : v.category = 1) (hw : w.category = 1) (k : Ev g μ fr lo (pc + 1) L (v :: w :: v :: w :: S) M Q) : Ev g μ fr lo pc L (v :: w :: S) M Q :=
  fun p e s m args below meth c H locs A ls C hP hD hS h => lv_dup2_11 C.ex C.by_ hd (by rw [rv_cat]; exact hv) (by rw [rv_cat]; exact hw) (k p e s m args below meth c H locs A ls C hP hD hS h)
theorem e_pop {v : Value} (hd : decode μ.2.1 pc = .ok (.pop, 1)) (hv : v.category = 1) (k : Ev g μ fr lo (pc + 1) L S M Q) : Ev g μ fr lo pc L (v :: S) M Q :=
  fun p e s m args below meth c H locs A ls C hP hD hS h => lv_pop C.ex C.by_ hd (by rw [rv_cat]; exact hv) (k p e s m args below meth c H locs A ls C hP hD hS h)
theorem e_goto {off : Int} (tgt : Nat) (hd : decode μ.2.1 pc = .ok (.goto off, 3)) (ht : (pc : Int) + off = (tgt : Int)) (k : Ev g μ fr lo tgt L S M Q) : Ev g μ fr lo pc L S M Q :=
  fun p e s m args below meth c H locs A ls C hP hD hS h => lv_goto C.ex C.by_ hd ht (k p e s m args below meth c H locs A ls C hP hD hS h)
end ER
