/-! Ev: branches, fields, arrays, calls, returns -/
section EB
variable {g : Gt} {μ : Mt} {fr lo pc : Nat} {L L' : List (Option Value)} {S : List Value} {M : Me} {Q : Option Value → Me → Prop}
theorem e_if_eq {x : Int32} {off : Int} (tgt : Nat) (hd : decode μ.2.1 pc = .ok (.ifCond .eq off, 3)) (ht : (pc : Int) + off = (tgt : Int)) (kt : x = 0 → Ev g μ fr lo tgt L S M Q) (kf : ¬ x = 0 → Ev g μ fr lo (pc + 3) L S M Q) : Ev g μ fr lo pc L (.int x :: S) M Q :=
  fun p e s m args below meth c H locs A ls C hP hD hS h => lv_if_eq C.ex C.by_ hd ht (fun z => kt z p e s m args below meth c H locs A ls C hP hD hS h) (fun z => kf z p e s m args below meth c H locs A ls C hP hD hS h)
theorem e_icmp_eq {x y : Int32} {off : Int} (tgt : Nat) (hd : decode μ.2.1 pc = .ok (.if_icmp .eq off, 3)) (ht : (pc : Int) + off = (tgt : Int)) (kt : x = y → Ev g μ fr lo tgt L S M Q) (kf : ¬ x = y → Ev g μ fr lo (pc + 3) L S M Q) : Ev g μ fr lo pc L (.int y :: .int x :: S) M Q :=
  fun p e s m args below meth c H locs A ls C hP hD hS h => lv_icmp_eq C.ex C.by_ hd ht (fun z => kt z p e s m args below meth c H locs A ls C hP hD hS h) (fun z => kf z p e s m args below meth c H locs A ls C hP hD hS h)
theorem e_if_ne {x : Int32} {off : Int} (tgt : Nat) (hd : decode μ.2.1 pc = .ok (.ifCond .ne off, 3)) (ht : (pc : Int) + off = (tgt : Int)) (kt : ¬ x = 0 → Ev g μ fr lo tgt L S M Q) (kf : x = 0 → Ev g μ fr lo (pc + 3) L S M Q) : Ev g μ fr lo pc L (.int x :: S) M Q :=
  fun p e s m args below meth c H locs A ls C hP hD hS h => lv_if_ne C.ex C.by_ hd ht (fun z => kt z p e s m args below meth c H locs A ls C hP hD hS h) (fun z => kf z p e s m args below meth c H locs A ls C hP hD hS h)
theorem e_icmp_ne {x y : Int32} {off : Int} (tgt : Nat) (hd : decode μ.2.1 pc = .ok (.if_icmp .ne off, 3)) (ht : (pc : Int) + off = (tgt : Int)) (kt : ¬ x = y → Ev g μ fr lo tgt L S M Q) (kf : x = y → Ev g μ fr lo (pc + 3) L S M Q) : Ev g μ fr lo pc L (.int y :: .int x :: S) M Q :=
  fun p e s m args below meth c H locs A ls C hP hD hS h => lv_icmp_ne C.ex C.by_ hd ht (fun z => kt z p e s m args below meth c H locs A ls C hP hD hS h) (fun z => kf z p e s m args below meth c H locs A ls C hP hD hS h)
theorem e_if_lt {x : Int32} {off : Int} (tgt : Nat) (hd : decode μ.2.1 pc = .ok (.ifCond .lt off, 3)) (ht : (pc : Int) + off = (tgt : Int)) (kt : x < 0 → Ev g μ fr lo tgt L S M Q) (kf : ¬ x < 0 → Ev g μ fr lo (pc + 3) L S M Q) : Ev g μ fr lo pc L (.int x :: S) M Q :=
  fun p e s m args below meth c H locs A ls C hP hD hS h => lv_if_lt C.ex C.by_ hd ht (fun z => kt z p e s m args below meth c H locs A ls C hP hD hS h) (fun z => kf z p e s m args below meth c H locs A ls C hP hD hS h)
theorem e_icmp_lt {x y : Int32} {off : Int} (tgt : Nat) (hd : decode μ.2.1 pc = .ok (.if_icmp .lt off, 3)) (ht : (pc : Int) + off = (tgt : Int)) (kt : x < y → Ev g μ fr lo tgt L S M Q) (kf : ¬ x < y → Ev g μ fr lo (pc + 3) L S M Q) : Ev g μ fr lo pc L (.int y :: .int x :: S) M Q :=
  fun p e s m args below meth c H locs A ls C hP hD hS h => lv_icmp_lt C.ex C.by_ hd ht (fun z => kt z p e s m args below meth c H locs A ls C hP hD hS h) (fun z => kf z p e s m args below meth c H locs A ls C hP hD hS h)
theorem e_if_ge {x : Int32} {off : Int} (tgt : Nat) (hd : decode μ.2.1 pc = .ok (.ifCond .ge off, 3)) (ht : (pc : Int) + off = (tgt : Int)) (kt : 0 ≤ x → Ev g μ fr lo tgt L S M Q) (kf : ¬ 0 ≤ x → Ev g μ fr lo (pc + 3) L S M Q) : Ev g μ fr lo pc L (.int x :: S) M Q :=
  fun p e s m args below meth c H locs A ls C hP hD hS h => lv_if_ge C.ex C.by_ hd ht (fun z => kt z p e s m args below meth c H locs A ls C hP hD hS h) (fun z => kf z p e s m args below meth c H locs A ls C hP hD hS h)
theorem e_icmp_ge {x y : Int32} {off : Int} (tgt : Nat) (hd : decode μ.2.1 pc = .ok (.if_icmp .ge off, 3)) (ht : (pc : Int) + off = (tgt : Int)) (kt : y ≤ x → Ev g μ fr lo tgt L S M Q) (kf : ¬ y ≤ x → Ev g μ fr lo (pc + 3) L S M Q) : Ev g μ fr lo pc L (.int y :: .int x :: S) M Q :=
  fun p e s m args below meth c H locs A ls C hP hD hS h => lv_icmp_ge C.ex C.by_ hd ht (fun z => kt z p e s m args below meth c H locs A ls C hP hD hS h) (fun z => kf z p e s m args below meth c H locs A ls C hP hD hS h)
theorem e_if_gt {x : Int32} {off : Int} (tgt : Nat) (hd : decode μ.2.1 pc = .ok (.ifCond .gt off, 3)) (ht : (pc : Int) + off = (tgt : Int)) (kt : 0 < x → Ev g μ fr lo tgt L S M Q) (kf : ¬ 0 < x → Ev g μ fr lo (pc + 3) L S M Q) : Ev g μ fr lo pc L (.int x :: S) M Q :=
  fun p e s m args below meth c H locs A ls C hP hD hS h => lv_if_gt C.ex C.by_ hd ht (fun z => kt z p e s m args below meth c H locs A ls C hP hD hS h) (fun z => kf z p e s m args below meth c H locs A ls C hP hD hS h)
theorem e_icmp_gt {x y : Int32} {off : Int} (tgt : Nat) (hd : decode μ.2.1 pc = .ok (.if_icmp .gt off, 3)) (ht : (pc : Int) + off = (tgt : Int)) (kt : y < x → Ev g μ fr lo tgt L S M Q) (kf : ¬ y < x → Ev g μ fr lo (pc + 3) L S M Q) : Ev g μ fr lo pc L (.int y :: .int x :: S) M Q :=
  fun p e s m args below meth c H locs A ls C hP hD hS h => lv_icmp_gt C.ex C.by_ hd ht (fun z => kt z p e s m args below meth c H locs A ls C hP hD hS h) (fun z => kf z p e s m args below meth c H locs A ls C hP hD hS h)
theorem e_if_le {x : Int32} {off : Int} (tgt : Nat) (hd : decode μ.2.1 pc = .ok (.ifCond .le off, 3)) (ht : (pc : Int) + off = (tgt : Int)) (kt : x ≤ 0 → Ev g μ fr lo tgt L S M Q) (kf : ¬ x ≤ 0 → Ev g μ fr lo (pc + 3) L S M Q) : Ev g μ fr lo pc L (.int x :: S) M Q :=
  fun p e s m args below meth c H locs A ls C hP hD hS h => lv_if_le C.ex C.by_ hd ht (fun z => kt z p e s m args below meth c H locs A ls C hP hD hS h) (fun z => kf z p e s m args below meth c H locs A ls C hP hD hS h)
theorem e_icmp_le {x y : Int32} {off : Int} (tgt : Nat) (hd : decode μ.2.1 pc = .ok (.if_icmp .le off, 3)) (ht : (pc : Int) + off = (tgt : Int)) (kt : x ≤ y → Ev g μ fr lo tgt L S M Q) (kf : ¬ x ≤ y → Ev g μ fr lo (pc + 3) L S M Q) : Ev g μ fr lo pc L (.int y :: .int x :: S) M Q :=
  fun p e s m args below meth c H locs A ls C hP hD hS h => lv_icmp_le C.ex C.by_ hd ht (fun z => kt z p e s m args below meth c H locs A ls C hP hD hS h) (fun z => kf z p e s m args below meth c H locs A ls C hP hD hS h)
theorem e_tswC {x : Int32} {dflt lw hi off : Int} {offs : Array Int} {len : Nat} (k : Int32) (tgt : Nat) (hx : x = k) (hd : decode μ.2.1 pc = .ok (.tableswitch dflt lw hi offs, len)) (h1 : ¬ k.toInt < lw) (h2 : ¬ hi < k.toInt) (ho : offs[(k.toInt - lw).toNat]? = some off) (ht : (pc : Int) + off = (tgt : Int)) (kk : Ev g μ fr lo tgt L S M Q) : Ev g μ fr lo pc L (.int x :: S) M Q := by
  subst hx
  exact fun p e s m args below meth c H locs A ls C hP hD hS h => lv_tableIn C.ex C.by_ hd h1 h2 ho ht (kk p e s m args below meth c H locs A ls C hP hD hS h)
theorem e_tswD {x : Int32} {dflt lw hi : Int} {offs : Array Int} {len : Nat} (tgt : Nat) (hd : decode μ.2.1 pc = .ok (.tableswitch dflt lw hi offs, len)) (h0 : x.toInt < lw ∨ hi < x.toInt) (ht : (pc : Int) + dflt = (tgt : Int)) (kk : Ev g μ fr lo tgt L S M Q) : Ev g μ fr lo pc L (.int x :: S) M Q :=
  fun p e s m args below meth c H locs A ls C hP hD hS h => lv_tableOut C.ex C.by_ hd h0 ht (kk p e s m args below meth c H locs A ls C hP hD hS h)
-- cells
def Is (g : Gt) (r K : Nat) : Prop := r < gN g ∧ gk g r = K
/-- a field: class file's entry idx of own is field j of objects of kind K, its code c -/
def FA (own : String) (idx K j c : Nat) : Prop := ∃ (ci : Nat) (cs : List Nat) (C : String) (T : u_T) (N : Nat), kO K = some (ci, cs) ∧ cs[j]? = some c ∧ vwCl[ci]? = some (C, T, N) ∧ (∀ w ∈ u_ws C T N, w ∈ gtb) ∧ j < N ∧ Cond.fieldLink own idx (T j).1 (T j).2.1 (T j).2.2.1 ∈ gtb
def FW (own : String) (idx K j c : Nat) (ty : FieldType) : Prop := ∃ (ci : Nat) (cs : List Nat) (C : String) (T : u_T) (N : Nat) (ty0 : Nat → FieldType), kO K = some (ci, cs) ∧ cs[j]? = some c ∧ vwCl[ci]? = some (C, T, N) ∧ (∀ w ∈ u_ws C T N, w ∈ gtb) ∧ j < N ∧ Cond.fieldLink own idx (T j).1 (T j).2.1 (T j).2.2.1 ∈ gtb ∧
  (∀ k, k < N → parseFieldDescriptor (T k).2.2.1 = some (ty0 k)) ∧ (∀ a, a < N → ∀ b, b < N → a ≠ b → (T a).2.1 ≠ (T b).2.1) ∧ (T j).2.2.2 = false ∧ parseFieldDescriptor (T j).2.2.1 = some ty
theorem cel_O {k3 : ClassId × ClassId × ClassId} {ρ : Nat → Nat} {M : Me} {r K : Nat} {q : Nat × List Nat} (h : kO K = some q) : cel k3 ρ M r K = .inr (q.1, fvs ρ M r q.2) := by
  unfold cel
  rw [h]
theorem cel_R {k3 : ClassId × ClassId × ClassId} {ρ : Nat → Nat} {M : Me} {r K : Nat} {q : Nat × Nat × Nat × Nat} (h0 : kO K = none) (h : kR K = some q) : cel k3 ρ M r K = .inl (if q.2.2.2 = 1 then k3.2.1 else k3.2.2, q.1, .inr (.inr (.inr (.inr (fun i => some (ρ (r + q.2.1 + q.2.2.1 * i))))))) := by
  unfold cel
  rw [h0, h]
theorem cel_I {k3 : ClassId × ClassId × ClassId} {ρ : Nat → Nat} {M : Me} {r K n : Nat} (h0 : kO K = none) (h1 : kR K = none) (hn : K - 100 = n) : cel k3 ρ M r K = .inl (k3.1, n, .inl (M.1 r)) := by
  unfold cel
  rw [h0, h1, hn]
theorem e_get {idx K j cd r : Nat} (fa : FA μ.1.cls idx K j cd) (ir : Is g r K) (hd : decode μ.2.1 pc = .ok (.getfield idx, 3)) (k : ∀ v : Value, rv (gp g) v = fv (gp g) M r j cd → Ev g μ fr lo (pc + 3) L (v :: S) M Q) (v : Value) (hv : rv (gp g) v = fv (gp g) M r j cd) : Ev g μ fr lo pc L (.ref r :: S) M Q := by
  intro p e s m args below meth c H locs A ls C hP hD hS h
  obtain ⟨ci, cs, C', T, N, h1, h2, h3, h4, h5, h6⟩ := fa
  have he := wd_at (M := M) ir.1
  rw [ir.2, cel_O h1] at he
  have kk := k v hv p e s m args below meth c H locs A ls C hP hD hS h
  refine va_get (D := gD g) (ci := ci) (v := fv (gp g) M r j cd) (C := C') (T := T) (N := N) C.ex C.by_ C.ts (fun w hw => mws_in (h4 w hw)) C.ow C.K hP r he h3 j h5 (C.gt h6) (fun _ h9 => h9) (fvs_get h2) hd ?_
  rw [← hv]
  exact kk
theorem e_getI {idx K j r : Nat} (fa : FA μ.1.cls idx K j 0) (ir : Is g r K) (hd : decode μ.2.1 pc = .ok (.getfield idx, 3)) (k : Ev g μ fr lo (pc + 3) L (.int (M.1 r j) :: S) M Q) : Ev g μ fr lo pc L (.ref r :: S) M Q :=
  e_get fa ir hd (fun v hv => by
    cases v <;> simp [rv, fv] at hv
    subst hv
    exact k) (.int (M.1 r j)) rfl
theorem e_getL {idx K j r : Nat} (fa : FA μ.1.cls idx K j 1) (ir : Is g r K) (hd : decode μ.2.1 pc = .ok (.getfield idx, 3)) (k : Ev g μ fr lo (pc + 3) L (.long M.2 :: S) M Q) : Ev g μ fr lo pc L (.ref r :: S) M Q :=
  e_get fa ir hd (fun v hv => by
    cases v <;> simp [rv, fv] at hv
    subst hv
    exact k) (.long M.2) rfl
theorem e_getR {idx K j r n r' : Nat} (fa : FA μ.1.cls idx K j (n + 2)) (ir : Is g r K) (he : r + n = r') (hd : decode μ.2.1 pc = .ok (.getfield idx, 3)) (k : Ev g μ fr lo (pc + 3) L (.ref r' :: S) M Q) : Ev g μ fr lo pc L (.ref r :: S) M Q := by
  subst he
  intro p e s m args below meth c H locs A ls C hP hD hS h
  obtain ⟨ci, cs, C', T, N, h1, h2, h3, h4, h5, h6⟩ := fa
  have he := wd_at (M := M) ir.1
  rw [ir.2, cel_O h1] at he
  exact va_get (D := gD g) (ci := ci) (v := fv (gp g) M r j (n + 2)) (C := C') (T := T) (N := N) C.ex C.by_ C.ts (fun w hw => mws_in (h4 w hw)) C.ow C.K hP r he h3 j h5 (C.gt h6) (fun _ h9 => h9) (fvs_get h2) hd (k p e s m args below meth c H locs A ls C hP hD hS h)
theorem e_putG {idx K j r : Nat} {ty : FieldType} {v : Int32} (fa : FW μ.1.cls idx K j 0 ty) (ir : Is g r K) (hn : narrow ty (.int v) = .int v) (hf : fits ty (.int v) = true) (hd : decode μ.2.1 pc = .ok (.putfield idx, 3)) (k : Ev g μ fr lo (pc + 3) L S (wrM M r j v) Q) : Ev g μ fr lo pc L (.int v :: .ref r :: S) M Q := by
  intro p e s m args below meth c H locs A ls C hP hD hS h
  obtain ⟨ci, cs, C', T, N, ty0, h1, h2, h3, h4, h5, h6, h7, h8, h9, h10⟩ := fa
  have he := wd_at (M := M) ir.1
  rw [ir.2, cel_O h1] at he
  have hset : (wd g M).set r (gp g r, .inr (ci, (fvs (gp g) M r cs).set j (.int v))) = wd g (wrM M r j v) := by
    rw [fvs_setI h2]
    have e2 : (Sum.inr (ci, fvs (gp g) (wrM M r j v) r cs) : va_E) = cel (g3 g) (gp g) (wrM M r j v) r (gk g r) := by rw [ir.2, cel_O h1]
    rw [e2]
    exact wd_set ir.1 (fun a ha => cel_ne (by simp [wrM, ha]) rfl)
  refine va_put (D := gD g) (ci := ci) (v := .int v) (ty := ty) (C := C') (T := T) (N := N) C.ex C.by_ C.ts (fun w hw => mws_in (h4 w hw)) ty0 h7 h8 C.ow C.K hP hD hS r he h3 j h5 (C.gt h6) (fun _ h9 => h9) h9 h10 hn hf (by rw [fvs_len]; exact (List.getElem?_eq_some_iff.mp h2).1) hd (fun H1 locs1 hP1 hD1 hS1 => ?_)
  rw [hset] at hP1 hD1
  exact k p e s m args below meth c H1 locs1 A ls C hP1 hD1 hS1 h
theorem e_putI {idx K j r : Nat} {v : Int32} (fa : FW μ.1.cls idx K j 0 .int) (ir : Is g r K) (hd : decode μ.2.1 pc = .ok (.putfield idx, 3)) (k : Ev g μ fr lo (pc + 3) L S (wrM M r j v) Q) : Ev g μ fr lo pc L (.int v :: .ref r :: S) M Q := e_putG fa ir rfl rfl hd k
theorem e_putZ {idx K j r : Nat} {v : Int32} (fa : FW μ.1.cls idx K j 0 .boolean) (ir : Is g r K) (hz : v = 0 ∨ v = 1) (hd : decode μ.2.1 pc = .ok (.putfield idx, 3)) (k : Ev g μ fr lo (pc + 3) L S (wrM M r j v) Q) : Ev g μ fr lo pc L (.int v :: .ref r :: S) M Q := by
  rcases hz with rfl | rfl
  · exact e_putG fa ir (by decide +kernel) (by decide +kernel) hd k
  · exact e_putG fa ir (by decide +kernel) (by decide +kernel) hd k
theorem e_putL {idx K j r : Nat} {v : Int64} (fa : FW μ.1.cls idx K j 1 .long) (ir : Is g r K) (h7 : K = 7) (hj : j = 13) (ho : ∀ a, a ≠ r → a < gN g → 100 ≤ gk g a) (hd : decode μ.2.1 pc = .ok (.putfield idx, 3)) (k : Ev g μ fr lo (pc + 3) L S (wrL M v) Q) : Ev g μ fr lo pc L (.long v :: .ref r :: S) M Q := by
  subst h7
  subst hj
  intro p e s m args below meth c H locs A ls C hP hD hS h
  obtain ⟨ci, cs, C', T, N, ty0, h1, h2, h3, h4, h5, h6, h7, h8, h9, h10⟩ := fa
  have he := wd_at (M := M) ir.1
  rw [ir.2, cel_O h1] at he
  have hcs : cs = [3, 4, 5, 6, 0, 7, 8, 9, 0, 10, 11, 12, 0, 1, 13, 0, 0, 0, 0, 0, 14, 15, 16, 17] := by
    have := h1
    simp only [kO] at this
    exact (congrArg Prod.snd (Option.some.inj this)).symm
  have hset : (wd g M).set r (gp g r, .inr (ci, (fvs (gp g) M r cs).set 13 (.long v))) = wd g (wrL M v) := by
    rw [fvs_setL h2 (fun i hi z => by
      rw [hcs] at z
      match i, hi, z with
      | 0, _, z => simp at z
      | 1, _, z => simp at z
      | 2, _, z => simp at z
      | 3, _, z => simp at z
      | 4, _, z => simp at z
      | 5, _, z => simp at z
      | 6, _, z => simp at z
      | 7, _, z => simp at z
      | 8, _, z => simp at z
      | 9, _, z => simp at z
      | 10, _, z => simp at z
      | 11, _, z => simp at z
      | 12, _, z => simp at z
      | 13, hi, _ => exact hi rfl
      | 14, _, z => simp at z
      | 15, _, z => simp at z
      | 16, _, z => simp at z
      | 17, _, z => simp at z
      | 18, _, z => simp at z
      | 19, _, z => simp at z
      | 20, _, z => simp at z
      | 21, _, z => simp at z
      | 22, _, z => simp at z
      | 23, _, z => simp at z
      | n + 24, _, z => simp at z)]
    have e2 : (Sum.inr (ci, fvs (gp g) (wrL M v) r cs) : va_E) = cel (g3 g) (gp g) (wrL M v) r (gk g r) := by rw [ir.2, cel_O h1]
    rw [e2]
    have key : ∀ a, a < gN g → a ≠ r → cel (g3 g) (gp g) (wrL M v) a (gk g a) = cel (g3 g) (gp g) M a (gk g a) := by
      intro a hl ha
      have hb := ho a ha hl
      have q1 : kO (gk g a) = none := by
        generalize gk g a = K at hb
        match K, hb with
        | n + 100, _ => rfl
      have q2 : kR (gk g a) = none := by
        generalize gk g a = K at hb
        match K, hb with
        | n + 100, _ => rfl
      rw [cel_I q1 q2 rfl, cel_I q1 q2 rfl]
      rfl
    apply List.ext_getElem?
    intro i
    by_cases hi : i = r
    · subst hi
      rw [List.getElem?_set_self (by simpa [wd] using ir.1), wd_at ir.1]
    · rw [List.getElem?_set_ne (Ne.symm hi)]
      by_cases hl : i < gN g
      · rw [wd_at hl, wd_at hl, key i hl hi]
      · simp [wd, hl]
  refine va_put (D := gD g) (ci := ci) (v := .long v) (ty := .long) (C := C') (T := T) (N := N) C.ex C.by_ C.ts (fun w hw => mws_in (h4 w hw)) ty0 h7 h8 C.ow C.K hP hD hS r he h3 13 h5 (C.gt h6) (fun _ h9 => h9) h9 h10 rfl rfl (by rw [fvs_len]; exact (List.getElem?_eq_some_iff.mp h2).1) hd (fun H1 locs1 hP1 hD1 hS1 => ?_)
  rw [hset] at hP1 hD1
  exact k p e s m args below meth c H1 locs1 A ls C hP1 hD1 hS1 h
/-- an int array of n places -/
def Ia (g : Gt) (r n : Nat) : Prop := r < gN g ∧ kO (gk g r) = none ∧ kR (gk g r) = none ∧ gk g r - 100 = n
/-- an array of references -/
def Ra (g : Gt) (r n b st w : Nat) : Prop := r < gN g ∧ kO (gk g r) = none ∧ kR (gk g r) = some (n, b, st, w)
theorem e_iald {r n : Nat} {i : Int32} (ir : Ia g r n) (hin : vp_in i n) (hd : decode μ.2.1 pc = .ok (.iaload, 1)) (k : Ev g μ fr lo (pc + 1) L (.int (M.1 r i.toNatClampNeg) :: S) M Q) : Ev g μ fr lo pc L (.int i :: .ref r :: S) M Q := by
  intro p e s m args below meth c H locs A ls C hP hD hS h
  have he := wd_at (M := M) ir.1
  rw [cel_I ir.2.1 ir.2.2.1 ir.2.2.2] at he
  exact va_iald C.ex C.by_ C.K hP r 0 he rfl hin hd (k p e s m args below meth c H locs A ls C hP hD hS h)
theorem e_iast {r n : Nat} {i v : Int32} (ir : Ia g r n) (hin : vp_in i n) (hd : decode μ.2.1 pc = .ok (.iastore, 1)) (k : Ev g μ fr lo (pc + 1) L S (wrM M r i.toNatClampNeg v) Q) : Ev g μ fr lo pc L (.int v :: .int i :: .ref r :: S) M Q := by
  intro p e s m args below meth c H locs A ls C hP hD hS h
  have he := wd_at (M := M) ir.1
  rw [cel_I ir.2.1 ir.2.2.1 ir.2.2.2] at he
  have hset : (wd g M).set r (gp g r, .inl ((g3 g).1, n, .inl (upd (M.1 r) i.toNatClampNeg v))) = wd g (wrM M r i.toNatClampNeg v) := by
    have e2 : (Sum.inl ((g3 g).1, n, .inl (upd (M.1 r) i.toNatClampNeg v)) : va_E) = cel (g3 g) (gp g) (wrM M r i.toNatClampNeg v) r (gk g r) := by
      rw [cel_I ir.2.1 ir.2.2.1 ir.2.2.2]
      simp [wrM]
    rw [e2]
    exact wd_set ir.1 (fun a ha => cel_ne (by simp [wrM, ha]) rfl)
  refine va_iast C.ex C.by_ C.K hP hD hS r 0 he rfl hin hd (fun H1 locs1 hP1 hD1 hS1 => ?_)
  rw [hset] at hP1 hD1
  exact k p e s m args below meth c H1 locs1 A ls C hP1 hD1 hS1 h
theorem e_aald {r n b st w : Nat} {i : Int32} (ir : Ra g r n b st w) (hw : w = 1 ∨ w = 2) (hin : vp_in i n) (hd : decode μ.2.1 pc = .ok (.aaload, 1)) (k : Ev g μ fr lo (pc + 1) L (.ref (r + b + st * i.toNatClampNeg) :: S) M Q) : Ev g μ fr lo pc L (.int i :: .ref r :: S) M Q := by
  intro p e s m args below meth c H locs A ls C hP hD hS h
  have he := wd_at (M := M) ir.1
  rw [cel_R ir.2.1 ir.2.2] at he
  have kk := k p e s m args below meth c H locs A ls C hP hD hS h
  rcases hw with rfl | rfl
  · exact va_aldq (C := RX1) C.ex C.by_ C.K hP r 1 he rfl hin hd kk
  · exact va_aldq (C := RX3) C.ex C.by_ C.K hP r 2 he rfl hin hd kk
def copyW (own : String) (idx : Nat) : Prop := Cond.methodLink own idx arraycopyName ∈ gtb ∧ Cond.native arraycopyName ∈ gtb ∧ Cond.static arraycopyName ∈ gtb ∧ Cond.initialized "java/lang/System" ∈ gtb
theorem e_copy {idx r0 r1 n0 n1 : Nat} {sp dp n : Int32} (cw : copyW μ.1.cls idx) (i0 : Ia g r0 n0) (i1 : Ia g r1 n1) (h1 : ¬ sp < 0) (h2 : ¬ dp < 0) (h3 : ¬ n < 0) (h4 : sp.toNatClampNeg + n.toNatClampNeg ≤ n0) (h5 : dp.toNatClampNeg + n.toNatClampNeg ≤ n1) (hfr : 1 ≤ fr) (hlo : ((S.map (rv (gp g))).map fun v => v.category).sum + (nativeFrameWords "java/lang/System" "arraycopy" 5 + 11) ≤ lo) (hd : decode μ.2.1 pc = .ok (.invokestatic idx, 3)) (k : Ev g μ fr lo (pc + 3) L S (wrA M r1 (va_cpy (M.1 r0) (M.1 r1) sp.toNatClampNeg dp.toNatClampNeg n.toNatClampNeg)) Q) : Ev g μ fr lo pc L (.int n :: .int dp :: .ref r1 :: .int sp :: .ref r0 :: S) M Q := by
  intro p e s m args below meth c H locs A ls C hP hD hS h
  have he0 := wd_at (M := M) i0.1
  rw [cel_I i0.2.1 i0.2.2.1 i0.2.2.2] at he0
  have he1 := wd_at (M := M) i1.1
  rw [cel_I i1.2.1 i1.2.2.1 i1.2.2.2] at he1
  have hset : ∀ f : Nat → Int32, (wd g M).set r1 (gp g r1, .inl ((g3 g).1, n1, .inl f)) = wd g (wrA M r1 f) := by
    intro f
    have e2 : (Sum.inl ((g3 g).1, n1, .inl f) : va_E) = cel (g3 g) (gp g) (wrA M r1 f) r1 (gk g r1) := by
      rw [cel_I i1.2.1 i1.2.2.1 i1.2.2.2]
      simp [wrA]
    rw [e2]
    exact wd_set i1.1 (fun a ha => cel_ne (by simp [wrA, ha]) rfl)
  refine va_copyi C.ex C.by_ (C.ml.trans h.1.symm) C.ow (C.gt cw.1) (C.gt cw.2.1) (C.gt cw.2.2.1) (C.gt cw.2.2.2) C.K hP hD hS r0 r1 0 0 he0 he1 rfl rfl rfl h1 h2 h3 h4 h5 (fun i _ => rfl) hfr hlo hd (fun H1 locs1 hP1 hD1 hS1 => ?_)
  rw [hset] at hP1 hD1
  exact k p e s m args below meth c H1 locs1 A ls C hP1 hD1 hS1 h
-- returns
theorem e_iret {v : Int32} (hr : μ.2.2.2 = some .int) (hd : decode μ.2.1 pc = .ok (.ireturn, 1)) (hq : Q (some (.int v)) M) : Ev g μ fr lo pc L [.int v] M Q :=
  fun p e s m args below meth c H locs A ls C hP hD hS h => W.iret C.ex C.by_ (C.re.trans hr) (fun t ht hW => ⟨⟨some (.int v), M, rfl, hq, by rw [ht]; exact hP, va_K.moved hW.alike C.K, hD⟩, hS.F ht⟩) hS.2.2 hd C.lk
theorem e_nret {v : Int32} {ty : FieldType} (hr : μ.2.2.2 = some ty) (hn : narrow ty (.int v) = .int v) (hd : decode μ.2.1 pc = .ok (.ireturn, 1)) (hq : Q (some (.int v)) M) : Ev g μ fr lo pc L [.int v] M Q :=
  fun p e s m args below meth c H locs A ls C hP hD hS h => W.zret C.ex C.by_ (C.re.trans hr) hn (fun t ht hW => ⟨⟨some (.int v), M, rfl, hq, by rw [ht]; exact hP, va_K.moved hW.alike C.K, hD⟩, hS.F ht⟩) hS.2.2 hd C.lk
theorem e_zret {v : Int32} (hr : μ.2.2.2 = some .boolean) (hz : v = 0 ∨ v = 1) (hd : decode μ.2.1 pc = .ok (.ireturn, 1)) (hq : Q (some (.int v)) M) : Ev g μ fr lo pc L [.int v] M Q := by
  rcases hz with rfl | rfl
  · exact e_nret hr (by decide +kernel) hd hq
  · exact e_nret hr (by decide +kernel) hd hq
theorem e_lret {v : Int64} (hr : μ.2.2.2 = some .long) (hd : decode μ.2.1 pc = .ok (.lreturn, 1)) (hq : Q (some (.long v)) M) : Ev g μ fr lo pc L [.long v] M Q :=
  fun p e s m args below meth c H locs A ls C hP hD hS h => W.lret C.ex C.by_ (C.re.trans hr) (fun t ht hW => ⟨⟨some (.long v), M, rfl, hq, by rw [ht]; exact hP, va_K.moved hW.alike C.K, hD⟩, hS.F ht⟩) hS.2.2 hd C.lk
theorem e_vret (hr : μ.2.2.2 = none) (hd : decode μ.2.1 pc = .ok (.return_, 1)) (hq : Q none M) : Ev g μ fr lo pc L [] M Q :=
  fun p e s m args below meth c H locs A ls C hP hD hS h => W.vret C.ex C.by_ (C.re.trans hr) (fun t ht hW => ⟨⟨none, M, rfl, hq, by rw [ht]; exact hP, va_K.moved hW.alike C.K, hD⟩, hS.F ht⟩) hS.2.2 hd C.lk
theorem e_aret {v : Nat} {n : String} (hr : μ.2.2.2 = some (.object n)) (hd : decode μ.2.1 pc = .ok (.areturn, 1)) (hq : Q (some (.ref v)) M) : Ev g μ fr lo pc L [.ref v] M Q :=
  fun p e s m args below meth c H locs A ls C hP hD hS h => W.aret C.ex C.by_ (C.re.trans hr) (Or.inl ⟨n, rfl⟩) (Or.inr ⟨_, rfl⟩) (fun t ht hW => ⟨⟨some (.ref v), M, rfl, hq, by rw [ht]; exact hP, va_K.moved hW.alike C.K, hD⟩, hS.F ht⟩) hS.2.2 hd C.lk
-- calls
theorem map_toList (ρ : Nat → Nat) (r : Option Value) (S : List Value) : (r.map (rv ρ)).toList ++ S.map (rv ρ) = (r.toList ++ S).map (rv ρ) := by cases r <;> rfl
theorem ev_run {p : Program} {e : Env} {s : State} {m : MethodId} {args a : Array Value} {below : List Frame} {meth : Method} {c : Code} {H : Heap} {locs : List Loc} {A : Nat → Prop} {ls : Array Slot} {st0 : List Value} {M0 : Me}
    (C : Cx g μ p s m args meth c A) (hD : va_D A (wd g M0)) (hS : va_S A s.heap H locs) (h : lh (gp g) ls μ.2.2.1 L)
    (hr : va_Run p (gl g) e (headSpec (mws μ) (rmOf fr lo)).room s m args below meth c H locs 0 0 0 0 (F0 m pc ls st0) (S.map (rv (gp g))) (Qof g (fun r M' => Ev g μ fr lo (pc + 3) L (r.toList ++ S) M' Q) (va_A (wd g M0) H.size) a) (va_A (wd g M0) H.size)) :
    W p (gl g) e (headSpec (mws μ) (rmOf fr lo)).room s m args below meth c H locs 0 0 (MQ below (Qof g Q A) args s 0 0 A) (F0 m pc ls st0) := by
  have hF : ∀ q, va_A (wd g M0) H.size q → A q := by
    intro q hq
    rcases hq with ⟨k, e, hq⟩ | hq
    · exact hD.2 k _ hq
    · exact C.A0 q (Nat.le_trans hS.1 hq)
  intro T hT X
  obtain ⟨v, st₀, t, T', L', h0, X', hL, e1, e2, ⟨⟨r, M', hv, hq, hP1, hK1, hD1⟩, hz, hk⟩, st⟩ := hr T hT X
  have hv' : v = r.map (rv (gp g)) := by
    have := Outcome.returned.inj hv
    exact this
  subst hv'
  rw [h0] at hz hk
  have hS' : va_S A s.heap T'.heap (locs ++ L') := ⟨Nat.le_trans hS.1 (by rw [e1]; exact hz), fun q h1 h2 => by rw [e1, hk q (Nat.lt_of_lt_of_le h1 hS.1) (fun z => h2 (hF q z))]; exact hS.2.1 q h1 h2, fun q hq => by
    rcases List.mem_append.mp hq with h | h
    · exact hS.2.2 q h
    · exact hF _ (hL q h)⟩
  have W2 := hq p e s m args below meth c T'.heap (locs ++ L') A ls C (by rw [e1]; exact hP1) (hD1.weaken (fun k q _ z => hF q.1 z)) hS' h
  obtain ⟨t2, a1, b1⟩ := W2 T' rfl X'
  refine ⟨t2, st t2 ?_, b1⟩
  rw [map_toList]
  exact a1
theorem ev_pre {as : List Value} {s : State} {H : Heap} {locs : List Loc} {A : Nat → Prop} {p : Program} {m : MethodId} {args : Array Value} {meth : Method} {c : Code} (C : Cx g μ p s m args meth c A) (hP : va_P (gD g) vwCl (wd g M) H) (hD : va_D A (wd g M)) (hS : va_S A s.heap H locs) :
    PreS s H (va_Pc (as.map (rv (gp g))) (fun U => U.heap.size = H.size ∧ va_P (gD g) vwCl (wd g M) U.heap ∧ va_K (gD g) vwCl (tysG g) U ∧ va_D (fun _ => True) (wd g M) ∧ Sg g (va_A (wd g M) H.size) U U.heap)) (as.map (rv (gp g))) := by
  have hF : ∀ q, va_A (wd g M) H.size q → A q := by
    intro q hq
    rcases hq with ⟨k, e, hq⟩ | hq
    · exact hD.2 k _ hq
    · exact C.A0 q (Nat.le_trans hS.1 hq)
  refine ⟨fun a U f mk q => ?_, fun U hU hW => ⟨rfl, by rw [hU], by rw [hU]; exact hP, va_K.moved hW.alike C.K, hD.weaken (fun _ _ _ _ => trivial), C.G.move hW hU hS hF⟩⟩
  obtain ⟨q0, q1, qP, qK, qD, qG⟩ := q
  exact ⟨q0, q1, qP, va_K.moved (u := U) (U := U.calling f mk a) (Vm.Alike.refl U.vm) qK, qD, qG.calling⟩
def nmOk (y : MethodName) (n : Nat) : Prop := y.cls ≠ "java/lang/invoke/MethodHandle" ∧ y.cls ≠ "java/lang/invoke/VarHandle" ∧ (parseMethodDescriptor y.desc).map (fun d => d.parameters.length) = some n
/-- the words of a call: of a method of an object, of a static one, of a nest mate's static one -/
def CV (own : String) (idx : Nat) (ν : Mt) (n : Nat) : Prop := Cond.methodLink own idx ν.1 ∈ gtb ∧ Cond.instanceMethod ν.1 ∈ gtb ∧ Cond.selects ν.1.cls ν.1 ν.1 ∈ gtb ∧ Cond.initialized ν.1.cls ∈ gtb ∧ Cond.code ν.1 ν.2.1 ν.2.2.1 ν.2.2.2 ∈ gtb ∧ nmOk ν.1 n
def CS (own : String) (idx : Nat) (ν : Mt) (n : Nat) : Prop := Cond.methodLink own idx ν.1 ∈ gtb ∧ Cond.static ν.1 ∈ gtb ∧ Cond.initialized ν.1.cls ∈ gtb ∧ Cond.code ν.1 ν.2.1 ν.2.2.1 ν.2.2.2 ∈ gtb ∧ nmOk ν.1 n
def CN (own : String) (idx : Nat) (ν : Mt) (n : Nat) : Prop := (∃ host, Cond.methodLinkNest own idx ν.1 host ∈ nestW) ∧ Cond.static ν.1 ∈ gtb ∧ Cond.initialized ν.1.cls ∈ gtb ∧ Cond.code ν.1 ν.2.1 ν.2.2.1 ν.2.2.2 ∈ gtb ∧ nmOk ν.1 n
/-- objects of kind K are of this class -/
def Kc (K : Nat) (C : String) : Prop := ∃ (q : Nat × List Nat) (r : vw_C), kO K = some q ∧ vwCl[q.1]? = some r ∧ r.1 = C
theorem e_callV {idx n b K f2 l2 : Nat} {ν : Mt} {as st : List Value} (cv : CV μ.1.cls idx ν n) (ib : Is g b K) (kc : Kc K ν.1.cls) (hR : f2 + 1 ≤ fr ∧ 8 + (ν.2.2.1 + 11) + l2 ≤ lo) (hn : as.length = n) (hst : as.reverse ++ .ref b :: S = st) (h8 : (S.map fun v => v.category).sum ≤ 8) (hd : decode μ.2.1 pc = .ok (.invokevirtual idx, 3)) (hM : EvM g ν f2 l2 (.ref b :: as) M (fun r M' => Ev g μ fr lo (pc + 3) L (r.toList ++ S) M' Q)) : Ev g μ fr lo pc L st M Q := by
  subst hst
  intro p e s m args below meth c H locs A ls C hP hD hS h
  obtain ⟨c1, c2, c3, c4, c5, c6⟩ := cv
  obtain ⟨q, r, k1, k2, k3⟩ := kc
  have he := wd_at (M := M) ib.1
  rw [ib.2, cel_O k1] at he
  have hrec := va_recv C.K hP k2 he
  rw [k3] at hrec
  have hpre := ev_pre (as := .ref b :: as) C hP hD hS
  have hcat : ∀ l : List Value, ((l.map (rv (gp g))).map fun v => v.category) = l.map fun v => v.category := by
    intro l
    rw [List.map_map]
    congr 1
    funext v
    exact rv_cat _ v
  refine ev_run (M0 := M) C hD hS h (va_runV (As := as.map (rv (gp g))) (rest := S.map (rv (gp g))) (C := ν.1.cls) ⟨C.ex, C.by_, C.ml, C.ow, C.ts⟩ (hM H.size) ⟨callB_of n C.ts (mws_good c5) rfl rfl rfl (C.gt c4) (C.gt c1) c6 hR, C.gt c2, C.gt c3⟩ ⟨hpre.1, hrec, hpre.2⟩ rfl (by rw [List.length_map]; exact hn) h.1 ?_ (lv_room (by rw [hcat]; exact h8)) hd ⟨Nat.le_refl _, Nat.le_refl _⟩)
  show (as.reverse ++ .ref b :: S).map (rv (gp g)) = (as.map (rv (gp g))).reverse ++ .ref (gp g b) :: S.map (rv (gp g))
  rw [List.map_append, List.map_reverse]
  rfl
theorem e_callS {idx n f2 l2 : Nat} {ν : Mt} {as st : List Value} (cv : CS μ.1.cls idx ν n) (hR : f2 + 1 ≤ fr ∧ 8 + (ν.2.2.1 + 11) + l2 ≤ lo) (hn : as.length = n) (hst : as.reverse ++ S = st) (h8 : (S.map fun v => v.category).sum ≤ 8) (hd : decode μ.2.1 pc = .ok (.invokestatic idx, 3)) (hM : EvM g ν f2 l2 as M (fun r M' => Ev g μ fr lo (pc + 3) L (r.toList ++ S) M' Q)) : Ev g μ fr lo pc L st M Q := by
  subst hst
  intro p e s m args below meth c H locs A ls C hP hD hS h
  obtain ⟨c1, c2, c4, c5, c6⟩ := cv
  have hpre := ev_pre (as := as) C hP hD hS
  have hcat : ∀ l : List Value, ((l.map (rv (gp g))).map fun v => v.category) = l.map fun v => v.category := by
    intro l
    rw [List.map_map]
    congr 1
    funext v
    exact rv_cat _ v
  refine ev_run (M0 := M) C hD hS h (va_runS (As := as.map (rv (gp g))) (rest := S.map (rv (gp g))) ⟨C.ex, C.by_, C.ml, C.ow, C.ts⟩ (hM H.size) ⟨callB_of n C.ts (mws_good c5) rfl rfl rfl (C.gt c4) (C.gt c1) c6 hR, C.gt c2⟩ hpre rfl (by rw [List.length_map]; exact hn) h.1 ?_ (lv_room (by rw [hcat]; exact h8)) hd ⟨Nat.le_refl _, Nat.le_refl _⟩)
  show (as.reverse ++ S).map (rv (gp g)) = (as.map (rv (gp g))).reverse ++ S.map (rv (gp g))
  rw [List.map_append, List.map_reverse]
theorem e_callN {idx n f2 l2 : Nat} {ν : Mt} {as st : List Value} (cv : CN μ.1.cls idx ν n) (hR : f2 + 1 ≤ fr ∧ 8 + (ν.2.2.1 + 11) + l2 ≤ lo) (hn : as.length = n) (hst : as.reverse ++ S = st) (h8 : (S.map fun v => v.category).sum ≤ 8) (hd : decode μ.2.1 pc = .ok (.invokestatic idx, 3)) (hM : EvM g ν f2 l2 as M (fun r M' => Ev g μ fr lo (pc + 3) L (r.toList ++ S) M' Q)) : Ev g μ fr lo pc L st M Q := by
  subst hst
  intro p e s m args below meth c H locs A ls C hP hD hS h
  obtain ⟨⟨host, c1⟩, c2, c4, c5, c6⟩ := cv
  have hpre := ev_pre (as := as) C hP hD hS
  have hcat : ∀ l : List Value, ((l.map (rv (gp g))).map fun v => v.category) = l.map fun v => v.category := by
    intro l
    rw [List.map_map]
    congr 1
    funext v
    exact rv_cat _ v
  refine ev_run (M0 := M) C hD hS h (va_runSN (As := as.map (rv (gp g))) (rest := S.map (rv (gp g))) ⟨C.ex, C.by_, C.ml, C.ow, C.ts⟩ (hM H.size) ⟨va_cnB n C.ts (mws_good c5) rfl rfl rfl (C.G.1 _ c1) (C.gt c4) c6 hR, C.gt c2, trivial⟩ hpre rfl (by rw [List.length_map]; exact hn) h.1 ?_ (lv_room (by rw [hcat]; exact h8)) hd ⟨Nat.le_refl _, Nat.le_refl _⟩)
  show (as.reverse ++ S).map (rv (gp g)) = (as.map (rv (gp g))).reverse ++ S.map (rv (gp g))
  rw [List.map_append, List.map_reverse]
end EB
