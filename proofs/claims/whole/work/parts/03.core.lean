/-! CORE: a memory of ints (and one long) for a fixed set of cells, the world that it stands for, and one judgement 'Ev' over it: from this frame the method comes to its end with Q. Rows of Ev: part 04. -/
def gtb : List Cond := lw_tbl.filter goodWord
theorem gtb_of {w : Cond} (i : Nat) (h : lw_tbl[i]? = some w) (hg : goodWord w = true) : w ∈ gtb := List.mem_filter.mpr ⟨List.mem_of_getElem? h, hg⟩
theorem gtb_tbl {w : Cond} (h : w ∈ gtb) : w ∈ lw_tbl := (List.mem_filter.mp h).1
theorem gtb_good {w : Cond} (h : w ∈ gtb) : goodWord w = true := (List.mem_filter.mp h).2
/-- a method: its name, code, locals, answer's type -/
abbrev Mt : Type := MethodName × ByteArray × Nat × Option FieldType
def mws (μ : Mt) : List Cond := Cond.code μ.1 μ.2.1 μ.2.2.1 μ.2.2.2 :: gtb
theorem mws_in {μ : Mt} {w : Cond} (h : w ∈ gtb) : w ∈ mws μ := List.mem_cons_of_mem _ h
theorem mws_good {μ ν : Mt} (h : Cond.code ν.1 ν.2.1 ν.2.2.1 ν.2.2.2 ∈ gtb) : GoodIn (mws μ) (mws ν) := by
  intro w hw
  rcases List.mem_cons.mp hw with rfl | hw
  · exact ⟨mws_in h, good_of_word (gtb_good h)⟩
  · exact ⟨mws_in hw, good_of_word (gtb_good hw)⟩
/-- the memory: cell, slot; and the one long -/
abbrev Me : Type := (Nat → Nat → Int32) × Int64
def wrM (M : Me) (r j : Nat) (v : Int32) : Me := (fun a => if a = r then upd (M.1 r) j v else M.1 a, M.2)
def wrA (M : Me) (r : Nat) (f : Nat → Int32) : Me := (fun a => if a = r then f else M.1 a, M.2)
def wrL (M : Me) (v : Int64) : Me := (M.1, v)
/-- kinds of objects: class number, field codes (0 an int, 1 the long, n + 2 a reference to the cell n further) -/
def kO : Nat → Option (Nat × List Nat)
  | 1 => some (5, [3, 14, 25, 0, 36, 38, 47, 48])
  | 2 => some (2, [3, 4, 0, 0, 0, 0, 0, 0, 0, 0, 0, 0, 0, 0])
  | 3 => some (1, [0, 0, 0, 0, 0, 0])
  | 4 => some (4, [3, 0, 0, 0, 0, 0])
  | 5 => some (3, [3, 0, 0])
  | 6 => some (0, [3, 0, 0, 0, 0, 0, 4, 5, 6, 7, 8, 9, 10])
  | 7 => some (6, [3, 4, 5, 6, 0, 7, 8, 9, 0, 10, 11, 12, 0, 1, 13, 0, 0, 0, 0, 0, 14, 15, 16, 17])
  | _ => none
/-- arrays of references: length, the first's distance, stride, whose (1 Pump, 2 Sheet) -/
def kR : Nat → Option (Nat × Nat × Nat × Nat)
  | 8 => some (8, 2, 1, 1)
  | 9 => some (4, 1, 2, 2)
  | _ => none
def fv (ρ : Nat → Nat) (M : Me) (r j : Nat) : Nat → Value
  | 0 => .int (M.1 r j)
  | 1 => .long M.2
  | n + 2 => .ref (ρ (r + n))
def fvs (ρ : Nat → Nat) (M : Me) (r : Nat) (cs : List Nat) : List Value := cs.mapIdx (fun j c => fv ρ M r j c)
def cel (k3 : ClassId × ClassId × ClassId) (ρ : Nat → Nat) (M : Me) (r K : Nat) : va_E :=
  match kO K with
  | some q => .inr (q.1, fvs ρ M r q.2)
  | none => match kR K with
    | some q => .inl (if q.2.2.2 = 1 then k3.2.1 else k3.2.2, q.1, .inr (.inr (.inr (.inr (fun i => some (ρ (r + q.2.1 + q.2.2.1 * i)))))))
    | none => .inl (k3.1, K - 100, .inl (M.1 r))
/-- a world's fixed part: how many cells, their kinds; launch, classes; where the cells lie; the string constants' and their bytes' places, the static table's -/
abbrev Gt : Type := (Nat × (Nat → Nat)) × (Launch × va_G × (ClassId × ClassId × ClassId)) × (Nat → Nat) × (Nat → Nat) × (Nat → Nat) × Nat
abbrev gN (g : Gt) : Nat := g.1.1
abbrev gk (g : Gt) : Nat → Nat := g.1.2
abbrev gl (g : Gt) : Launch := g.2.1.1
abbrev gD (g : Gt) : va_G := g.2.1.2.1
abbrev g3 (g : Gt) : ClassId × ClassId × ClassId := g.2.1.2.2
abbrev gp (g : Gt) : Nat → Nat := g.2.2.1
abbrev gS (g : Gt) : Nat → Nat := g.2.2.2.1
abbrev gV (g : Gt) : Nat → Nat := g.2.2.2.2.1
abbrev gT (g : Gt) : Nat := g.2.2.2.2.2
def wd (g : Gt) (M : Me) : va_W := (List.range (gN g)).map fun r => (gp g r, cel (g3 g) (gp g) M r (gk g r))
theorem wd_at {g : Gt} {M : Me} {r : Nat} (hr : r < gN g) : (wd g M)[r]? = some (gp g r, cel (g3 g) (gp g) M r (gk g r)) := by
  simp [wd, hr]
theorem wd_in {g : Gt} {M : Me} {r : Nat} {q : Nat × va_E} (h : (wd g M)[r]? = some q) : r < gN g ∧ q = (gp g r, cel (g3 g) (gp g) M r (gk g r)) := by
  have hl := (List.getElem?_eq_some_iff.mp h).1
  have hr : r < gN g := by simpa [wd] using hl
  rw [wd_at hr] at h
  exact ⟨hr, (Option.some.inj h).symm⟩
theorem wd_set {g : Gt} {M M' : Me} {r : Nat} (hr : r < gN g) (h : ∀ a, a ≠ r → cel (g3 g) (gp g) M' a (gk g a) = cel (g3 g) (gp g) M a (gk g a)) : (wd g M).set r (gp g r, cel (g3 g) (gp g) M' r (gk g r)) = wd g M' := by
  apply List.ext_getElem?
  intro i
  by_cases hi : i = r
  · subst hi
    rw [List.getElem?_set_self (by simpa [wd] using hr), wd_at hr]
  · rw [List.getElem?_set_ne (Ne.symm hi)]
    by_cases hl : i < gN g
    · rw [wd_at hl, wd_at hl, h i hi]
    · simp [wd, hl]
theorem wd_A {g : Gt} {M M' : Me} {sz : Nat} : va_A (wd g M) sz = va_A (wd g M') sz := by
  funext q
  apply propext
  have key : ∀ {N N' : Me}, (∃ (k : Nat) (e : va_E), (wd g N)[k]? = some (q, e)) → ∃ (k : Nat) (e : va_E), (wd g N')[k]? = some (q, e) := by
    intro N N' h
    obtain ⟨k, e, h⟩ := h
    obtain ⟨h1, h2⟩ := wd_in h
    refine ⟨k, cel (g3 g) (gp g) N' k (gk g k), ?_⟩
    rw [wd_at h1]
    have h3 : q = gp g k := congrArg Prod.fst h2
    rw [h3]
  constructor
  · intro h
    rcases h with h | h
    · exact Or.inl (key h)
    · exact Or.inr h
  · intro h
    rcases h with h | h
    · exact Or.inl (key h)
    · exact Or.inr h
theorem cel_ne {k3 : ClassId × ClassId × ClassId} {ρ : Nat → Nat} {M M' : Me} {a K : Nat} (h : M'.1 a = M.1 a) (h2 : M'.2 = M.2) : cel k3 ρ M' a K = cel k3 ρ M a K := by
  have e : ∀ cs, fvs ρ M' a cs = fvs ρ M a cs := by
    intro cs
    unfold fvs
    congr 1
    funext j c
    match c with
    | 0 => simp [fv, h]
    | 1 => simp [fv, h2]
    | n + 2 => rfl
  unfold cel
  rw [h]
  simp only [e]
theorem fvs_get {ρ : Nat → Nat} {M : Me} {r j c : Nat} {cs : List Nat} (h : cs[j]? = some c) : (fvs ρ M r cs)[j]? = some (fv ρ M r j c) := by
  simp [fvs, h]
theorem fvs_len {ρ : Nat → Nat} {M : Me} {r : Nat} {cs : List Nat} : (fvs ρ M r cs).length = cs.length := by simp [fvs]
theorem fvs_setI {ρ : Nat → Nat} {M : Me} {r j : Nat} {cs : List Nat} {v : Int32} (h : cs[j]? = some 0) : (fvs ρ M r cs).set j (.int v) = fvs ρ (wrM M r j v) r cs := by
  apply List.ext_getElem?
  intro i
  by_cases hi : i = j
  · subst hi
    rw [List.getElem?_set_self (by rw [fvs_len]; exact (List.getElem?_eq_some_iff.mp h).1), fvs_get h]
    simp [fv, wrM, upd]
  · rw [List.getElem?_set_ne (Ne.symm hi)]
    cases hc : cs[i]? with
    | none => simp [fvs, hc]
    | some c =>
      rw [fvs_get hc, fvs_get hc]
      match c with
      | 0 => simp [fv, wrM, upd, hi]
      | 1 => rfl
      | n + 2 => rfl
theorem fvs_setL {ρ : Nat → Nat} {M : Me} {r j : Nat} {cs : List Nat} {v : Int64} (h : cs[j]? = some 1) (ho : ∀ i, i ≠ j → ¬ cs[i]? = some 1) : (fvs ρ M r cs).set j (.long v) = fvs ρ (wrL M v) r cs := by
  apply List.ext_getElem?
  intro i
  by_cases hi : i = j
  · subst hi
    rw [List.getElem?_set_self (by rw [fvs_len]; exact (List.getElem?_eq_some_iff.mp h).1), fvs_get h]
    rfl
  · rw [List.getElem?_set_ne (Ne.symm hi)]
    cases hc : cs[i]? with
    | none => simp [fvs, hc]
    | some c =>
      rw [fvs_get hc, fvs_get hc]
      match c, hc with
      | 0, _ => rfl
      | 1, hc => exact absurd hc (ho i hi)
      | n + 2, _ => rfl
def tysG (g : Gt) : List (ClassId × FieldType) := [((g3 g).1, .int), ((g3 g).2.1, .object RX1), ((g3 g).2.2, .object RX3)]
def rv (ρ : Nat → Nat) : Value → Value
  | .ref n => .ref (ρ n)
  | v => v
def rmOf (fr lo : Nat) : Room := { frames := fr, cells := 0, slots := 0, locals := lo }
-- locals: what is known of them
def lh (ρ : Nat → Nat) (ls : Array Slot) (nL : Nat) (L : List (Option Value)) : Prop := ls.size = nL ∧ lv_wf ls ∧ ∀ (i : Nat) (v : Value), L[i]? = some (some v) → ls[i]? = some (.val (rv ρ v))
def lvL (ρ : Nat → Nat) (L : List (Option Value)) : List (Nat × Value) := L.zipIdx.filterMap (fun q => q.1.map (fun v => (q.2, rv ρ v)))
theorem lvL_mem {ρ : Nat → Nat} {L : List (Option Value)} {q : Nat × Value} : q ∈ lvL ρ L ↔ ∃ v, L[q.1]? = some (some v) ∧ q.2 = rv ρ v := by
  unfold lvL
  rw [List.mem_filterMap]
  constructor
  · rintro ⟨⟨x, i⟩, h1, h2⟩
    have h3 := List.mem_zipIdx_iff_getElem?.mp h1
    cases x with
    | none => cases h2
    | some v =>
      cases h2
      exact ⟨v, h3, rfl⟩
  · rintro ⟨v, h1, h2⟩
    refine ⟨(some v, q.1), List.mem_zipIdx_iff_getElem?.mpr h1, ?_⟩
    show some (q.1, rv ρ v) = some q
    rw [← h2]
theorem lh_has {ρ : Nat → Nat} {ls : Array Slot} {nL : Nat} {L : List (Option Value)} (h : lh ρ ls nL L) : lv_has ls nL (lvL ρ L) := by
  refine ⟨h.1, h.2.1, fun q hq => ?_⟩
  obtain ⟨v, h1, h2⟩ := lvL_mem.mp hq
  rw [h2]
  exact h.2.2 _ _ h1
def kil : Option Value → Option Value
  | some (.long _) => none
  | some (.double _) => none
  | x => x
/-- a store of one word -/
def stL : List (Option Value) → Nat → Value → List (Option Value)
  | [], _, _ => []
  | _ :: t, 0, v => some v :: t
  | x :: t, 1, v => kil x :: stL t 0 v
  | x :: t, n + 2, v => x :: stL t (n + 1) v
/-- a store of two words -/
def stL2 : List (Option Value) → Nat → Value → List (Option Value)
  | [], _, _ => []
  | [_], 0, v => [some v]
  | _ :: _ :: t, 0, v => some v :: none :: t
  | x :: t, 1, v => kil x :: stL2 t 0 v
  | x :: t, n + 2, v => x :: stL2 t (n + 1) v
theorem kil_some {x : Option Value} {w : Value} (h : kil x = some w) : x = some w ∧ w.category = 1 := by
  cases x with
  | none => cases h
  | some u => cases u <;> simp [kil] at h <;> subst h <;> simp [Value.category]
theorem stL_get : ∀ (L : List (Option Value)) (i : Nat) (v : Value) (j : Nat) (w : Value), (stL L i v)[j]? = some (some w) → (j = i ∧ w = v) ∨ (j ≠ i ∧ L[j]? = some (some w) ∧ ¬ (j + 1 = i ∧ w.category = 2))
  | [], i, v, j, w, h => by simp [stL] at h
  | x :: t, 0, v, j, w, h => by
    cases j with
    | zero =>
      simp [stL] at h
      exact Or.inl ⟨rfl, h.symm⟩
    | succ j =>
      simp [stL] at h
      exact Or.inr ⟨by omega, by simpa using h, by omega⟩
  | x :: t, 1, v, j, w, h => by
    cases j with
    | zero =>
      simp [stL] at h
      obtain ⟨h1, h2⟩ := kil_some h
      exact Or.inr ⟨by omega, by simp [h1], by rw [h2]; omega⟩
    | succ j =>
      simp [stL] at h
      rcases stL_get t 0 v j w h with ⟨h1, h2⟩ | ⟨h1, h2, h3⟩
      · exact Or.inl ⟨by omega, h2⟩
      · exact Or.inr ⟨by omega, by simpa using h2, by omega⟩
  | x :: t, n + 2, v, j, w, h => by
    cases j with
    | zero =>
      simp [stL] at h
      exact Or.inr ⟨by omega, by simp [h], by omega⟩
    | succ j =>
      simp [stL] at h
      rcases stL_get t (n + 1) v j w h with ⟨h1, h2⟩ | ⟨h1, h2, h3⟩
      · exact Or.inl ⟨by omega, h2⟩
      · exact Or.inr ⟨by omega, by simpa using h2, by omega⟩
theorem stL2_get : ∀ (L : List (Option Value)) (i : Nat) (v : Value) (j : Nat) (w : Value), (stL2 L i v)[j]? = some (some w) → (j = i ∧ w = v) ∨ (j ≠ i ∧ j ≠ i + 1 ∧ L[j]? = some (some w) ∧ ¬ (j + 1 = i ∧ w.category = 2))
  | [], i, v, j, w, h => by simp [stL2] at h
  | [x], 0, v, j, w, h => by
    cases j with
    | zero =>
      simp [stL2] at h
      exact Or.inl ⟨rfl, h.symm⟩
    | succ j => simp [stL2] at h
  | x :: y :: t, 0, v, j, w, h => by
    match j, h with
    | 0, h =>
      simp [stL2] at h
      exact Or.inl ⟨rfl, h.symm⟩
    | 1, h => simp [stL2] at h
    | j + 2, h =>
      simp [stL2] at h
      exact Or.inr ⟨by omega, by omega, by simpa using h, by omega⟩
  | x :: t, 1, v, j, w, h => by
    cases j with
    | zero =>
      simp [stL2] at h
      obtain ⟨h1, h2⟩ := kil_some h
      exact Or.inr ⟨by omega, by omega, by simp [h1], by rw [h2]; omega⟩
    | succ j =>
      simp [stL2] at h
      rcases stL2_get t 0 v j w h with ⟨h1, h2⟩ | ⟨h1, h4, h2, h3⟩
      · exact Or.inl ⟨by omega, h2⟩
      · exact Or.inr ⟨by omega, by omega, by simpa using h2, by omega⟩
  | x :: t, n + 2, v, j, w, h => by
    cases j with
    | zero =>
      simp [stL2] at h
      exact Or.inr ⟨by omega, by omega, by simp [h], by omega⟩
    | succ j =>
      simp [stL2] at h
      rcases stL2_get t (n + 1) v j w h with ⟨h1, h2⟩ | ⟨h1, h4, h2, h3⟩
      · exact Or.inl ⟨by omega, h2⟩
      · exact Or.inr ⟨by omega, by omega, by simpa using h2, by omega⟩
theorem rv_cat (ρ : Nat → Nat) (v : Value) : (rv ρ v).category = v.category := by cases v <;> rfl
theorem lh_st {ρ : Nat → Nat} {ls : Array Slot} {nL i : Nat} {L : List (Option Value)} {v : Value} (h : lv_has ls nL ((i, rv ρ v) :: (lvL ρ L).filter (fun q => !(q.1 == i) && !(q.1 + 1 == i && q.2.category == 2)))) : lh ρ ls nL (stL L i v) := by
  refine ⟨h.1, h.2.1, fun j w hw => ?_⟩
  rcases stL_get L i v j w hw with ⟨rfl, rfl⟩ | ⟨h1, h2, h3⟩
  · exact h.2.2 _ List.mem_cons_self
  · refine h.2.2 (j, rv ρ w) (List.mem_cons_of_mem _ (List.mem_filter.mpr ⟨lvL_mem.mpr ⟨w, h2, rfl⟩, ?_⟩))
    simp only [rv_cat]
    by_cases hq : j + 1 = i
    · have hc : ¬ w.category = 2 := fun z => h3 ⟨hq, z⟩
      simp [h1, hc]
    · simp [h1, hq]
theorem lh_st2 {ρ : Nat → Nat} {ls : Array Slot} {nL i : Nat} {L : List (Option Value)} {v : Value} (h : lv_has ls nL ((i, rv ρ v) :: (lvL ρ L).filter (fun q => !(q.1 == i) && (!(q.1 == i + 1) && !(q.1 + 1 == i && q.2.category == 2))))) : lh ρ ls nL (stL2 L i v) := by
  refine ⟨h.1, h.2.1, fun j w hw => ?_⟩
  rcases stL2_get L i v j w hw with ⟨rfl, rfl⟩ | ⟨h1, h4, h2, h3⟩
  · exact h.2.2 _ List.mem_cons_self
  · refine h.2.2 (j, rv ρ w) (List.mem_cons_of_mem _ (List.mem_filter.mpr ⟨lvL_mem.mpr ⟨w, h2, rfl⟩, ?_⟩))
    simp only [rv_cat]
    by_cases hq : j + 1 = i
    · have hc : ¬ w.category = 2 := fun z => h3 ⟨hq, z⟩
      simp [h1, h4, hc]
    · simp [h1, h4, hq]
/-- less is known -/
def leL : List (Option Value) → List (Option Value) → Prop
  | [], _ => True
  | none :: a, [] => leL a []
  | some _ :: _, [] => False
  | none :: a, _ :: b => leL a b
  | some v :: a, w :: b => w = some v ∧ leL a b
theorem leL_get : ∀ (a b : List (Option Value)) (i : Nat) (v : Value), leL a b → a[i]? = some (some v) → b[i]? = some (some v)
  | [], _, i, v, _, h => by simp at h
  | none :: a, [], i, v, hl, h => by
    cases i with
    | zero => simp at h
    | succ i =>
      have h2 := leL_get a [] i v hl (by simpa using h)
      simp at h2
  | some _ :: _, [], i, v, hl, h => hl.elim
  | none :: a, _ :: b, i, v, hl, h => by
    cases i with
    | zero => simp at h
    | succ i => simpa using leL_get a b i v hl (by simpa using h)
  | some u :: a, w :: b, i, v, hl, h => by
    cases i with
    | zero =>
      simp at h
      subst h
      simp [hl.1]
    | succ i => simpa using leL_get a b i v hl.2 (by simpa using h)
theorem lh_le {ρ : Nat → Nat} {ls : Array Slot} {nL : Nat} {L L' : List (Option Value)} (h : lh ρ ls nL L) (hl : leL L' L) : lh ρ ls nL L' := ⟨h.1, h.2.1, fun i v hv => h.2.2 i v (leL_get L' L i v hl hv)⟩
def entL : List Value → List (Option Value)
  | [] => []
  | .long x :: t => some (.long x) :: none :: entL t
  | .double x :: t => some (.double x) :: none :: entL t
  | v :: t => some v :: entL t
