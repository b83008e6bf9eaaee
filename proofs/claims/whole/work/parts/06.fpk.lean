/-! For the functions fp_*: options, loops; rows that name an index; facts of the two worlds -/
def ok {α : Type} (x : Option α) (G : α → Prop) : Prop := ∃ a, x = some a ∧ G a
theorem ok_some {α : Type} {a : α} {G : α → Prop} (h : ok (some a) G) : G a := by
  obtain ⟨b, h1, h2⟩ := h
  cases h1
  exact h2
theorem ok_mk {α : Type} {a : α} {G : α → Prop} {x : Option α} (hx : x = some a) (h : G a) : ok x G := ⟨a, hx, h⟩
theorem ok_bnd {α β : Type} {x : Option α} {f : α → Option β} {G : β → Prop} {P : α → Prop} (h : ok (x.bind f) G) (k : ∀ a, ok (f a) G → P a) : ok x P := by
  obtain ⟨b, h1, h2⟩ := h
  cases x with
  | none => cases h1
  | some a => exact ⟨a, rfl, k a ⟨b, h1, h2⟩⟩
theorem ok_bndE {α β : Type} {x : Option α} {f : α → Option β} {G : β → Prop} {P : α → Prop} (h : ok (x.bind f) G) (k : ∀ a, x = some a → ok (f a) G → P a) : ok x P := by
  obtain ⟨b, h1, h2⟩ := h
  cases x with
  | none => cases h1
  | some a => exact ⟨a, rfl, k a rfl ⟨b, h1, h2⟩⟩
theorem ok_t {β : Type} {c : Prop} [Decidable c] {A B : Option β} {G : β → Prop} (hc : c) (h : ok (if c then A else B) G) : ok A G := by
  rw [if_pos hc] at h
  exact h
theorem ok_f {β : Type} {c : Prop} [Decidable c] {A B : Option β} {G : β → Prop} (hc : ¬ c) (h : ok (if c then A else B) G) : ok B G := by
  rw [if_neg hc] at h
  exact h
def letv {α β : Type} (e : α) (f : α → Option β) : Option β := f e
theorem lv1 {α β : Type} {e : α} {f : α → Option β} {G : β → Prop} {P : α → Prop} (h : ok (letv e f) G) (k : ∀ x, ok (f x) G → P x) : P e := k e h
theorem lv1e {α β : Type} {e : α} {f : α → Option β} {G : β → Prop} {P : Prop} (h : ok (letv e f) G) (k : ∀ x, e = x → ok (f x) G → P) : P := k e rfl h
def inb (i : Int32) (n : Nat) : Option Nat := if i < 0 ∨ n ≤ i.toNatClampNeg then none else some i.toNatClampNeg
theorem ok_inb {β : Type} {i : Int32} {n : Nat} {f : Nat → Option β} {G : β → Prop} {P : Prop} (h : ok ((inb i n).bind f) G) (k : ∀ q, i.toNatClampNeg = q → vp_in i n → ok (f q) G → P) : P := by
  unfold inb at h
  by_cases hc : i < 0 ∨ n ≤ i.toNatClampNeg
  · rw [if_pos hc] at h
    obtain ⟨b, h1, -⟩ := h
    cases h1
  · rw [if_neg hc] at h
    exact k _ rfl hc h
def bz {β : Type} (v : Int32) (x : Option β) : Option β := if v = 0 ∨ v = 1 then x else none
theorem ok_bz {β : Type} {v : Int32} {x : Option β} {G : β → Prop} (h : ok (bz v x) G) : (v = 0 ∨ v = 1) ∧ ok x G := by
  unfold bz at h
  by_cases hc : v = 0 ∨ v = 1
  · rw [if_pos hc] at h
    exact ⟨hc, h⟩
  · rw [if_neg hc] at h
    obtain ⟨b, h1, -⟩ := h
    cases h1
def dvz {β : Type} (v : Int32) (x : Option β) : Option β := if v = 0 then none else x
theorem ok_dvz {β : Type} {v : Int32} {x : Option β} {G : β → Prop} (h : ok (dvz v x) G) : ¬ v = 0 ∧ ok x G := by
  unfold dvz at h
  by_cases hc : v = 0
  · rw [if_pos hc] at h
    obtain ⟨b, h1, -⟩ := h
    cases h1
  · rw [if_neg hc] at h
    exact ⟨hc, h⟩
def cpyc {β : Type} (sp dp n : Int32) (n0 n1 : Nat) (x : Option β) : Option β := if sp < 0 ∨ dp < 0 ∨ n < 0 ∨ n0 < sp.toNatClampNeg + n.toNatClampNeg ∨ n1 < dp.toNatClampNeg + n.toNatClampNeg then none else x
theorem ok_cpy {β : Type} {sp dp n : Int32} {n0 n1 : Nat} {x : Option β} {G : β → Prop} (h : ok (cpyc sp dp n n0 n1 x) G) : ¬ sp < 0 ∧ ¬ dp < 0 ∧ ¬ n < 0 ∧ sp.toNatClampNeg + n.toNatClampNeg ≤ n0 ∧ dp.toNatClampNeg + n.toNatClampNeg ≤ n1 ∧ ok x G := by
  unfold cpyc at h
  by_cases hc : sp < 0 ∨ dp < 0 ∨ n < 0 ∨ n0 < sp.toNatClampNeg + n.toNatClampNeg ∨ n1 < dp.toNatClampNeg + n.toNatClampNeg
  · rw [if_pos hc] at h
    obtain ⟨b, h1, -⟩ := h
    cases h1
  · rw [if_neg hc] at h
    simp only [not_or, Nat.not_lt] at hc
    exact ⟨hc.1, hc.2.1, hc.2.2.1, hc.2.2.2.1, hc.2.2.2.2, h⟩
def jrem (x y : Int32) : Int32 := x - x / y * y
def lp {σ ρ : Type} (step : σ → Option (σ ⊕ ρ)) : Nat → σ → Option ρ
  | 0, _ => none
  | n + 1, s => (step s).bind (fun o => Sum.elim (lp step n) some o)
def FU : Nat := 100000
theorem lp_ind {σ ρ : Type} {step : σ → Option (σ ⊕ ρ)} {E : σ → Prop} {X : ρ → Prop} (hs : ∀ s, ok (step s) (Sum.elim E X) → E s) : ∀ (N : Nat) (s : σ), ok (lp step N s) X → E s
  | 0, s, h => by
    obtain ⟨b, h1, -⟩ := h
    cases h1
  | n + 1, s, h => by
    refine hs s (ok_bnd h (fun o h => ?_))
    rcases o with s' | r
    · exact lp_ind hs n s' h
    · have h2 : X r := ok_some h
      exact h2
theorem leL_0 {b : List (Option Value)} : leL [] b := trivial
theorem leL_n {a b : List (Option Value)} {x : Option Value} (h : leL a b) : leL (none :: a) (x :: b) := h
theorem leL_s {a b : List (Option Value)} {v : Value} (h : leL a b) : leL (some v :: a) (some v :: b) := ⟨rfl, h⟩
section EK
variable {g : Gt} {μ : Mt} {fr lo pc : Nat} {L L' : List (Option Value)} {S : List Value} {M : Me} {Q : Option Value → Me → Prop}
theorem e_ialdK {r n q : Nat} {i : Int32} (ir : Ia g r n) (hin : vp_in i n) (hk : i.toNatClampNeg = q) (hd : decode μ.2.1 pc = .ok (.iaload, 1)) (k : Ev g μ fr lo (pc + 1) L (.int (M.1 r q) :: S) M Q) : Ev g μ fr lo pc L (.int i :: .ref r :: S) M Q := by
  subst hk
  exact e_iald ir hin hd k
theorem e_iastK {r n q : Nat} {i v : Int32} (ir : Ia g r n) (hin : vp_in i n) (hk : i.toNatClampNeg = q) (hd : decode μ.2.1 pc = .ok (.iastore, 1)) (k : Ev g μ fr lo (pc + 1) L S (wrM M r q v) Q) : Ev g μ fr lo pc L (.int v :: .int i :: .ref r :: S) M Q := by
  subst hk
  exact e_iast ir hin hd k
theorem e_aaldK {r r' n b st w q : Nat} {i : Int32} (ir : Ra g r n b st w) (hw : w = 1 ∨ w = 2) (hin : vp_in i n) (hk : i.toNatClampNeg = q) (he : r + b + st * q = r') (hd : decode μ.2.1 pc = .ok (.aaload, 1)) (k : Ev g μ fr lo (pc + 1) L (.ref r' :: S) M Q) : Ev g μ fr lo pc L (.int i :: .ref r :: S) M Q := by
  subst hk
  subst he
  exact e_aald ir hw hin hd k
end EK
theorem evm_ofF {g : Gt} {μ : Mt} {fr lo : Nat} {as : List Value} {M : Me} {Q : Option Value → Me → Prop} (L : List (Option Value)) (k : Nat) (hy : plainFor μ.1 = true) (hn : (entL as).length ≤ μ.2.2.1) (hL : entL as ++ List.replicate k none = L) (h : Ev g μ fr lo 0 L [] M Q) : EvM g μ fr lo as M Q := by
  intro sz
  refine va_MetF (cc := μ.2.1) (maxL := μ.2.2.1) (ret := μ.2.2.2) hy rfl ?_
  intro p e s m args below meth c s₁ B hml hv
  obtain ⟨rfl, hsz, hP, hK, hD0, hG⟩ := hv
  have hx := B.exec
  have hb := B.bytes
  have hr := B.returns
  have hts := atoms_spec (ws := mws μ) B.pre
  have hown : s.vm.findClass μ.1.cls = some m.cls := findClass_of_methodNamed B.named
  have hlocks := B.notSynchronized
  subst hsz
  have hD := hD0.self (sz := s.heap.size)
  rw [lg_entry_eq]
  have hl := lv_entry (as.map (rv (gp g))) (n := μ.2.2.1) (by rw [lg_len]; exact hn)
  subst hL
  exact h p e s m _ below meth c s.heap [] (va_A (wd g M) s.heap.size) _ ⟨hx, hb, hml, hr, hlocks, hown, hts, hK, fun q h => Or.inr h, hG⟩ hP hD va_S.rf (lh_entry hl)
-- the two worlds
def kXl : List Nat := [1, 2, 8, 110, 3, 3, 3, 3, 3, 3, 3, 3, 2, 8, 110, 3, 3, 3, 3, 3, 3, 3, 3, 2, 8, 110, 3, 3, 3, 3, 3, 3, 3, 3, 4, 220, 9, 5, 140, 5, 140, 5, 140, 5, 140, 107, 6, 108, 110, 200, 108, 108, 108, 2148, 2148]
def kYl : List Nat := [7, 170, 170, 170, 107, 108, 108, 164, 2148, 140, 108, 220, 104, 104, 260, 140]
def kX (r : Nat) : Nat := kXl.getD r 0
def kY (r : Nat) : Nat := kYl.getD r 0
def wX : Nat × (Nat → Nat) := (55, kX)
def wY : Nat × (Nat → Nat) := (16, kY)
abbrev Zt : Type := (Launch × va_G × (ClassId × ClassId × ClassId)) × (Nat → Nat) × (Nat → Nat) × (Nat → Nat) × Nat
theorem is_X0 {z : Zt} : Is (wX, z) 0 1 := ⟨Nat.le_of_ble_eq_true rfl, rfl⟩
theorem is_X1 {z : Zt} : Is (wX, z) 1 2 := ⟨Nat.le_of_ble_eq_true rfl, rfl⟩
theorem ra_X2 {z : Zt} : Ra (wX, z) 2 8 2 1 1 := ⟨Nat.le_of_ble_eq_true rfl, rfl, rfl⟩
theorem ia_X3 {z : Zt} : Ia (wX, z) 3 10 := ⟨Nat.le_of_ble_eq_true rfl, rfl, rfl, rfl⟩
theorem is_X4 {z : Zt} : Is (wX, z) 4 3 := ⟨Nat.le_of_ble_eq_true rfl, rfl⟩
theorem is_X5 {z : Zt} : Is (wX, z) 5 3 := ⟨Nat.le_of_ble_eq_true rfl, rfl⟩
theorem is_X6 {z : Zt} : Is (wX, z) 6 3 := ⟨Nat.le_of_ble_eq_true rfl, rfl⟩
theorem is_X7 {z : Zt} : Is (wX, z) 7 3 := ⟨Nat.le_of_ble_eq_true rfl, rfl⟩
theorem is_X8 {z : Zt} : Is (wX, z) 8 3 := ⟨Nat.le_of_ble_eq_true rfl, rfl⟩
theorem is_X9 {z : Zt} : Is (wX, z) 9 3 := ⟨Nat.le_of_ble_eq_true rfl, rfl⟩
theorem is_X10 {z : Zt} : Is (wX, z) 10 3 := ⟨Nat.le_of_ble_eq_true rfl, rfl⟩
theorem is_X11 {z : Zt} : Is (wX, z) 11 3 := ⟨Nat.le_of_ble_eq_true rfl, rfl⟩
theorem is_X12 {z : Zt} : Is (wX, z) 12 2 := ⟨Nat.le_of_ble_eq_true rfl, rfl⟩
theorem ra_X13 {z : Zt} : Ra (wX, z) 13 8 2 1 1 := ⟨Nat.le_of_ble_eq_true rfl, rfl, rfl⟩
theorem ia_X14 {z : Zt} : Ia (wX, z) 14 10 := ⟨Nat.le_of_ble_eq_true rfl, rfl, rfl, rfl⟩
theorem is_X15 {z : Zt} : Is (wX, z) 15 3 := ⟨Nat.le_of_ble_eq_true rfl, rfl⟩
theorem is_X16 {z : Zt} : Is (wX, z) 16 3 := ⟨Nat.le_of_ble_eq_true rfl, rfl⟩
theorem is_X17 {z : Zt} : Is (wX, z) 17 3 := ⟨Nat.le_of_ble_eq_true rfl, rfl⟩
theorem is_X18 {z : Zt} : Is (wX, z) 18 3 := ⟨Nat.le_of_ble_eq_true rfl, rfl⟩
theorem is_X19 {z : Zt} : Is (wX, z) 19 3 := ⟨Nat.le_of_ble_eq_true rfl, rfl⟩
theorem is_X20 {z : Zt} : Is (wX, z) 20 3 := ⟨Nat.le_of_ble_eq_true rfl, rfl⟩
theorem is_X21 {z : Zt} : Is (wX, z) 21 3 := ⟨Nat.le_of_ble_eq_true rfl, rfl⟩
theorem is_X22 {z : Zt} : Is (wX, z) 22 3 := ⟨Nat.le_of_ble_eq_true rfl, rfl⟩
theorem is_X23 {z : Zt} : Is (wX, z) 23 2 := ⟨Nat.le_of_ble_eq_true rfl, rfl⟩
theorem ra_X24 {z : Zt} : Ra (wX, z) 24 8 2 1 1 := ⟨Nat.le_of_ble_eq_true rfl, rfl, rfl⟩
theorem ia_X25 {z : Zt} : Ia (wX, z) 25 10 := ⟨Nat.le_of_ble_eq_true rfl, rfl, rfl, rfl⟩
theorem is_X26 {z : Zt} : Is (wX, z) 26 3 := ⟨Nat.le_of_ble_eq_true rfl, rfl⟩
theorem is_X27 {z : Zt} : Is (wX, z) 27 3 := ⟨Nat.le_of_ble_eq_true rfl, rfl⟩
theorem is_X28 {z : Zt} : Is (wX, z) 28 3 := ⟨Nat.le_of_ble_eq_true rfl, rfl⟩
theorem is_X29 {z : Zt} : Is (wX, z) 29 3 := ⟨Nat.le_of_ble_eq_true rfl, rfl⟩
theorem is_X30 {z : Zt} : Is (wX, z) 30 3 := ⟨Nat.le_of_ble_eq_true rfl, rfl⟩
theorem is_X31 {z : Zt} : Is (wX, z) 31 3 := ⟨Nat.le_of_ble_eq_true rfl, rfl⟩
theorem is_X32 {z : Zt} : Is (wX, z) 32 3 := ⟨Nat.le_of_ble_eq_true rfl, rfl⟩
theorem is_X33 {z : Zt} : Is (wX, z) 33 3 := ⟨Nat.le_of_ble_eq_true rfl, rfl⟩
theorem is_X34 {z : Zt} : Is (wX, z) 34 4 := ⟨Nat.le_of_ble_eq_true rfl, rfl⟩
theorem ia_X35 {z : Zt} : Ia (wX, z) 35 120 := ⟨Nat.le_of_ble_eq_true rfl, rfl, rfl, rfl⟩
theorem ra_X36 {z : Zt} : Ra (wX, z) 36 4 1 2 2 := ⟨Nat.le_of_ble_eq_true rfl, rfl, rfl⟩
theorem is_X37 {z : Zt} : Is (wX, z) 37 5 := ⟨Nat.le_of_ble_eq_true rfl, rfl⟩
theorem ia_X38 {z : Zt} : Ia (wX, z) 38 40 := ⟨Nat.le_of_ble_eq_true rfl, rfl, rfl, rfl⟩
theorem is_X39 {z : Zt} : Is (wX, z) 39 5 := ⟨Nat.le_of_ble_eq_true rfl, rfl⟩
theorem ia_X40 {z : Zt} : Ia (wX, z) 40 40 := ⟨Nat.le_of_ble_eq_true rfl, rfl, rfl, rfl⟩
theorem is_X41 {z : Zt} : Is (wX, z) 41 5 := ⟨Nat.le_of_ble_eq_true rfl, rfl⟩
theorem ia_X42 {z : Zt} : Ia (wX, z) 42 40 := ⟨Nat.le_of_ble_eq_true rfl, rfl, rfl, rfl⟩
theorem is_X43 {z : Zt} : Is (wX, z) 43 5 := ⟨Nat.le_of_ble_eq_true rfl, rfl⟩
theorem ia_X44 {z : Zt} : Ia (wX, z) 44 40 := ⟨Nat.le_of_ble_eq_true rfl, rfl, rfl, rfl⟩
theorem ia_X45 {z : Zt} : Ia (wX, z) 45 7 := ⟨Nat.le_of_ble_eq_true rfl, rfl, rfl, rfl⟩
theorem is_X46 {z : Zt} : Is (wX, z) 46 6 := ⟨Nat.le_of_ble_eq_true rfl, rfl⟩
theorem ia_X47 {z : Zt} : Ia (wX, z) 47 8 := ⟨Nat.le_of_ble_eq_true rfl, rfl, rfl, rfl⟩
theorem ia_X48 {z : Zt} : Ia (wX, z) 48 10 := ⟨Nat.le_of_ble_eq_true rfl, rfl, rfl, rfl⟩
theorem ia_X49 {z : Zt} : Ia (wX, z) 49 100 := ⟨Nat.le_of_ble_eq_true rfl, rfl, rfl, rfl⟩
theorem ia_X50 {z : Zt} : Ia (wX, z) 50 8 := ⟨Nat.le_of_ble_eq_true rfl, rfl, rfl, rfl⟩
theorem ia_X51 {z : Zt} : Ia (wX, z) 51 8 := ⟨Nat.le_of_ble_eq_true rfl, rfl, rfl, rfl⟩
theorem ia_X52 {z : Zt} : Ia (wX, z) 52 8 := ⟨Nat.le_of_ble_eq_true rfl, rfl, rfl, rfl⟩
theorem ia_X53 {z : Zt} : Ia (wX, z) 53 2048 := ⟨Nat.le_of_ble_eq_true rfl, rfl, rfl, rfl⟩
theorem ia_X54 {z : Zt} : Ia (wX, z) 54 2048 := ⟨Nat.le_of_ble_eq_true rfl, rfl, rfl, rfl⟩
theorem is_Y0 {z : Zt} : Is (wY, z) 0 7 := ⟨Nat.le_of_ble_eq_true rfl, rfl⟩
theorem ia_Y1 {z : Zt} : Ia (wY, z) 1 70 := ⟨Nat.le_of_ble_eq_true rfl, rfl, rfl, rfl⟩
theorem ia_Y2 {z : Zt} : Ia (wY, z) 2 70 := ⟨Nat.le_of_ble_eq_true rfl, rfl, rfl, rfl⟩
theorem ia_Y3 {z : Zt} : Ia (wY, z) 3 70 := ⟨Nat.le_of_ble_eq_true rfl, rfl, rfl, rfl⟩
theorem ia_Y4 {z : Zt} : Ia (wY, z) 4 7 := ⟨Nat.le_of_ble_eq_true rfl, rfl, rfl, rfl⟩
theorem ia_Y5 {z : Zt} : Ia (wY, z) 5 8 := ⟨Nat.le_of_ble_eq_true rfl, rfl, rfl, rfl⟩
theorem ia_Y6 {z : Zt} : Ia (wY, z) 6 8 := ⟨Nat.le_of_ble_eq_true rfl, rfl, rfl, rfl⟩
theorem ia_Y7 {z : Zt} : Ia (wY, z) 7 64 := ⟨Nat.le_of_ble_eq_true rfl, rfl, rfl, rfl⟩
theorem ia_Y8 {z : Zt} : Ia (wY, z) 8 2048 := ⟨Nat.le_of_ble_eq_true rfl, rfl, rfl, rfl⟩
theorem ia_Y9 {z : Zt} : Ia (wY, z) 9 40 := ⟨Nat.le_of_ble_eq_true rfl, rfl, rfl, rfl⟩
theorem ia_Y10 {z : Zt} : Ia (wY, z) 10 8 := ⟨Nat.le_of_ble_eq_true rfl, rfl, rfl, rfl⟩
theorem ia_Y11 {z : Zt} : Ia (wY, z) 11 120 := ⟨Nat.le_of_ble_eq_true rfl, rfl, rfl, rfl⟩
theorem ia_Y12 {z : Zt} : Ia (wY, z) 12 4 := ⟨Nat.le_of_ble_eq_true rfl, rfl, rfl, rfl⟩
theorem ia_Y13 {z : Zt} : Ia (wY, z) 13 4 := ⟨Nat.le_of_ble_eq_true rfl, rfl, rfl, rfl⟩
theorem ia_Y14 {z : Zt} : Ia (wY, z) 14 160 := ⟨Nat.le_of_ble_eq_true rfl, rfl, rfl, rfl⟩
theorem ia_Y15 {z : Zt} : Ia (wY, z) 15 40 := ⟨Nat.le_of_ble_eq_true rfl, rfl, rfl, rfl⟩
theorem kX_road : ∀ r, r < 55 → kX r = 2 → r + 10 < 55 ∧ kX (r + 1) = 8 ∧ kX (r + 2) = 110 ∧ ∀ k, k < 8 → kX (r + 3 + k) = 3 := by decide +kernel
theorem kX_sheet : ∀ r, r < 55 → kX r = 5 → r + 1 < 55 ∧ kX (r + 1) = 140 := by decide +kernel
theorem rd_pumps {z : Zt} {r : Nat} (h : Is (wX, z) r 2) : Ra (wX, z) (r + 1) 8 2 1 1 := by
  obtain ⟨h1, h2, -, -⟩ := kX_road r h.1 h.2
  exact ⟨by show r + 1 < 55; omega, by show kO (kX (r + 1)) = none; rw [h2]; rfl, by show kR (kX (r + 1)) = _; rw [h2]; rfl⟩
theorem rd_spots {z : Zt} {r : Nat} (h : Is (wX, z) r 2) : Ia (wX, z) (r + 2) 10 := by
  obtain ⟨h1, -, h2, -⟩ := kX_road r h.1 h.2
  exact ⟨by show r + 2 < 55; omega, by show kO (kX (r + 2)) = none; rw [h2]; rfl, by show kR (kX (r + 2)) = none; rw [h2]; rfl, by show kX (r + 2) - 100 = 10; rw [h2]⟩
theorem pm_is {z : Zt} {r q : Nat} {i : Int32} (h : Is (wX, z) r 2) (hin : vp_in i 8) (hk : i.toNatClampNeg = q) : Is (wX, z) (r + 3 + q) 3 := by
  obtain ⟨h1, -, -, h2⟩ := kX_road r h.1 h.2
  have hq : q < 8 := by rw [← hk]; exact Nat.not_le.mp fun z => hin (Or.inr z)
  exact ⟨by show r + 3 + q < 55; omega, h2 q hq⟩
theorem sh_nums {z : Zt} {r : Nat} (h : Is (wX, z) r 5) : Ia (wX, z) (r + 1) 40 := by
  obtain ⟨h1, h2⟩ := kX_sheet r h.1 h.2
  exact ⟨h1, by show kO (kX (r + 1)) = none; rw [h2]; rfl, by show kR (kX (r + 1)) = none; rw [h2]; rfl, by show kX (r + 1) - 100 = 40; rw [h2]⟩
theorem kX_st : ∀ k, k < 4 → 37 + 2 * k < 55 ∧ kX (37 + 2 * k) = 5 := by decide +kernel
theorem st_is {z : Zt} {q : Nat} {i : Int32} (hin : vp_in i 4) (hk : i.toNatClampNeg = q) : Is (wX, z) (37 + 2 * q) 5 := by
  have hq : q < 4 := by rw [← hk]; exact Nat.not_le.mp fun z => hin (Or.inr z)
  exact kX_st q hq
theorem ho_Y {z : Zt} : ∀ a, a ≠ 0 → a < gN (wY, z) → 100 ≤ gk (wY, z) a := by
  show ∀ a, a ≠ 0 → a < 16 → 100 ≤ kY a
  have key : ∀ a, a < 16 → a ≠ 0 → 100 ≤ kY a := by decide +kernel
  exact fun a h1 h2 => key a h2 h1
theorem kc_1 : Kc 1 RX5 := ⟨_, _, rfl, rfl, rfl⟩
theorem kc_2 : Kc 2 RX2 := ⟨_, _, rfl, rfl, rfl⟩
theorem kc_3 : Kc 3 RX1 := ⟨_, _, rfl, rfl, rfl⟩
theorem kc_4 : Kc 4 RX4 := ⟨_, _, rfl, rfl, rfl⟩
theorem kc_5 : Kc 5 RX3 := ⟨_, _, rfl, rfl, rfl⟩
theorem kc_6 : Kc 6 RX0 := ⟨_, _, rfl, rfl, rfl⟩
theorem kc_7 : Kc 7 RX6 := ⟨_, _, rfl, rfl, rfl⟩
theorem inX0 : ∀ w ∈ u_ws RX0 TX0 13, w ∈ gtb := by
  have h : (u_ws RX0 TX0 13).all (fun w => decide (w ∈ lw_tbl) && goodWord w) = true := by decide +kernel
  intro w hw
  have h1 := List.all_eq_true.mp h w hw
  simp only [Bool.and_eq_true, decide_eq_true_eq] at h1
  exact List.mem_filter.mpr h1
theorem inX1 : ∀ w ∈ u_ws RX1 TX1 6, w ∈ gtb := by
  have h : (u_ws RX1 TX1 6).all (fun w => decide (w ∈ lw_tbl) && goodWord w) = true := by decide +kernel
  intro w hw
  have h1 := List.all_eq_true.mp h w hw
  simp only [Bool.and_eq_true, decide_eq_true_eq] at h1
  exact List.mem_filter.mpr h1
theorem inX2 : ∀ w ∈ u_ws RX2 TX2 14, w ∈ gtb := by
  have h : (u_ws RX2 TX2 14).all (fun w => decide (w ∈ lw_tbl) && goodWord w) = true := by decide +kernel
  intro w hw
  have h1 := List.all_eq_true.mp h w hw
  simp only [Bool.and_eq_true, decide_eq_true_eq] at h1
  exact List.mem_filter.mpr h1
theorem inX3 : ∀ w ∈ u_ws RX3 TX3 3, w ∈ gtb := by
  have h : (u_ws RX3 TX3 3).all (fun w => decide (w ∈ lw_tbl) && goodWord w) = true := by decide +kernel
  intro w hw
  have h1 := List.all_eq_true.mp h w hw
  simp only [Bool.and_eq_true, decide_eq_true_eq] at h1
  exact List.mem_filter.mpr h1
theorem inX4 : ∀ w ∈ u_ws RX4 TX4 6, w ∈ gtb := by
  have h : (u_ws RX4 TX4 6).all (fun w => decide (w ∈ lw_tbl) && goodWord w) = true := by decide +kernel
  intro w hw
  have h1 := List.all_eq_true.mp h w hw
  simp only [Bool.and_eq_true, decide_eq_true_eq] at h1
  exact List.mem_filter.mpr h1
theorem inX5 : ∀ w ∈ u_ws RX5 TX5 8, w ∈ gtb := by
  have h : (u_ws RX5 TX5 8).all (fun w => decide (w ∈ lw_tbl) && goodWord w) = true := by decide +kernel
  intro w hw
  have h1 := List.all_eq_true.mp h w hw
  simp only [Bool.and_eq_true, decide_eq_true_eq] at h1
  exact List.mem_filter.mpr h1
theorem inX6 : ∀ w ∈ u_ws RX6 TX6 24, w ∈ gtb := by
  have h : (u_ws RX6 TX6 24).all (fun w => decide (w ∈ lw_tbl) && goodWord w) = true := by decide +kernel
  intro w hw
  have h1 := List.all_eq_true.mp h w hw
  simp only [Bool.and_eq_true, decide_eq_true_eq] at h1
  exact List.mem_filter.mpr h1
