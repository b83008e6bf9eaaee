/-! The relation between the class's memory and the model's; rows for a call on both sides -/
def rk (k : Nat) : Nat × Nat := if k < 12 then (0, [2, 13, 6, 7, 8, 9, 10, 3, 4, 5, 11, 12].getD k 0) else if k < 60 then (3 + (k - 12) / 6, (k - 12) % 6) else (2, k - 60)
theorem rk_p {p w : Nat} (hp : p < 8) (hw : w < 6) : rk (12 + 6 * p + w) = (3 + p, w) := by
  unfold rk
  rw [if_neg (by omega), if_pos (by omega)]
  have h1 : (12 + 6 * p + w - 12) / 6 = p := by omega
  have h2 : (12 + 6 * p + w - 12) % 6 = w := by omega
  rw [h1, h2]
theorem rk_s {k : Nat} : rk (60 + k) = (2, k) := by
  unfold rk
  rw [if_neg (by omega), if_neg (by omega)]
  have h : 60 + k - 60 = k := by omega
  rw [h]
theorem rk_le : ∀ k, k < 70 → (rk k).1 < 11 := by decide +kernel
theorem rk_inj : ∀ k, k < 70 → ∀ l, l < 70 → rk k = rk l → k = l := by decide +kernel
/-- a road at r of the class's, and a row of seventy at q of the model's -/
def RE (M1 : Me) (r : Nat) (M2 : Me) (q : Nat) : Prop := ∀ k, k < 70 → M1.1 (r + (rk k).1) (rk k).2 = M2.1 q k
theorem RE.wr {M1 M2 : Me} {r q k : Nat} {v : Int32} (h : RE M1 r M2 q) (hk : k < 70) : RE (wrM M1 (r + (rk k).1) (rk k).2 v) r (wrM M2 q k v) q := by
  intro l hl
  rw [wrM_at, wrM_at]
  by_cases e : l = k
  · subst e
    rw [if_pos ⟨rfl, rfl⟩, if_pos ⟨rfl, rfl⟩]
  · rw [if_neg (fun z => e (rk_inj l hl k hk (Prod.ext (by omega) z.2))), if_neg (fun z => e z.2)]
    exact h l hl
theorem RE.p {M1 M2 : Me} {r q p w : Nat} (h : RE M1 r M2 q) (hp : p < 8) (hw : w < 6) : M1.1 (r + 3 + p) w = M2.1 q (12 + 6 * p + w) := by
  have := h (12 + 6 * p + w) (by omega)
  rw [rk_p hp hw] at this
  rw [← this, Nat.add_assoc]
theorem RE.s {M1 M2 : Me} {r q k : Nat} (h : RE M1 r M2 q) (hk : k < 10) : M1.1 (r + 2) k = M2.1 q (60 + k) := by
  have := h (60 + k) (by omega)
  rw [rk_s] at this
  exact this
theorem RE.same {M1 M2 N1 N2 : Me} {r q : Nat} (h : RE M1 r M2 q) (h1 : ∀ d j, d < 11 → N1.1 (r + d) j = M1.1 (r + d) j) (h2 : ∀ j, N2.1 q j = M2.1 q j) : RE N1 r N2 q := by
  intro k hk
  rw [h1 _ _ (rk_le k hk), h2]
  exact h k hk
/-- bounds of a row -/
def loR (k : Nat) : Int := if k < 12 then [0, -2147483648, 1, 0, 0, 0, 0, 0, 0, -2147483648, -2147483648, -2147483648].getD k 0 else if k < 60 then 0 else -1
def hiR (n : Nat) (a b : Int) (k : Nat) : Int := if k < 12 then [8, 2147483647, 999, 99, 9, 23, 999, 99, b, 2147483647, 2147483647, 2147483647].getD k 0 else if k < 60 then [6, 99, 60, 11, (n : Int), 1].getD ((k - 12) % 6) 0 else a - 1
def RO (n : Nat) (s : Nat → Int32) : Prop := ∀ k, k < 70 → loR k ≤ (s k).toInt ∧ (s k).toInt ≤ hiR n (s 0).toInt (s 2).toInt k
theorem hiR_mono {n m : Nat} {a b c d : Int} {k : Nat} (h : n ≤ m) (ha : a ≤ c) (hb : b ≤ d) : hiR n a b k ≤ hiR m c d k := by
  unfold hiR
  by_cases h1 : k < 12
  · rw [if_pos h1, if_pos h1]
    match k, h1 with
    | 0, _ => exact Int.le_refl _
    | 1, _ => exact Int.le_refl _
    | 2, _ => exact Int.le_refl _
    | 3, _ => exact Int.le_refl _
    | 4, _ => exact Int.le_refl _
    | 5, _ => exact Int.le_refl _
    | 6, _ => exact Int.le_refl _
    | 7, _ => exact Int.le_refl _
    | 8, _ => exact hb
    | 9, _ => exact Int.le_refl _
    | 10, _ => exact Int.le_refl _
    | 11, _ => exact Int.le_refl _
    | k + 12, h => omega
  · rw [if_neg h1, if_neg h1]
    by_cases h2 : k < 60
    · rw [if_pos h2, if_pos h2]
      have h3 : (k - 12) % 6 < 6 := Nat.mod_lt _ (by decide)
      generalize (k - 12) % 6 = w at h3
      match w, h3 with
      | 0, _ => exact Int.le_refl _
      | 1, _ => exact Int.le_refl _
      | 2, _ => exact Int.le_refl _
      | 3, _ => exact Int.le_refl _
      | 4, _ => exact (show (n : Int) ≤ m by omega)
      | 5, _ => exact Int.le_refl _
      | w + 6, h => omega
    · rw [if_neg h2, if_neg h2]
      omega
theorem hiR_b {n : Nat} {a b d : Int} {k : Nat} (h8 : k ≠ 8) : hiR n a b k ≤ hiR n a d k := by
  unfold hiR
  by_cases h1 : k < 12
  · rw [if_pos h1, if_pos h1]
    match k, h1, h8 with
    | 0, _, _ => exact Int.le_refl _
    | 1, _, _ => exact Int.le_refl _
    | 2, _, _ => exact Int.le_refl _
    | 3, _, _ => exact Int.le_refl _
    | 4, _, _ => exact Int.le_refl _
    | 5, _, _ => exact Int.le_refl _
    | 6, _, _ => exact Int.le_refl _
    | 7, _, _ => exact Int.le_refl _
    | 8, _, h8 => exact absurd rfl h8
    | 9, _, _ => exact Int.le_refl _
    | 10, _, _ => exact Int.le_refl _
    | 11, _, _ => exact Int.le_refl _
    | k + 12, h, _ => omega
  · rw [if_neg h1, if_neg h1]
    exact Int.le_refl _
theorem RO.mono {n m : Nat} {s : Nat → Int32} (h : RO n s) (hm : n ≤ m) : RO m s := fun k hk => ⟨(h k hk).1, Int.le_trans (h k hk).2 (hiR_mono hm (Int.le_refl _) (Int.le_refl _))⟩
theorem RO.same {n : Nat} {s t : Nat → Int32} (h : RO n s) (e : ∀ k, t k = s k) : RO n t := by
  have : t = s := funext e
  rw [this]
  exact h
theorem RO.up {n m k : Nat} {s : Nat → Int32} {v : Int32} (h : RO n s) (hm : n ≤ m) (h0 : k ≠ 0) (h2 : k ≠ 2) (h3 : loR k ≤ v.toInt) (h4 : v.toInt ≤ hiR m (s 0).toInt (s 2).toInt k) : RO m (upd s k v) := by
  intro l hl
  rw [upd_ne (Ne.symm h0), upd_ne (Ne.symm h2)]
  by_cases e : l = k
  · subst e
    rw [upd_eq]
    exact ⟨h3, h4⟩
  · rw [upd_ne e]
    exact h.mono hm l hl
theorem RO.up2 {n m : Nat} {s : Nat → Int32} {v : Int32} (h : RO n s) (hm : n ≤ m) (h3 : 1 ≤ v.toInt) (h4 : v.toInt ≤ 999) (h5 : (s 8).toInt ≤ v.toInt) : RO m (upd s 2 v) := by
  intro l hl
  by_cases e : l = 2
  · subst e
    rw [upd_eq]
    exact ⟨h3, h4⟩
  · rw [upd_ne e, upd_eq, upd_ne (show 0 ≠ 2 by decide)]
    by_cases e8 : l = 8
    · subst e8
      exact ⟨(h 8 hl).1, h5⟩
    · have := h.mono hm l hl
      refine ⟨this.1, Int.le_trans this.2 (hiR_b e8)⟩
theorem RO.up0 {n m : Nat} {s : Nat → Int32} {v : Int32} (h : RO n s) (hm : n ≤ m) (h3 : (s 0).toInt ≤ v.toInt) (h4 : v.toInt ≤ 8) : RO m (upd s 0 v) := by
  intro l hl
  by_cases e : l = 0
  · subst e
    rw [upd_eq]
    exact ⟨Int.le_trans (h 0 (by decide)).1 h3, h4⟩
  · rw [upd_ne e, upd_eq, upd_ne (show 2 ≠ 0 by decide)]
    exact ⟨(h l hl).1, Int.le_trans (h l hl).2 (hiR_mono hm h3 (Int.le_refl _))⟩
theorem RO.k0 {n : Nat} {s : Nat → Int32} (h : RO n s) : 0 ≤ (s 0).toInt ∧ (s 0).toInt ≤ 8 := h 0 (by decide)
theorem RO.k2 {n : Nat} {s : Nat → Int32} (h : RO n s) : 1 ≤ (s 2).toInt ∧ (s 2).toInt ≤ 999 := h 2 (by decide)
theorem RO.k3 {n : Nat} {s : Nat → Int32} (h : RO n s) : 0 ≤ (s 3).toInt ∧ (s 3).toInt ≤ 99 := h 3 (by decide)
theorem RO.k4 {n : Nat} {s : Nat → Int32} (h : RO n s) : 0 ≤ (s 4).toInt ∧ (s 4).toInt ≤ 9 := h 4 (by decide)
theorem RO.k5 {n : Nat} {s : Nat → Int32} (h : RO n s) : 0 ≤ (s 5).toInt ∧ (s 5).toInt ≤ 23 := h 5 (by decide)
theorem RO.k6 {n : Nat} {s : Nat → Int32} (h : RO n s) : 0 ≤ (s 6).toInt ∧ (s 6).toInt ≤ 999 := h 6 (by decide)
theorem RO.k7 {n : Nat} {s : Nat → Int32} (h : RO n s) : 0 ≤ (s 7).toInt ∧ (s 7).toInt ≤ 99 := h 7 (by decide)
theorem RO.k8 {n : Nat} {s : Nat → Int32} (h : RO n s) : 0 ≤ (s 8).toInt ∧ (s 8).toInt ≤ (s 2).toInt := h 8 (by decide)
theorem lo_p {p w : Nat} (hp : p < 8) (hw : w < 6) : loR (12 + 6 * p + w) = 0 := by
  unfold loR
  rw [if_neg (by omega), if_pos (by omega)]
theorem hi_p {n : Nat} {a b : Int} {p w : Nat} (hp : p < 8) (hw : w < 6) : hiR n a b (12 + 6 * p + w) = [6, 99, 60, 11, (n : Int), 1].getD w 0 := by
  unfold hiR
  rw [if_neg (by omega), if_pos (by omega)]
  have h2 : (12 + 6 * p + w - 12) % 6 = w := by omega
  rw [h2]
theorem RO.p {n : Nat} {s : Nat → Int32} (h : RO n s) {p w : Nat} (hp : p < 8) (hw : w < 6) : 0 ≤ (s (12 + 6 * p + w)).toInt ∧ (s (12 + 6 * p + w)).toInt ≤ [6, 99, 60, 11, (n : Int), 1].getD w 0 := by
  have := h (12 + 6 * p + w) (by omega)
  rw [lo_p hp hw, hi_p hp hw] at this
  exact this
theorem lo_s {k : Nat} : loR (60 + k) = -1 := by
  unfold loR
  rw [if_neg (by omega), if_neg (by omega)]
theorem hi_s {n : Nat} {a b : Int} {k : Nat} : hiR n a b (60 + k) = a - 1 := by
  unfold hiR
  rw [if_neg (by omega), if_neg (by omega)]
theorem RO.s {n : Nat} {s : Nat → Int32} (h : RO n s) {k : Nat} (hk : k < 10) : -1 ≤ (s (60 + k)).toInt ∧ (s (60 + k)).toInt ≤ (s 0).toInt - 1 := by
  have := h (60 + k) (by omega)
  rw [lo_s, hi_s] at this
  exact this
def TP (M1 M2 : Me) : Prop := M1.1 34 1 = M2.1 0 15 ∧ (0 ≤ (M2.1 0 15).toInt ∧ (M2.1 0 15).toInt ≤ 120) ∧ ∀ i, i < 120 → M1.1 35 i = M2.1 11 i
def SH (M1 M2 : Me) : Prop := ∀ s, s < 4 → M1.1 (37 + 2 * s) 1 = M2.1 12 s ∧ M1.1 (37 + 2 * s) 2 = M2.1 13 s ∧ (0 ≤ (M2.1 13 s).toInt ∧ (M2.1 13 s).toInt ≤ 40) ∧ ∀ i, i < 40 → M1.1 (37 + 2 * s + 1) i = M2.1 14 (40 * s + i)
def MT (M1 : Me) : Prop := ∀ S, S < 256 → ∀ l, l < 8 → S.testBit l = false → M1.1 53 (8 * S + l) = -1
/-- all but the road's bounds -/
def Rl (n : Nat) (M1 M2 : Me) : Prop := RE M1 1 M2 1 ∧ (M1.1 0 3 = M2.1 0 4 ∧ (M2.1 0 4 = 0 ∨ M2.1 0 4 = 1)) ∧ (M2.1 0 4 = 1 → RE M1 12 M2 2 ∧ RO n (M2.1 2)) ∧ TP M1 M2 ∧ SH M1 M2 ∧ (∀ k, k < 7 → M1.1 45 k = M2.1 4 k) ∧ MT M1
def Rr (n : Nat) (M1 M2 : Me) : Prop := Rl n M1 M2 ∧ RO n (M2.1 1)
theorem Rl.mono {n m : Nat} {M1 M2 : Me} (h : Rl n M1 M2) (hm : n ≤ m) : Rl m M1 M2 := ⟨h.1, h.2.1, fun z => ⟨(h.2.2.1 z).1, (h.2.2.1 z).2.mono hm⟩, h.2.2.2⟩
theorem Rr.mono {n m : Nat} {M1 M2 : Me} (h : Rr n M1 M2) (hm : n ≤ m) : Rr m M1 M2 := ⟨h.1.mono hm, h.2.mono hm⟩
theorem wr_1 {M : Me} {q k : Nat} {v : Int32} : (wrM M q k v).1 q = upd (M.1 q) k v := by
  funext j
  rw [wrM_at]
  unfold upd
  simp
theorem wr_n {M : Me} {q q' k : Nat} {v : Int32} (h : q' ≠ q) : (wrM M q k v).1 q' = M.1 q' := by
  funext j
  exact wrM_nr h
/-- one number of the road's row is written on both sides -/
theorem Rl.wr {n k : Nat} {M1 M2 : Me} {v : Int32} (h : Rl n M1 M2) (hk : k < 70) : Rl n (wrM M1 (1 + (rk k).1) (rk k).2 v) (wrM M2 1 k v) := by
  have hd := rk_le k hk
  obtain ⟨h1, ⟨h2, h2'⟩, h3, ⟨h4, h4', h4''⟩, h5, h6, h7⟩ := h
  refine ⟨h1.wr hk, ⟨?_, ?_⟩, ?_, ⟨?_, ?_, ?_⟩, ?_, ?_, ?_⟩
  · rw [wrM_nr (by omega), wrM_nr (by omega)]; exact h2
  · rw [wrM_nr (by omega)]; exact h2'
  · rw [wrM_nr (by omega)]
    intro z
    refine ⟨(h3 z).1.same (fun d j hd' => wrM_nr (by omega)) (fun j => wrM_nr (by omega)), ?_⟩
    rw [wr_n (by omega)]
    exact (h3 z).2
  · rw [wrM_nr (by omega), wrM_nr (by omega)]; exact h4
  · rw [wrM_nr (by omega)]; exact h4'
  · intro i hi
    rw [wrM_nr (by omega), wrM_nr (by omega)]; exact h4'' i hi
  · intro s hs
    obtain ⟨a1, a2, a3, a4⟩ := h5 s hs
    refine ⟨?_, ?_, ?_, fun i hi => ?_⟩
    · rw [wrM_nr (by omega), wrM_nr (by omega)]; exact a1
    · rw [wrM_nr (by omega), wrM_nr (by omega)]; exact a2
    · rw [wrM_nr (by omega)]; exact a3
    · rw [wrM_nr (by omega), wrM_nr (by omega)]; exact a4 i hi
  · intro i hi
    rw [wrM_nr (by omega), wrM_nr (by omega)]; exact h6 i hi
  · intro S hS l hl z
    rw [wrM_nr (by omega)]; exact h7 S hS l hl z
/-- what lies beside the relation changes -/
theorem Rl.fr {n : Nat} {M1 M2 N1 N2 : Me} (h : Rl n M1 M2) (f1 : ∀ r j, r < 46 → N1.1 r j = M1.1 r j) (f2 : MT N1) (f3 : ∀ r j, r = 1 ∨ r = 2 ∨ r = 4 ∨ (11 ≤ r ∧ r < 15) → N2.1 r j = M2.1 r j) (f4 : N2.1 0 4 = M2.1 0 4) (f5 : N2.1 0 15 = M2.1 0 15) : Rl n N1 N2 := by
  obtain ⟨h1, ⟨h2, h2'⟩, h3, ⟨h4, h4', h4''⟩, h5, h6, h7⟩ := h
  refine ⟨h1.same (fun d j hd => f1 _ _ (by omega)) (fun j => f3 _ _ (by omega)), ⟨?_, ?_⟩, ?_, ⟨?_, ?_, ?_⟩, ?_, ?_, f2⟩
  · rw [f1 _ _ (by omega), f4]; exact h2
  · rw [f4]; exact h2'
  · rw [f4]
    intro z
    refine ⟨(h3 z).1.same (fun d j hd' => f1 _ _ (by omega)) (fun j => f3 _ _ (by omega)), (h3 z).2.same (fun k => f3 _ _ (by omega))⟩
  · rw [f1 _ _ (by omega), f5]; exact h4
  · rw [f5]; exact h4'
  · intro i hi
    rw [f1 _ _ (by omega), f3 _ _ (by omega)]; exact h4'' i hi
  · intro s hs
    obtain ⟨a1, a2, a3, a4⟩ := h5 s hs
    refine ⟨?_, ?_, ?_, fun i hi => ?_⟩
    · rw [f1 _ _ (by omega), f3 _ _ (by omega)]; exact a1
    · rw [f1 _ _ (by omega), f3 _ _ (by omega)]; exact a2
    · rw [f3 _ _ (by omega)]; exact a3
    · rw [f1 _ _ (by omega), f3 _ _ (by omega)]; exact a4 i hi
  · intro i hi
    rw [f1 _ _ (by omega), f3 _ _ (by omega)]; exact h6 i hi
theorem Rr.fr {n : Nat} {M1 M2 N1 N2 : Me} (h : Rr n M1 M2) (f1 : ∀ r j, r < 46 → N1.1 r j = M1.1 r j) (f2 : MT N1) (f3 : ∀ r j, r = 1 ∨ r = 2 ∨ r = 4 ∨ (11 ≤ r ∧ r < 15) → N2.1 r j = M2.1 r j) (f4 : N2.1 0 4 = M2.1 0 4) (f5 : N2.1 0 15 = M2.1 0 15) : Rr n N1 N2 := ⟨h.1.fr f1 f2 f3 f4 f5, h.2.same (fun k => f3 _ _ (by omega))⟩
-- at the start, and over a step that calls nothing
theorem R_0 : Rr 0 M0X M0Y := by
  have a : ∀ k, k < 70 → M0X.1 (1 + (rk k).1) (rk k).2 = M0Y.1 1 k := by decide +kernel
  have b : ∀ k, k < 70 → loR k ≤ (M0Y.1 1 k).toInt ∧ (M0Y.1 1 k).toInt ≤ hiR 0 (M0Y.1 1 0).toInt (M0Y.1 1 2).toInt k := by decide +kernel
  refine ⟨⟨a, ⟨rfl, Or.inl rfl⟩, fun z => ?_, ⟨rfl, by decide, fun i hi => rfl⟩, fun s hs => ?_, fun k hk => rfl, fun S hS l hl z => rfl⟩, b⟩
  · exact absurd z (by decide)
  · match s, hs with
    | 0, _ => exact ⟨rfl, rfl, by decide, fun i hi => rfl⟩
    | 1, _ => exact ⟨rfl, rfl, by decide, fun i hi => rfl⟩
    | 2, _ => exact ⟨rfl, rfl, by decide, fun i hi => rfl⟩
    | 3, _ => exact ⟨rfl, rfl, by decide, fun i hi => rfl⟩
    | s + 4, h => omega
theorem R_skip (n : Nat) (M1 M2 : Me) (_ : n < 512) (h : Rr n M1 M2) : Rr (n + 1) M1 M2 := h.mono (Nat.le_succ n)
-- a call on both sides
def SM {α : Type} (n : Nat) (x1 x2 : Option (α × Me)) : Prop := ∃ (v : α) (N1 N2 : Me), x1 = some (v, N1) ∧ x2 = some (v, N2) ∧ Rr (n + 1) N1 N2
section SMR
variable {α β : Type} {n : Nat} {A B x y : Option (α × Me)} {c : Prop}
theorem SM.t1 [Decidable c] (hc : c) (h : SM n A y) : SM n (if c then A else B) y := by rw [if_pos hc]; exact h
theorem SM.f1 [Decidable c] (hc : ¬ c) (h : SM n B y) : SM n (if c then A else B) y := by rw [if_neg hc]; exact h
theorem SM.t2 [Decidable c] (hc : c) (h : SM n x A) : SM n x (if c then A else B) := by rw [if_pos hc]; exact h
theorem SM.f2 [Decidable c] (hc : ¬ c) (h : SM n x B) : SM n x (if c then A else B) := by rw [if_neg hc]; exact h
theorem SM.b1 {z : Option β} {b : β} {f : β → Option (α × Me)} (e : z = some b) (h : SM n (f b) y) : SM n (z.bind f) y := by subst e; exact h
theorem SM.b2 {z : Option β} {b : β} {f : β → Option (α × Me)} (e : z = some b) (h : SM n x (f b)) : SM n x (z.bind f) := by subst e; exact h
theorem SM.e {v w : α} {N1 N2 : Me} (e : v = w) (h : Rr (n + 1) N1 N2) : SM n (some (v, N1)) (some (w, N2)) := by subst e; exact ⟨v, N1, N2, rfl, rfl, h⟩
end SMR
theorem fnd {n : Nat} {M1 M2 : Me} (h : Rr n M1 M2) (k : Nat) (hk : k < 7) : ∃ (v : Int32) (N1 N2 : Me), fpX5_finding (J k) M1 = some (v, N1) ∧ fpX6_finds (J (-1000001 - k)) M2 = some (v, N2) ∧ Rr (n + 1) N1 N2 := by
  refine ⟨J (-1000001 - k), wrM M1 45 k (M1.1 45 k + 1), wrM M2 4 k (M2.1 4 k + 1), ?_, ?_, ?_⟩
  · unfold fpX5_finding
    rw [inbJ hk (by decide)]
    show some ((-1000001 : Int32) - J k, _) = _
    rw [show (-1000001 : Int32) = J (-1000001) from rfl, J_sub]
  · unfold fpX6_finds
    have e : (-1000001 : Int32) - J (-1000001 - (k : Int)) = J (k : Nat) := by
      rw [show (-1000001 : Int32) = J (-1000001) from rfl, J_sub]
      congr 1
      omega
    rw [e]
    show (inb (J k) 7).bind _ = _
    rw [inbJ hk (by decide)]
    rfl
  · obtain ⟨⟨h1, ⟨h2, h2'⟩, h3, ⟨h4, h4', h4''⟩, h5, h6, h7⟩, h8⟩ := h.mono (Nat.le_succ n)
    refine ⟨⟨h1.same (fun d j hd => wrM_nr (by omega)) (fun j => wrM_nr (by omega)), ⟨?_, ?_⟩, ?_, ⟨?_, ?_, ?_⟩, ?_, ?_, ?_⟩, ?_⟩
    · rw [wrM_nr (by omega), wrM_nr (by omega)]; exact h2
    · rw [wrM_nr (by omega)]; exact h2'
    · rw [wrM_nr (by omega)]
      intro z
      refine ⟨(h3 z).1.same (fun d j hd' => wrM_nr (by omega)) (fun j => wrM_nr (by omega)), ?_⟩
      rw [wr_n (by omega)]
      exact (h3 z).2
    · rw [wrM_nr (by omega), wrM_nr (by omega)]; exact h4
    · rw [wrM_nr (by omega)]; exact h4'
    · intro i hi
      rw [wrM_nr (by omega), wrM_nr (by omega)]; exact h4'' i hi
    · intro s hs
      obtain ⟨a1, a2, a3, a4⟩ := h5 s hs
      refine ⟨?_, ?_, ?_, fun i hi => ?_⟩
      · rw [wrM_nr (by omega), wrM_nr (by omega)]; exact a1
      · rw [wrM_nr (by omega), wrM_nr (by omega)]; exact a2
      · rw [wrM_nr (by omega)]; exact a3
      · rw [wrM_nr (by omega), wrM_nr (by omega)]; exact a4 i hi
    · intro i hi
      rw [wrM_at, wrM_at]
      by_cases e : i = k
      · subst e
        rw [if_pos ⟨rfl, rfl⟩, if_pos ⟨rfl, rfl⟩, h6 i hi]
      · rw [if_neg (fun z => e z.2), if_neg (fun z => e z.2)]
        exact h6 i hi
    · intro S hS l hl z
      rw [wrM_nr (by omega)]; exact h7 S hS l hl z
    · rw [wr_n (by omega)]; exact h8
theorem SM.fi {n : Nat} {M1 M2 : Me} (h : Rr n M1 M2) (k : Nat) (hk : k < 7) {a b : Int32} (ha : a = J k) (hb : b = J (-1000001 - k)) : SM n ((fpX5_finding a M1).bind fun q => some (q.1, q.2)) ((fpX6_finds b M2).bind fun q => some (q.1, q.2)) := by
  obtain ⟨v, N1, N2, h1, h2, h3⟩ := fnd h k hk
  subst ha
  subst hb
  rw [h1, h2]
  exact ⟨v, N1, N2, rfl, rfl, h3⟩
theorem SM.fiL {n : Nat} {M1 M2 : Me} (h : Rr n M1 M2) (k : Nat) (hk : k < 7) {a b : Int32} (ha : a = J k) (hb : b = J (-1000001 - k)) : SM n ((fpX5_finding a M1).bind fun q => some (q.1.toInt64, q.2)) ((fpX6_finds b M2).bind fun q => some (q.1.toInt64, q.2)) := by
  obtain ⟨v, N1, N2, h1, h2, h3⟩ := fnd h k hk
  subst ha
  subst hb
  rw [h1, h2]
  exact ⟨v.toInt64, N1, N2, rfl, rfl, h3⟩
-- what the two ask
theorem out0 {a b c : Int32} : fpX5_outside a b c = 0 ↔ b.toInt ≤ a.toInt ∧ a.toInt ≤ c.toInt := by
  unfold fpX5_outside
  simp only [Int32.lt_iff_toInt_lt, Int32.le_iff_toInt_le]
  by_cases h1 : a.toInt < b.toInt
  · rw [if_pos h1]
    exact ⟨fun h => absurd h (by decide), fun h => by omega⟩
  · rw [if_neg h1]
    by_cases h2 : a.toInt ≤ c.toInt
    · rw [if_pos h2]
      exact ⟨fun _ => by omega, fun _ => rfl⟩
    · rw [if_neg h2]
      exact ⟨fun h => absurd h (by decide), fun h => by omega⟩
theorem in0 {a : Int32} {b c : Int64} : fpX6_in a.toInt64 b c = 0 ↔ ¬ (b.toInt ≤ a.toInt ∧ a.toInt ≤ c.toInt) := by
  unfold fpX6_in
  have e : a.toInt64.toInt = a.toInt := by simp
  have h1 : (lg_cmp a.toInt64 b < 0) ↔ a.toInt < b.toInt := by
    have := lg_cmp_ge a.toInt64 b
    rw [Int64.le_iff_toInt_le, e] at this
    rw [← Int32.not_le, this]
    omega
  have h2 : (0 < lg_cmp a.toInt64 c) ↔ c.toInt < a.toInt := by
    unfold lg_cmp
    simp only [gt_iff_lt, Int64.lt_iff_toInt_lt, e]
    by_cases z : c.toInt < a.toInt
    · rw [if_pos z]; exact ⟨fun _ => z, fun _ => by decide⟩
    · rw [if_neg z]
      refine ⟨fun h => ?_, fun h => absurd h z⟩
      by_cases z2 : a.toInt64 = c
      · rw [if_pos z2] at h; exact absurd h (by decide)
      · rw [if_neg z2] at h; exact absurd h (by decide)
  by_cases z1 : a.toInt < b.toInt
  · rw [if_pos (h1.2 z1)]
    exact ⟨fun _ => by omega, fun _ => rfl⟩
  · rw [if_neg (fun z => z1 (h1.1 z))]
    by_cases z2 : c.toInt < a.toInt
    · rw [if_pos (h2.2 z2)]
      exact ⟨fun _ => by omega, fun _ => rfl⟩
    · rw [if_neg (fun z => z2 (h2.1 z))]
      exact ⟨fun h => absurd h (by decide), fun h => absurd (show b.toInt ≤ a.toInt ∧ a.toInt ≤ c.toInt by omega) h⟩
theorem in1 {a : Int32} {b c : Int64} (h : b.toInt ≤ a.toInt ∧ a.toInt ≤ c.toInt) : ¬ fpX6_in a.toInt64 b c = 0 := fun z => (in0.1 z) h
theorem in1' {a : Int32} {b c : Int64} (h : b.toInt ≤ a.toInt ∧ a.toInt ≤ c.toInt) : fpX6_in a.toInt64 b c = 1 := by
  have := in1 h
  unfold fpX6_in at this ⊢
  split
  · next z => rw [if_pos z] at this; exact absurd rfl this
  · next z =>
    split
    · next z2 => rw [if_neg z, if_pos z2] at this; exact absurd rfl this
    · rfl
theorem has0 {r : Nat} {a : Int32} {M : Me} : fpX2_has r a M = 0 ↔ ¬ (0 ≤ a.toInt ∧ a.toInt < (M.1 r 2).toInt) := by
  unfold fpX2_has
  simp only [Int32.lt_iff_toInt_lt, Int32.le_iff_toInt_le, show (0 : Int32).toInt = 0 from rfl]
  by_cases h1 : a.toInt < 0
  · rw [if_pos h1]
    exact ⟨fun _ => by omega, fun _ => rfl⟩
  · rw [if_neg h1]
    by_cases h2 : (M.1 r 2).toInt ≤ a.toInt
    · rw [if_pos h2]
      exact ⟨fun _ => by omega, fun _ => rfl⟩
    · rw [if_neg h2]
      exact ⟨fun h => absurd h (by decide), fun h => by omega⟩
theorem isP0 {a : Int32} {M : Me} (h : 0 ≤ (M.1 1 0).toInt ∧ (M.1 1 0).toInt ≤ 8) : fpX6_isPump a M = 0 ↔ ¬ (0 ≤ a.toInt ∧ a.toInt < (M.1 1 0).toInt) := by
  unfold fpX6_isPump
  rw [in0]
  have e : ((M.1 1 0 - 1).toInt64).toInt = (M.1 1 0).toInt - 1 := by
    have : M.1 1 0 - 1 = J ((M.1 1 0).toInt - 1) := by
      rw [← J_sub, J_t]; rfl
    rw [this]
    have e2 : ∀ x : Int32, x.toInt64.toInt = x.toInt := fun x => by simp
    rw [e2, tJ (by omega) (by omega)]
  rw [e, show (0 : Int64).toInt = 0 from rfl]
  omega
