/-! sheet, write, copy, load -/
theorem Rr.sh {n : Nat} {M1 M2 N1 N2 : Me} (R : Rr n M1 M2) (f1 : ∀ r j, r < 37 ∨ 45 ≤ r → N1.1 r j = M1.1 r j) (f2 : ∀ r j, r < 12 → N2.1 r j = M2.1 r j) (t : SH N1 N2) : Rr n N1 N2 := by
  obtain ⟨⟨h1, ⟨h2, h2'⟩, h3, ⟨h4, h4', h4''⟩, h5, h6, h7⟩, h8⟩ := R
  refine ⟨⟨h1.same (fun d j hd => f1 _ _ (by omega)) (fun j => f2 _ _ (by omega)), ⟨?_, ?_⟩, ?_, ⟨?_, ?_, ?_⟩, t, ?_, ?_⟩, h8.same (fun k => f2 _ _ (by omega))⟩
  · rw [f1 _ _ (by omega), f2 _ _ (by omega)]; exact h2
  · rw [f2 _ _ (by omega)]; exact h2'
  · rw [f2 _ _ (by omega)]
    intro z
    exact ⟨(h3 z).1.same (fun d j hd' => f1 _ _ (by omega)) (fun j => f2 _ _ (by omega)), (h3 z).2.same (fun k => f2 _ _ (by omega))⟩
  · rw [f1 _ _ (by omega), f2 _ _ (by omega)]; exact h4
  · rw [f2 _ _ (by omega)]; exact h4'
  · intro i hi
    rw [f1 _ _ (by omega), f2 _ _ (by omega)]; exact h4'' i hi
  · intro i hi
    rw [f1 _ _ (by omega), f2 _ _ (by omega)]; exact h6 i hi
  · intro S hS l hl z
    rw [f1 _ _ (by omega)]; exact h7 S hS l hl z
def zX (q i : Nat) (M : Me) : Me := (fun a j => if a = q ∧ j < i then 0 else M.1 a j, M.2)
def zY (s i : Nat) (M : Me) : Me := (fun a j => if a = 14 ∧ 40 * s ≤ j ∧ j < 40 * s + i then 0 else M.1 a j, M.2)
theorem zX_s {q i : Nat} {M : Me} : wrM (zX q i M) q i 0 = zX q (i + 1) M := by
  refine me_ext (fun a j => ?_) rfl
  rw [wrM_at]
  show (if a = q ∧ j = i then (0 : Int32) else if a = q ∧ j < i then 0 else M.1 a j) = if a = q ∧ j < i + 1 then 0 else M.1 a j
  by_cases h1 : a = q ∧ j = i
  · rw [if_pos h1, if_pos (by omega)]
  · rw [if_neg h1]
    by_cases h2 : a = q ∧ j < i
    · rw [if_pos h2, if_pos (by omega)]
    · rw [if_neg h2, if_neg (by omega)]
theorem zY_s {s i : Nat} {M : Me} : wrM (zY s i M) 14 (40 * s + i) 0 = zY s (i + 1) M := by
  refine me_ext (fun a j => ?_) rfl
  rw [wrM_at]
  show (if a = 14 ∧ j = 40 * s + i then (0 : Int32) else if a = 14 ∧ 40 * s ≤ j ∧ j < 40 * s + i then 0 else M.1 a j) = if a = 14 ∧ 40 * s ≤ j ∧ j < 40 * s + (i + 1) then 0 else M.1 a j
  by_cases h1 : a = 14 ∧ j = 40 * s + i
  · rw [if_pos h1, if_pos (by omega)]
  · rw [if_neg h1]
    by_cases h2 : a = 14 ∧ 40 * s ≤ j ∧ j < 40 * s + i
    · rw [if_pos h2, if_pos (by omega)]
    · rw [if_neg h2, if_neg (by omega)]
theorem c40 {i : Nat} (hi : i < 40) : ¬ (40 : Int32) ≤ J (i : Nat) := fun z => by have := (leN (a := 40) (by omega) (by omega)).1 z; omega
theorem begin_e {r : Nat} {b c : Int32} {M : Me} : fpX3_begin r b c M = some (zX (r + 1) 40 (wrM (wrM M r 1 b) r 2 c)) := by
  unfold fpX3_begin letv
  dsimp only
  generalize wrM (wrM M r 1 b) r 2 c = K
  have e0 : zX (r + 1) 0 K = K := me_ext (fun a j => if_neg (by omega)) rfl
  have e : lp (fpX3_begin_l12 r) FU (J ((0 : Nat) : Int), zX (r + 1) 0 K) = some (zX (r + 1) 40 K) := by
    refine lp_tr (fun i : Nat => (J (i : Nat), zX (r + 1) i K)) 40 (by decide) (fun i hi => ?_) rfl
    show fpX3_begin_l12s r (J (i : Nat)) (zX (r + 1) i K) = _
    unfold fpX3_begin_l12s letv
    rw [if_neg (c40 hi), inbJ hi (by decide), Option.bind_some, J_succ, zX_s]
  rw [e0] at e
  have e' : lp (fpX3_begin_l12 r) FU ((0 : Int32), K) = some (zX (r + 1) 40 K) := e
  rw [e']
  rfl
theorem j40 {s i : Nat} : (40 : Int32) * J (s : Nat) + J (i : Nat) = J ((40 * s + i : Nat) : Int) := by
  rw [show (40 : Int32) = J 40 from rfl, J_mul, J_add]
  rfl
theorem sheetY {s : Nat} {K : Me} (hs : s < 4) : lp (fpX6_sheet_l86 (J (s : Nat))) FU ((0 : Int32), K) = some (zY s 40 K) := by
  have e0 : zY s 0 K = K := me_ext (fun a j => if_neg (by omega)) rfl
  have e : lp (fpX6_sheet_l86 (J (s : Nat))) FU (J ((0 : Nat) : Int), zY s 0 K) = some (zY s 40 K) := by
    refine lp_tr (fun i : Nat => (J (i : Nat), zY s i K)) 40 (by decide) (fun i hi => ?_) rfl
    show fpX6_sheet_l86s (J (s : Nat)) (J (i : Nat)) (zY s i K) = _
    unfold fpX6_sheet_l86s letv
    rw [if_neg (c40 hi), j40, inbJ (by omega) (by decide), Option.bind_some, J_succ, zY_s]
  rw [e0] at e
  exact e
theorem s37 : sim37 Rr := by
  intro n M1 M2 a b c _ R
  show SM n _ _
  unfold fpX5_sheet fpX6_sheet fpX5_noSuchSheet fpX6_isOne
  by_cases h : 0 ≤ a.toInt ∧ a.toInt ≤ 3
  · refine .t1 (out0.2 h) (.f2 (in1 h) ?_)
    obtain ⟨s, rfl, hs'⟩ := ofI h.1
    have hs : s < 4 := by omega
    have main : SM n (fpX5_sheet_b35 (J (s : Nat)) b c M1) (fpX6_sheet_b36 (J (s : Nat)) b c M2) := by
      unfold fpX5_sheet_b35 fpX6_sheet_b36
      by_cases h0 : (0 : Int32) ≤ c
      · refine .t1 h0 (.t2 h0 ?_)
        by_cases h4 : c ≤ (40 : Int32)
        · refine .t1 h4 (.t2 h4 (.b1 (inbJ hs (by decide)) (.b2 (inbJ hs (by decide)) ?_)))
          have fin : ∀ d : Int32, (0 ≤ d.toInt ∧ d.toInt ≤ 40) → SM n (fpX5_sheet_b74 (J (s : Nat)) (37 + 2 * s) b d M1) (fpX6_sheet_b82 (J (s : Nat)) (J (s : Nat)) d (wrM M2 12 s b)) := by
            intro d hd
            unfold fpX5_sheet_b74 fpX6_sheet_b82
            refine .b1 begin_e (.b1 (inbJ hs (by decide)) (.b2 (inbJ hs (by decide)) (.b2 (sheetY hs) (.b2 (inbJ hs (by decide)) ?_))))
            have x2 : ∀ r j, (zX (37 + 2 * s + 1) 40 (wrM (wrM M1 (37 + 2 * s) 1 b) (37 + 2 * s) 2 d)).1 r j = if r = 37 + 2 * s + 1 ∧ j < 40 then 0 else if r = 37 + 2 * s ∧ j = 2 then d else if r = 37 + 2 * s ∧ j = 1 then b else M1.1 r j := by
              intro r j
              show (if r = 37 + 2 * s + 1 ∧ j < 40 then 0 else (wrM (wrM M1 (37 + 2 * s) 1 b) (37 + 2 * s) 2 d).1 r j) = _
              rw [wrM_at, wrM_at]
            have y2 : ∀ r j, (zY s 40 (wrM (wrM M2 12 s b) 13 s d)).1 r j = if r = 14 ∧ 40 * s ≤ j ∧ j < 40 * s + 40 then 0 else if r = 13 ∧ j = s then d else if r = 12 ∧ j = s then b else M2.1 r j := by
              intro r j
              show (if r = 14 ∧ 40 * s ≤ j ∧ j < 40 * s + 40 then 0 else (wrM (wrM M2 12 s b) 13 s d).1 r j) = _
              rw [wrM_at, wrM_at]
            refine .e ?_ ((R.mono (Nat.le_succ n)).sh (fun r j hr => ?_) (fun r j hr => ?_) (fun t ht => ?_))
            · rw [x2, y2, if_neg (by omega), if_pos ⟨rfl, rfl⟩, if_neg (by omega), if_pos ⟨rfl, rfl⟩]
            · rw [x2, if_neg (by omega), if_neg (by omega), if_neg (by omega)]
            · rw [y2, if_neg (by omega), if_neg (by omega), if_neg (by omega)]
            · obtain ⟨a1, a2, a3, a4⟩ := R.1.2.2.2.2.1 t ht
              by_cases e : t = s
              · subst e
                refine ⟨?_, ?_, ?_, fun i hi => ?_⟩
                · rw [x2, y2, if_neg (by omega), if_neg (by omega), if_pos ⟨rfl, rfl⟩, if_neg (by omega), if_neg (by omega), if_pos ⟨rfl, rfl⟩]
                · rw [x2, y2, if_neg (by omega), if_pos ⟨rfl, rfl⟩, if_neg (by omega), if_pos ⟨rfl, rfl⟩]
                · rw [y2, if_neg (by omega), if_pos ⟨rfl, rfl⟩]; exact hd
                · rw [x2, y2, if_pos ⟨rfl, hi⟩, if_pos ⟨rfl, by omega, by omega⟩]
              · refine ⟨?_, ?_, ?_, fun i hi => ?_⟩
                · rw [x2, y2, if_neg (by omega), if_neg (by omega), if_neg (by omega), if_neg (by omega), if_neg (by omega), if_neg (by omega)]; exact a1
                · rw [x2, y2, if_neg (by omega), if_neg (by omega), if_neg (by omega), if_neg (by omega), if_neg (by omega), if_neg (by omega)]; exact a2
                · rw [y2, if_neg (by omega), if_neg (by omega), if_neg (by omega)]; exact a3
                · rw [x2, y2, if_neg (by omega), if_neg (by omega), if_neg (by omega), if_neg (by omega), if_neg (by omega), if_neg (by omega)]; exact a4 i hi
          show SM n _ (if b = 0 then fpX6_sheet_b82 (J (s : Nat)) (J (s : Nat)) 0 (wrM M2 12 s b) else fpX6_sheet_b82 (J (s : Nat)) (J (s : Nat)) c (wrM M2 12 s b))
          by_cases hb : b = 0
          · exact .t1 hb (.t2 hb (fin 0 (by decide)))
          · exact .f1 hb (.f2 hb (fin c ⟨Int32.le_iff_toInt_le.1 h0, Int32.le_iff_toInt_le.1 h4⟩))
        · exact .f1 h4 (.f2 h4 (.fi R 0 (by decide) rfl rfl))
      · exact .f1 h0 (.f2 h0 (.fi R 6 (by decide) rfl rfl))
    by_cases b0 : b = 0
    · exact .t1 b0 (.t2 b0 main)
    refine .f1 b0 (.f2 b0 ?_)
    by_cases b8 : b = 8
    · exact .t1 b8 (.t2 b8 main)
    refine .f1 b8 (.f2 b8 ?_)
    by_cases b16 : b = 16
    · exact .t1 b16 (.t2 b16 main)
    refine .f1 b16 (.f2 b16 ?_)
    by_cases b32 : b = 32
    · exact .t1 b32 (.t2 b32 main)
    exact .f1 b32 (.f2 b32 (.fi R 0 (by decide) rfl rfl))
  · exact .f1 (fun z => h (out0.1 z)) (.t2 (in0.2 h) (.fi R 0 (by decide) rfl rfl))
/-- the begin of the calls of a sheet that must be there -/
theorem SM.sheet {n : Nat} {a : Int32} {M1 M2 : Me} {f : Nat → Option (Int32 × Me)} {g : Option (Int32 × Me)} (R : Rr n M1 M2) (k : ∀ s : Nat, s < 4 → a = J (s : Nat) → ¬ M2.1 12 s = 0 → SM n (f s) g) : SM n (if fpX5_noSuchSheet a = 0 then (inb a 4).bind fun k2 => (if fpX3_isMissing (37 + 2 * k2) M1 = 0 then f k2 else (fpX5_finding 5 M1).bind fun q => some (q.1, q.2)) else (fpX5_finding 0 M1).bind fun q => some (q.1, q.2)) ((fpX6_wrong a M2).bind fun v1 => (if v1 = 0 then g else (fpX6_finds v1 M2).bind fun q => some (q.1, q.2))) := by
  unfold fpX5_noSuchSheet fpX6_wrong fpX6_isOne fpX3_isMissing
  by_cases h : 0 ≤ a.toInt ∧ a.toInt ≤ 3
  · rw [if_neg (in1 (b := 0) (c := 3) h)]
    refine .t1 (out0.2 h) ?_
    obtain ⟨s, rfl, hs'⟩ := ofI h.1
    have hs : s < 4 := by omega
    rw [inbJ hs (by decide)]
    show SM n (if (if M1.1 (37 + 2 * s) 1 = 0 then (1 : Int32) else 0) = 0 then f s else _) ((if M2.1 12 s = 0 then some (-1000006 : Int32) else some 0).bind _)
    rw [(R.1.2.2.2.2.1 s hs).1]
    by_cases hz : M2.1 12 s = 0
    · rw [if_pos hz, if_pos hz]
      exact .f1 (by decide) (.b2 rfl (.f2 (by decide) (.fi R 5 (by decide) rfl rfl)))
    · rw [if_neg hz, if_neg hz]
      exact .t1 (by decide) (.b2 rfl (.t2 rfl (k s hs rfl hz)))
  · rw [if_pos ((in0 (b := 0) (c := 3)).2 h)]
    exact .f1 (fun z => h (out0.1 z)) (.b2 rfl (.f2 (by decide) (.fi R 0 (by decide) rfl rfl)))
theorem s38 : sim38 Rr := by
  intro n M1 M2 a b c _ R
  show SM n _ _
  unfold fpX5_write fpX6_write
  refine .sheet R (fun s hs ha hz => ?_)
  subst ha
  obtain ⟨a1, a2, a3, a4⟩ := R.1.2.2.2.2.1 s hs
  refine .b2 (inbJ hs (by decide)) ?_
  rw [a2]
  have el : ((M2.1 13 s - 1).toInt64).toInt = (M2.1 13 s - 1).toInt := t64 _
  by_cases h : 0 ≤ b.toInt ∧ b.toInt ≤ (M2.1 13 s - 1).toInt
  · refine .t1 (out0.2 h) (.f2 (in1 (by rw [el]; exact h)) ?_)
    have e1 : (M2.1 13 s - 1).toInt = (M2.1 13 s).toInt - 1 := by
      have : M2.1 13 s - 1 = J ((M2.1 13 s).toInt - 1) := by rw [← J_sub, J_t]; rfl
      rw [this, tJ (by omega) (by omega)]
    obtain ⟨i, rfl, hi'⟩ := ofI h.1
    have hi : i < 40 := by omega
    refine .b2 (by rw [j40]; exact inbJ (by omega) (by decide)) ?_
    have hput : fpX3_put (37 + 2 * s) (J (i : Nat)) c M1 = some (wrM M1 (37 + 2 * s + 1) i (fpX6_narrowed (M2.1 12 s) c)) := by
      unfold fpX3_put fpX6_narrowed letv
      rw [a1, inbJ hi (by decide)]
      by_cases h8 : M2.1 12 s = 8
      · rw [if_pos h8, if_pos h8]; rfl
      · rw [if_neg h8, if_neg h8]
        by_cases h16 : M2.1 12 s = 16
        · rw [if_pos h16, if_pos h16]; rfl
        · rw [if_neg h16, if_neg h16]; rfl
    refine .b1 hput (.e rfl ((R.mono (Nat.le_succ n)).sh (fun r j hr => wrM_nr (by omega)) (fun r j hr => wrM_nr (by omega)) (fun t ht => ?_)))
    obtain ⟨b1, b2, b3, b4⟩ := R.1.2.2.2.2.1 t ht
    refine ⟨?_, ?_, ?_, fun l hl => ?_⟩
    · rw [wrM_nr (by omega), wrM_nr (by omega)]; exact b1
    · rw [wrM_nr (by omega), wrM_nr (by omega)]; exact b2
    · rw [wrM_nr (by omega)]; exact b3
    · rw [wrM_at, wrM_at]
      by_cases e : t = s ∧ l = i
      · rw [if_pos (by omega), if_pos (by omega)]
      · rw [if_neg (by omega), if_neg (by omega)]
        exact b4 l hl
  · exact .f1 (fun z => h (out0.1 z)) (.t2 (in0.2 (by rw [el]; exact h)) (.fi R 0 (by decide) rfl rfl))
theorem s40 : sim40 Rr := by
  intro n M1 M2 a _ R
  show SM n _ _
  unfold fpX5_load fpX6_load
  refine .sheet R (fun s hs ha hz => ?_)
  subst ha
  obtain ⟨a1, a2, a3, a4⟩ := R.1.2.2.2.2.1 s hs
  have k0 := R.2.k0
  obtain ⟨L, hL, hL'⟩ := ofI a3.1
  obtain ⟨N, hN, hN'⟩ := ofI k0.1
  have eN : M1.1 1 2 = J (N : Nat) := (R.1.1 0 (by decide)).trans hN
  show SM n ((lp (fpX5_load_l56 (J (s : Nat)) (fpJ9_min_7cf53 (M1.1 (37 + 2 * s) 2) (M1.1 1 2))) FU ((0 : Int32), (0 : Int32), M1)).bind _) _
  rw [a2, hL, eN, minN (by omega) (by omega)]
  obtain ⟨r1, r2, q1, q2, q3, q4⟩ := lpp (s1 := fpX5_load_l56 (J (s : Nat)) (J (min L N : Nat))) (s2 := fpX6_load_l18 (J (s : Nat))) (Q := fun x y => Rr (n + 1) x.2 y.2 ∧ x.1 = y.1) (fun i x y => x.1 = J (i : Nat) ∧ x.2.1 = J (i : Nat) ∧ y.1 = J (i : Nat) ∧ Rr (n + 1) x.2.2 y.2 ∧ y.2.1 1 0 = J (N : Nat) ∧ y.2.1 13 s = J (L : Nat)) (min L N) (by omega) (x := (J ((0 : Nat) : Int), J ((0 : Nat) : Int), M1)) (y := (J ((0 : Nat) : Int), M2)) ⟨rfl, rfl, rfl, R.mono (Nat.le_succ n), hN, hL⟩ (by
    intro i x y hi hxy
    obtain ⟨xa, xb, X⟩ := x
    obtain ⟨ya, Y⟩ := y
    obtain ⟨x1, x2, y1, RR, hyN, hyL⟩ := hxy
    have x1 : xa = J (i : Nat) := x1
    have x2 : xb = J (i : Nat) := x2
    have y1 : ya = J (i : Nat) := y1
    have hyN : Y.1 1 0 = J (N : Nat) := hyN
    have hyL : Y.1 13 s = J (L : Nat) := hyL
    have RR : Rr (n + 1) X Y := RR
    subst x1
    subst x2
    subst y1
    rcases Nat.lt_or_eq_of_le hi with hik | hik
    · have c1 : ¬ J (min L N : Nat) ≤ J (i : Nat) := fun z => by have := (leN (by omega) (by omega)).1 z; omega
      have c2 : ¬ J (L : Nat) ≤ J (i : Nat) := fun z => by have := (leN (by omega) (by omega)).1 z; omega
      have c3 : ¬ J (N : Nat) ≤ J (i : Nat) := fun z => by have := (leN (by omega) (by omega)).1 z; omega
      have ev : X.1 (37 + 2 * s + 1) i = Y.1 14 (40 * s + i) := (RR.1.2.2.2.2.1 s hs).2.2.2 i (by omega)
      have a2 : inb (fpX6_at (J (i : Nat)) (2 : Int32)) 70 = some (12 + 6 * i + 2) := inA (w := 2) (by omega) (by decide)
      by_cases hv : 1 ≤ (Y.1 14 (40 * s + i)).toInt ∧ (Y.1 14 (40 * s + i)).toInt ≤ 60
      · refine Or.inl ⟨(J ((i + 1 : Nat) : Int), J ((i + 1 : Nat) : Int), wrM X (1 + 3 + i) 2 (Y.1 14 (40 * s + i))), (J ((i + 1 : Nat) : Int), wrM Y 1 (12 + 6 * i + 2) (Y.1 14 (40 * s + i))), ?_, ?_, hik, rfl, rfl, rfl, ?_, ?_, ?_⟩
        · show fpX5_load_l56s _ _ _ _ X = _
          unfold fpX5_load_l56s letv
          rw [if_neg c1, inbJ hs (by decide), Option.bind_some, inbJ (show i < 40 by omega) (by decide), Option.bind_some, ev, if_pos ((out0 (b := 1) (c := 60)).2 hv), inbJ (show i < 8 by omega) (by decide), Option.bind_some, J_succ]
        · show fpX6_load_l18s _ _ Y = _
          unfold fpX6_load_l18s letv
          rw [inbJ hs (by decide), Option.bind_some, hyL, if_neg c2, hyN, if_neg c3, j40, inbJ (by omega) (by decide), Option.bind_some, if_neg (in1 (b := 1) (c := 60) hv), a2, Option.bind_some, J_succ]
        · exact RR.wP (by omega) (w := 2) (by decide) (by omega) hv.2
        · show (wrM Y 1 (12 + 6 * i + 2) _).1 1 0 = _
          rw [wrM_nj (by omega)]; exact hyN
        · show (wrM Y 1 (12 + 6 * i + 2) _).1 13 s = _
          rw [wrM_nr (by decide)]; exact hyL
      · refine Or.inr ⟨(J (i : Nat), X), (J (i : Nat), Y), ?_, ?_, RR, rfl⟩
        · show fpX5_load_l56s _ _ _ _ X = _
          unfold fpX5_load_l56s letv
          rw [if_neg c1, inbJ hs (by decide), Option.bind_some, inbJ (show i < 40 by omega) (by decide), Option.bind_some, ev, if_neg (fun z => hv ((out0 (b := 1) (c := 60)).1 z))]
        · show fpX6_load_l18s _ _ Y = _
          unfold fpX6_load_l18s letv
          rw [inbJ hs (by decide), Option.bind_some, hyL, if_neg c2, hyN, if_neg c3, j40, inbJ (by omega) (by decide), Option.bind_some, if_pos ((in0 (b := 1) (c := 60)).2 hv)]
    · have c1 : J (min L N : Nat) ≤ J (i : Nat) := (leN (by omega) (by omega)).2 (by omega)
      refine Or.inr ⟨(J (i : Nat), X), (J (i : Nat), Y), ?_, ?_, RR, rfl⟩
      · show fpX5_load_l56s _ _ _ _ X = _
        unfold fpX5_load_l56s
        rw [if_pos c1]
      · show fpX6_load_l18s _ _ Y = _
        unfold fpX6_load_l18s
        rw [inbJ hs (by decide), Option.bind_some, hyL, hyN]
        by_cases cl : L ≤ i
        · rw [if_pos ((leN (by omega) (by omega)).2 cl)]
        · rw [if_neg (fun z => cl ((leN (by omega) (by omega)).1 z)), if_pos ((leN (by omega) (by omega)).2 (by omega))])
  refine .b1 q1 (.b2 q2 (.e q4 q3))
def mvY (s b i : Nat) (M : Me) : Me := (fun a j => if a = 15 ∧ j < i then M.1 14 (40 * s + b + j) else M.1 a j, M.2)
def nwY (t d i : Nat) (M : Me) : Me := (fun a j => if a = 14 ∧ 40 * t + d ≤ j ∧ j < 40 * t + d + i then M.1 15 (j - (40 * t + d)) else M.1 a j, M.2)
theorem mvY_at {s b i a j : Nat} {M : Me} : (mvY s b i M).1 a j = if a = 15 ∧ j < i then M.1 14 (40 * s + b + j) else M.1 a j := rfl
theorem nwY_at {t d i a j : Nat} {M : Me} : (nwY t d i M).1 a j = if a = 14 ∧ 40 * t + d ≤ j ∧ j < 40 * t + d + i then M.1 15 (j - (40 * t + d)) else M.1 a j := rfl
theorem mvY_s {s b i : Nat} {M : Me} : wrM (mvY s b i M) 15 i ((mvY s b i M).1 14 (40 * s + b + i)) = mvY s b (i + 1) M := by
  refine me_ext (fun a j => ?_) rfl
  rw [wrM_at]
  have e : (mvY s b i M).1 14 (40 * s + b + i) = M.1 14 (40 * s + b + i) := mvY_at.trans (if_neg (by omega))
  rw [e]
  show (if a = 15 ∧ j = i then M.1 14 (40 * s + b + i) else if a = 15 ∧ j < i then M.1 14 (40 * s + b + j) else M.1 a j) = if a = 15 ∧ j < i + 1 then M.1 14 (40 * s + b + j) else M.1 a j
  by_cases h1 : a = 15 ∧ j = i
  · rw [if_pos h1, if_pos (by omega), h1.2]
  · rw [if_neg h1]
    by_cases h2 : a = 15 ∧ j < i
    · rw [if_pos h2, if_pos (by omega)]
    · rw [if_neg h2, if_neg (by omega)]
theorem nwY_s {t d i : Nat} {M : Me} : wrM (nwY t d i M) 14 (40 * t + d + i) ((nwY t d i M).1 15 i) = nwY t d (i + 1) M := by
  refine me_ext (fun a j => ?_) rfl
  rw [wrM_at]
  have e : (nwY t d i M).1 15 i = M.1 15 i := nwY_at.trans (if_neg (by omega))
  rw [e]
  show (if a = 14 ∧ j = 40 * t + d + i then M.1 15 i else if a = 14 ∧ 40 * t + d ≤ j ∧ j < 40 * t + d + i then M.1 15 (j - (40 * t + d)) else M.1 a j) = if a = 14 ∧ 40 * t + d ≤ j ∧ j < 40 * t + d + (i + 1) then M.1 15 (j - (40 * t + d)) else M.1 a j
  by_cases h1 : a = 14 ∧ j = 40 * t + d + i
  · rw [if_pos h1, if_pos (by omega), show j - (40 * t + d) = i by omega]
  · rw [if_neg h1]
    by_cases h2 : a = 14 ∧ 40 * t + d ≤ j ∧ j < 40 * t + d + i
    · rw [if_pos h2, if_pos (by omega)]
    · rw [if_neg h2, if_neg (by omega)]
theorem mvY_e {s b t d n : Nat} {M : Me} (hs : s < 4) (hb : b + n ≤ 40) : lp (fpX6_copy_l121 (J (s : Nat)) (J (b : Nat)) (J (t : Nat)) (J (d : Nat)) (J (n : Nat))) FU ((0 : Int32), M) = some (mvY s b n M) := by
  have e0 : mvY s b 0 M = M := me_ext (fun a j => if_neg (by omega)) rfl
  have e : lp (fpX6_copy_l121 (J (s : Nat)) (J (b : Nat)) (J (t : Nat)) (J (d : Nat)) (J (n : Nat))) FU (J ((0 : Nat) : Int), mvY s b 0 M) = some (mvY s b n M) := by
    refine lp_tr (fun i : Nat => (J (i : Nat), mvY s b i M)) n (by omega) (fun i hi => ?_) ?_
    · show fpX6_copy_l121s _ _ _ _ _ (J (i : Nat)) (mvY s b i M) = _
      unfold fpX6_copy_l121s letv
      rw [if_neg (fun z => by have := (leN (by omega) (by omega)).1 z; omega), j40, addN, inbJ (by omega) (by decide), Option.bind_some, inbJ (show i < 40 by omega) (by decide), Option.bind_some, J_succ, mvY_s]
    · show fpX6_copy_l121s _ _ _ _ _ (J (n : Nat)) (mvY s b n M) = _
      unfold fpX6_copy_l121s
      rw [if_pos ((leN (by omega) (by omega)).2 (Nat.le_refl _))]
  rw [e0] at e
  exact e
theorem nwY_e {t d n : Nat} {M : Me} (ht : t < 4) (hd : d + n ≤ 40) : lp (fpX6_copy_l158 (J (t : Nat)) (J (d : Nat)) (J (n : Nat))) FU ((0 : Int32), M) = some (nwY t d n M) := by
  have e0 : nwY t d 0 M = M := me_ext (fun a j => if_neg (by omega)) rfl
  have e : lp (fpX6_copy_l158 (J (t : Nat)) (J (d : Nat)) (J (n : Nat))) FU (J ((0 : Nat) : Int), nwY t d 0 M) = some (nwY t d n M) := by
    refine lp_tr (fun i : Nat => (J (i : Nat), nwY t d i M)) n (by omega) (fun i hi => ?_) ?_
    · show fpX6_copy_l158s _ _ _ (J (i : Nat)) (nwY t d i M) = _
      unfold fpX6_copy_l158s letv
      rw [if_neg (fun z => by have := (leN (by omega) (by omega)).1 z; omega), j40, addN, inbJ (show i < 40 by omega) (by decide), Option.bind_some, inbJ (by omega) (by decide), Option.bind_some, J_succ, nwY_s]
    · show fpX6_copy_l158s _ _ _ (J (n : Nat)) (nwY t d n M) = _
      unfold fpX6_copy_l158s
      rw [if_pos ((leN (by omega) (by omega)).2 (Nat.le_refl _))]
  rw [e0] at e
  exact e
theorem subI {x y : Int32} (h1 : -2147483648 ≤ x.toInt - y.toInt) (h2 : x.toInt - y.toInt < 2147483648) : (x - y).toInt = x.toInt - y.toInt := by
  have : x - y = J (x.toInt - y.toInt) := by rw [← J_sub, J_t, J_t]
  rw [this, tJ h1 h2]
theorem run0 {r : Nat} {a b : Int32} {M : Me} (hl : 0 ≤ (M.1 r 2).toInt ∧ (M.1 r 2).toInt ≤ 40) : fpX3_hasRun r a b M = 0 ↔ ¬ (0 ≤ a.toInt ∧ 0 ≤ b.toInt ∧ a.toInt + b.toInt ≤ (M.1 r 2).toInt) := by
  unfold fpX3_hasRun
  simp only [Int32.lt_iff_toInt_lt, show (0 : Int32).toInt = 0 from rfl]
  have t1 := thi a
  by_cases h1 : a.toInt < 0
  · rw [if_pos h1]; exact ⟨fun _ => by omega, fun _ => rfl⟩
  · rw [if_neg h1]
    by_cases h2 : b.toInt < 0
    · rw [if_pos h2]; exact ⟨fun _ => by omega, fun _ => rfl⟩
    · rw [if_neg h2, subI (by omega) (by omega)]
      by_cases h3 : (M.1 r 2).toInt - a.toInt < b.toInt
      · rw [if_pos h3]; exact ⟨fun _ => by omega, fun _ => rfl⟩
      · rw [if_neg h3]; exact ⟨fun h => absurd h (by decide), fun h => by omega⟩
theorem s39 : sim39 Rr := by
  intro n M1 M2 a b c d m _ R
  show SM n _ _
  unfold fpX5_copy fpX6_copy fpX5_noSuchSheet fpX6_isOne fpX3_isMissing
  by_cases h : 0 ≤ a.toInt ∧ a.toInt ≤ 3
  · refine .t1 (out0.2 h) (.f2 (in1 h) ?_)
    by_cases hc : 0 ≤ c.toInt ∧ c.toInt ≤ 3
    · refine .t1 (out0.2 hc) (.f2 (in1 hc) ?_)
      obtain ⟨s, rfl, hs'⟩ := ofI h.1
      obtain ⟨t, rfl, ht'⟩ := ofI hc.1
      have hs : s < 4 := by omega
      have ht : t < 4 := by omega
      refine .b1 (inbJ hs (by decide)) (.b2 (inbJ hs (by decide)) ?_)
      obtain ⟨a1, a2, a3, a4⟩ := R.1.2.2.2.2.1 s hs
      obtain ⟨b1, b2, b3, b4⟩ := R.1.2.2.2.2.1 t ht
      rw [a1]
      by_cases hz : M2.1 12 s = 0
      · exact .f1 (by rw [if_pos hz]; decide) (.t2 hz (.fi R 5 (by decide) rfl rfl))
      · refine .t1 (by rw [if_neg hz]) (.f2 hz (.b1 (inbJ ht (by decide)) (.b2 (inbJ ht (by decide)) ?_)))
        rw [b1]
        by_cases hy : M2.1 12 t = 0
        · exact .f1 (by rw [if_pos hy]; decide) (.t2 hy (.fi R 5 (by decide) rfl rfl))
        · refine .t1 (by rw [if_neg hy]) (.f2 hy ?_)
          by_cases he : M2.1 12 s = M2.1 12 t
          · refine .t1 he (.t2 he ?_)
            have r0 := run0 (a := b) (b := m) (M := M1) (r := 37 + 2 * s) (by rw [a2]; exact a3)
            have r1 := run0 (a := d) (b := m) (M := M1) (r := 37 + 2 * t) (by rw [b2]; exact b3)
            rw [a2] at r0
            rw [b2] at r1
            have tb := thi b
            have td := thi d
            have z0 : ∀ x : Int32, x < 0 ↔ x.toInt < 0 := fun x => Int32.lt_iff_toInt_lt
            by_cases q1 : 0 ≤ b.toInt ∧ 0 ≤ m.toInt ∧ b.toInt + m.toInt ≤ (M2.1 13 s).toInt
            · refine .f1 (fun z => r0.1 z q1) ?_
              refine .f2 (fun z => by have := (z0 b).1 z; omega) ?_
              by_cases q2 : 0 ≤ d.toInt ∧ 0 ≤ m.toInt ∧ d.toInt + m.toInt ≤ (M2.1 13 t).toInt
              · refine .f1 (fun z => r1.1 z q2) ?_
                refine .f2 (fun z => by have := (z0 d).1 z; omega) ?_
                refine .f2 (fun z => by have := (z0 m).1 z; omega) ?_
                refine .f2 (fun z => by rw [Int32.lt_iff_toInt_lt, subI (by omega) (by omega)] at z; omega) ?_
                refine .t2 (by rw [Int32.le_iff_toInt_le, subI (by omega) (by omega)]; omega) ?_
                obtain ⟨bi, rfl, hbi⟩ := ofI q1.1
                obtain ⟨di, rfl, hdi⟩ := ofI q2.1
                obtain ⟨mi, rfl, hmi⟩ := ofI q1.2.1
                refine .b2 (mvY_e hs (by omega)) (.b2 (nwY_e ht (by omega)) ?_)
                have cb : (J (bi : Nat)).toNatClampNeg = bi := by rw [clampJ (by omega) (by omega)]; rfl
                have cd : (J (di : Nat)).toNatClampNeg = di := by rw [clampJ (by omega) (by omega)]; rfl
                have cm : (J (mi : Nat)).toNatClampNeg = mi := by rw [clampJ (by omega) (by omega)]; rfl
                unfold cpyc
                refine .f1 (fun z => ?_) ?_
                · rw [cb, cd, cm] at z
                  rcases z with z | z | z | z | z
                  · have := (z0 _).1 z; omega
                  · have := (z0 _).1 z; omega
                  · have := (z0 _).1 z; omega
                  · omega
                  · omega
                · rw [cb, cd, cm]
                  refine .e rfl ((R.mono (Nat.le_succ n)).sh (fun r j hr => ?_) (fun r j hr => ?_) (fun u hu => ?_))
                  · rw [wrA_at, if_neg (by omega)]
                  · have e1 : (nwY t di mi (mvY s bi mi M2)).1 r j = (mvY s bi mi M2).1 r j := if_neg (by omega)
                    rw [e1]
                    exact if_neg (by omega)
                  · obtain ⟨c1, c2, c3, c4⟩ := R.1.2.2.2.2.1 u hu
                    have e1 : ∀ r j, r ≠ 14 → r ≠ 15 → (nwY t di mi (mvY s bi mi M2)).1 r j = M2.1 r j := by
                      intro r j h1 h2
                      have e1 : (nwY t di mi (mvY s bi mi M2)).1 r j = (mvY s bi mi M2).1 r j := if_neg (by omega)
                      rw [e1]
                      exact if_neg (by omega)
                    refine ⟨?_, ?_, ?_, fun l hl => ?_⟩
                    · rw [wrA_at, if_neg (by omega), e1 _ _ (by decide) (by decide)]; exact c1
                    · rw [wrA_at, if_neg (by omega), e1 _ _ (by decide) (by decide)]; exact c2
                    · rw [e1 _ _ (by decide) (by decide)]; exact c3
                    · rw [wrA_at]
                      by_cases ut : u = t
                      · subst ut
                        rw [if_pos rfl]
                        unfold va_cpy
                        by_cases hin : di ≤ l ∧ l < di + mi
                        · rw [if_pos hin]
                          have e2 : (nwY u di mi (mvY s bi mi M2)).1 14 (40 * u + l) = (mvY s bi mi M2).1 15 (40 * u + l - (40 * u + di)) := if_pos ⟨rfl, by omega, by omega⟩
                          have e3 : (mvY s bi mi M2).1 15 (40 * u + l - (40 * u + di)) = M2.1 14 (40 * s + bi + (40 * u + l - (40 * u + di))) := if_pos ⟨rfl, by omega⟩
                          rw [e2, e3, show 40 * s + bi + (40 * u + l - (40 * u + di)) = 40 * s + (bi + (l - di)) by omega]
                          exact a4 _ (by omega)
                        · rw [if_neg hin]
                          have e2 : (nwY u di mi (mvY s bi mi M2)).1 14 (40 * u + l) = (mvY s bi mi M2).1 14 (40 * u + l) := if_neg (by omega)
                          have e3 : (mvY s bi mi M2).1 14 (40 * u + l) = M2.1 14 (40 * u + l) := mvY_at.trans (if_neg (by omega))
                          rw [e2, e3]
                          exact c4 l hl
                      · rw [if_neg (by omega)]
                        have e2 : (nwY t di mi (mvY s bi mi M2)).1 14 (40 * u + l) = (mvY s bi mi M2).1 14 (40 * u + l) := if_neg (by omega)
                        have e3 : (mvY s bi mi M2).1 14 (40 * u + l) = M2.1 14 (40 * u + l) := mvY_at.trans (if_neg (by omega))
                        rw [e2, e3]
                        exact c4 l hl
              · refine .t1 (r1.2 q2) ?_
                by_cases w1 : d < 0
                · exact .t2 w1 (.fi R 0 (by decide) rfl rfl)
                · refine .f2 w1 (.f2 (fun z => by have := (z0 m).1 z; omega) (.f2 (fun z => by rw [Int32.lt_iff_toInt_lt, subI (by omega) (by omega)] at z; omega) ?_))
                  have w1' : ¬ d.toInt < 0 := fun z => w1 ((z0 d).2 z)
                  exact .f2 (fun z => by rw [Int32.le_iff_toInt_le, subI (by omega) (by omega)] at z; omega) (.fi R 0 (by decide) rfl rfl)
            · refine .t1 (r0.2 q1) ?_
              by_cases w0 : b < 0
              · exact .t2 w0 (.fi R 0 (by decide) rfl rfl)
              · have w0' : ¬ b.toInt < 0 := fun z => w0 ((z0 b).2 z)
                refine .f2 w0 ?_
                by_cases w1 : d < 0
                · exact .t2 w1 (.fi R 0 (by decide) rfl rfl)
                · refine .f2 w1 ?_
                  by_cases w2 : m < 0
                  · exact .t2 w2 (.fi R 0 (by decide) rfl rfl)
                  · have w2' : ¬ m.toInt < 0 := fun z => w2 ((z0 m).2 z)
                    exact .f2 w2 (.t2 (by rw [Int32.lt_iff_toInt_lt, subI (by omega) (by omega)]; omega) (.fi R 0 (by decide) rfl rfl))
          · exact .f1 he (.f2 he (.fi R 2 (by decide) rfl rfl))
    · exact .f1 (fun z => hc (out0.1 z)) (.t2 (in0.2 hc) (.fi R 0 (by decide) rfl rfl))
  · exact .f1 (fun z => h (out0.1 z)) (.t2 (in0.2 h) (.fi R 0 (by decide) rfl rfl))
