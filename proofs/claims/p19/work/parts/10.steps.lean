/-! One character more. -/
section
variable {W : Nat → Nat} {m : Nat}
theorem xs_skn {i j : Nat} (h : W i ≠ 40) : gr_sk W (i + 1) j = gr_sk W i j := by rw [gr_sk1, if_neg (fun c => h c.1)]
theorem xs_dpn {i : Nat} (h : W i ≠ 40) (h' : W i ≠ 41) : gr_dp W (i + 1) = gr_dp W i := by rw [gr_dp1, if_neg h, if_neg h']
theorem xs_Vn {i ps : Nat} {lev : Int32} {uf ul : Nat → Int64} {us : Nat → Int32} {bf bl : Nat → Int64} {bs : Nat → Int32} {R : Nat → Nat → Prop}
    (h1 : W i ≠ 40) (h2 : W i ≠ 41) (h3 : W i ≠ 124) (h : xl_V W m i ps lev uf ul us bf bl bs R) : xl_V W m (i + 1) ps lev uf ul us bf bl bs R := by
  obtain ⟨l, bS, be, Q, v1, v2, v3, v4, v5, v6, v7⟩ := h
  refine ⟨l, bS, be, Q, by rw [xs_dpn h1 h2, v1], v2, fun j hj => by rw [xs_skn h1]; exact v3 j hj, fun j hj => by rw [xs_skn h1]; exact v4 j hj, v5, ?_, v7⟩
  intro j y hj hy hyi
  rw [xs_skn h1]
  by_cases c : y = i
  · subst c; intro hb; exact h3 hb.1
  · exact v6 j y hj hy (by omega)
theorem xs_icL {i : Nat} (hi : gr_ic W i = false) (h : W i ≠ 91) : gr_ic W (i + 1) = false := by
  rw [gr_ic1, hi]; simp [h]
theorem xs_ctS {i : Nat} (h : gr_S W i) : gr_ct W (i + 1) = gr_ct W i + 1 := by rw [gr_ct1, if_pos h]
theorem xs_ctN {i : Nat} (h : ¬ gr_S W i) : gr_ct W (i + 1) = gr_ct W i := by rw [gr_ct1, if_neg h]
/-- a letter or a dot -/
theorem xs_letter {i : Nat} {lev : Int32} {uf ul : Nat → Int64} {us : Nat → Int32} {bf bl : Nat → Int64} {bs : Nat → Int32} {fo : Nat → Int64} {R : Nat → Nat → Prop}
    (hm : gr_ct W (i + 1) ≤ 63) (hi : gr_ic W i = false) (hc : gr_L (W i) ∨ W i = 46) (h : xl_V W m i i lev uf ul us bf bl bs R) (hF : bs_F W fo R) :
    xl_I W m (i + 1) lev uf ul us bf bl bs (lN (2 ^ (gr_ct W i + 1))) (lN (2 ^ (gr_ct W i + 1))) (nI 1) fo := by
  have hS : gr_S W i := by
    rcases hc with h | h
    · exact Or.inr (Or.inr ⟨h, hi⟩)
    · exact Or.inl h
  have hct := xs_ctS hS
  have hB : bs_B W (lN (2 ^ (gr_ct W i + 1))) (fun q => q = i) := bs_B1 (by omega)
  have g := gs_letter (W := W) (m := m) (x := i) (by rcases hc with h | h; exact Or.inl ⟨h, hi⟩; exact Or.inr h)
  refine ⟨i, R, fun _ _ => False, xs_Vn (by omega) (by omega) (by omega) h, ⟨_, _, 1, hB, hB, rfl, Or.inl ⟨xs_icL hi (by omega), g.1, by omega, Or.inr ⟨by omega, ?_, g.2⟩⟩⟩, bs_Fc hF (fun s t => by simp)⟩
  rw [gr_as1, if_neg (by omega), if_neg (by omega), if_neg (by omega)]
/-- the opening bracket -/
theorem xs_brack {i : Nat} {lev : Int32} {uf ul : Nat → Int64} {us : Nat → Int32} {bf bl : Nat → Int64} {bs : Nat → Int32} {fo : Nat → Int64} {R : Nat → Nat → Prop}
    (hm : gr_ct W (i + 1) ≤ 63) (hc : W i = 91) (h : xl_V W m i i lev uf ul us bf bl bs R) (hF : bs_F W fo R) :
    xl_I W m (i + 1) lev uf ul us bf bl bs (lN (2 ^ (gr_ct W i + 1))) (lN (2 ^ (gr_ct W i + 1))) (nI 1) fo := by
  have hct := xs_ctS (W := W) (i := i) (Or.inr (Or.inl hc))
  have hB : bs_B W (lN (2 ^ (gr_ct W i + 1))) (fun q => q = i) := bs_B1 (by omega)
  refine ⟨i, R, fun _ _ => False, xs_Vn (by omega) (by omega) (by omega) h, ⟨_, _, 1, hB, hB, rfl, Or.inr ⟨by rw [gr_ic1]; simp [hc], by rw [gr_cs1, if_pos hc], fun s => Iff.rfl, fun s => Iff.rfl, rfl, fun s t h => h⟩⟩, bs_Fc hF (fun s t => by simp)⟩
/-- within a class -/
theorem xs_class {i : Nat} {lev : Int32} {uf ul : Nat → Int64} {us : Nat → Int32} {bf bl : Nat → Int64} {bs : Nat → Int32} {pf pl : Int64} {pn : Int32} {fo : Nat → Int64}
    (hV : gr_V W m) (him : i < m) (hi : gr_ic W i = true) (hc : gr_L (W i) ∨ W i = 93) (h : xl_I W m i lev uf ul us bf bl bs pf pl pn fo) :
    xl_I W m (i + 1) lev uf ul us bf bl bs pf pl pn fo := by
  obtain ⟨ps, R, RP, hv, ⟨pF, pL, n, p1, p2, p3, hp⟩, hF⟩ := h
  refine ⟨ps, R, RP, xs_Vn (by omega) (by omega) (by omega) hv, ?_, hF⟩
  rcases hp with ⟨c, _⟩ | ⟨_, q1, q2, q3, q4, q5⟩
  · rw [hi] at c; exact Bool.noConfusion c
  · rcases hc with hc | hc
    · refine ⟨pF, pL, n, p1, p2, p3, Or.inr ⟨?_, ?_, q2, q3, q4, q5⟩⟩
      · rw [gr_ic1, hi]; simp; omega
      · rw [gr_cs1, if_neg (by omega)]; exact q1
    · have g := gs_class hV him hi hc
      have hct := gv_ctc hV i him hi
      have hN := xs_ctN (W := W) (i := i) (gs_nS (by omega))
      have hg := (gr_icP hV i him hi).2.1
      subst q1
      have eR : RP = fun _ _ => False := by funext s t; exact propext ⟨q5 s t, False.elim⟩
      subst eR
      refine ⟨_, _, n, bs_Bc p1 q2, bs_Bc p2 q3, p3, Or.inl ⟨?_, by rw [q4]; exact g.1, by omega, Or.inr ⟨by omega, ?_, g.2⟩⟩⟩
      · rw [gr_ic1, hi]; simp [hc]
      · rw [gr_as1, if_neg (by omega), if_pos hc]
/-- a postfix operator -/
theorem xs_op {i : Nat} {lev : Int32} {uf ul : Nat → Int64} {us : Nat → Int32} {bf bl : Nat → Int64} {bs : Nat → Int32} {pf pl : Int64} {pn pn' : Int32} {fo fo' : Nat → Int64}
    (hi : gr_ic W i = false) (hc : gr_O (W i)) (hp : W (i - 1) ≠ 40 ∧ W (i - 1) ≠ 124) (h : xl_I W m i lev uf ul us bf bl bs pf pl pn fo)
    (e1 : pn' = if W i = 43 then pn else 0) (e2 : fo' = if W i = 63 then fo else bs_add fo pl pf) :
    xl_I W m (i + 1) lev uf ul us bf bl bs pf pl pn' fo' := by
  obtain ⟨ps, R, RP, hv, ⟨pF, pL, n, p1, p2, p3, q⟩, hF⟩ := h
  rcases q with ⟨_, q1, q2, q3⟩ | ⟨c, _⟩
  · rcases q3 with ⟨_, c⟩ | ⟨r1, r2, r3⟩
    · omega
    · have g := gs_op q1 r3 r1 r2 hc
      have hN := xs_ctN (W := W) (i := i) (gs_nS (by omega))
      refine ⟨ps, R, _, xs_Vn (by omega) (by omega) (by omega) hv, ⟨pF, pL, if W i = 43 then n else 0, p1, p2, ?_, Or.inl ⟨xs_icL hi (by omega), g.1, ?_, Or.inr ⟨by omega, ?_, g.2⟩⟩⟩, ?_⟩
      · rw [e1, p3]; split
        · rfl
        · exact nI_0.symm
      · split <;> omega
      · rw [gr_as1, if_pos hc]; exact r2
      · rw [e2]
        by_cases c : W i = 63
        · rw [if_pos c]; exact bs_Fc hF (fun s t => by simp [c])
        · rw [if_neg c]
          refine bs_Fc (bs_Fadd hF p2 p1) (fun s t => ?_)
          constructor
          · rintro ((h | h) | h)
            · exact Or.inl h
            · exact Or.inr (Or.inl h)
            · exact Or.inr (Or.inr ⟨c, h⟩)
          · rintro (h | h | ⟨_, h⟩)
            · exact Or.inl (Or.inl h)
            · exact Or.inl (Or.inr h)
            · exact Or.inr h
  · rw [hi] at c; exact Bool.noConfusion c
theorem xs_pnil {i : Nat} (hi : gr_ic W i = false) (h : W (i - 1) = 40 ∨ W (i - 1) = 124) : xl_P W m i i 0 0 0 (fun _ _ => False) :=
  ⟨_, _, 0, bs_B0, bs_B0, nI_0.symm, Or.inl ⟨hi, fg_nil i, by omega, Or.inl ⟨rfl, h⟩⟩⟩
/-- the opening parenthesis -/
theorem xs_open {i l : Nat} {lev : Int32} {uf ul : Nat → Int64} {us : Nat → Int32} {bf bl : Nat → Int64} {bs : Nat → Int32} {uf' ul' : Nat → Int64} {us' : Nat → Int32} {bf' bl' : Nat → Int64} {bs' : Nat → Int32} {fo : Nat → Int64} {R : Nat → Nat → Prop}
    (hi : gr_ic W i = false) (hc : W i = 40) (hl : gr_dp W i = l + 1) (h : xl_V W m i i lev uf ul us bf bl bs R) (hF : bs_F W fo R)
    (e1 : uf' = fun j => if j = l + 1 then 0 else uf j) (e2 : ul' = fun j => if j = l + 1 then 0 else ul j) (e3 : us' = fun j => if j = l + 1 then nI 64 else us j)
    (e4 : bf' = fun j => if j = l + 1 then 0 else bf j) (e5 : bl' = fun j => if j = l + 1 then 0 else bl j) (e6 : bs' = fun j => if j = l + 1 then 0 else bs j) :
    xl_I W m (i + 1) (nI (l + 1)) uf' ul' us' bf' bl' bs' 0 0 0 fo := by
  obtain ⟨l', bS, be, Q, v1, v2, v3, v4, v5, v6, v7⟩ := h
  have : l' = l := by omega
  subst this
  have hd : gr_dp W (i + 1) = l' + 1 + 1 := by rw [gr_dp1, if_pos hc, v1]
  have sk1 : gr_sk W (i + 1) (l' + 1) = i := by rw [gr_sk1, if_pos ⟨hc, v1.symm⟩]
  have sk0 : ∀ j, j ≤ l' → gr_sk W (i + 1) j = gr_sk W i j := fun j hj => by rw [gr_sk1, if_neg (by omega)]
  refine ⟨i + 1, R, fun _ _ => False, ⟨l' + 1, fun j => if j = l' + 1 then i + 1 else bS j, fun j => if j = l' + 1 then i + 1 else be j, fun j => if j = l' + 1 then (fun _ _ => False) else Q j, hd, rfl, ?_, ?_, ?_, ?_, ?_⟩, xs_pnil (xs_icL hi (by omega)) (Or.inl hc), bs_Fc hF (fun s t => by simp)⟩
  · intro j hj
    subst e1 e2 e3 e4 e5 e6
    by_cases c : j = l' + 1
    · subst c
      simp only [if_true]
      rw [sk1]
      exact ⟨_, _, 64, _, _, _, 0, _, gs_open hc, fg_nil (i + 1), bs_B0, bs_B0, rfl, Nat.le_refl _, bs_B0, bs_B0, nI_0.symm, by omega, fun s t => by simp⟩
    · simp only [if_neg c]
      rw [sk0 j (by omega)]
      exact v3 j (by omega)
  · intro j hj
    dsimp only
    rw [if_neg (by omega)]
    by_cases c : j = l'
    · subst c; rw [sk1, v5]
    · rw [v4 j (by omega), sk0 (j + 1) (by omega)]
  · simp
  · intro j y hj hy hyi
    by_cases c : j = l' + 1
    · subst c; simp only [if_true] at hy; omega
    · simp only [if_neg c] at hy
      rw [sk0 j (by omega)]
      by_cases c' : y = i
      · subst c'; intro hb; have := hb.1; omega
      · exact v6 j y (by omega) hy (by omega)
  · intro s t
    rw [v7]
    constructor
    · rintro ⟨j, hj, hq⟩
      exact ⟨j, by omega, by dsimp only; rw [if_neg (by omega)]; exact hq⟩
    · rintro ⟨j, hj, hq⟩
      by_cases c : j = l' + 1
      · rw [if_pos c] at hq; exact hq.elim
      · rw [if_neg c] at hq; exact ⟨j, by omega, hq⟩
theorem xs_us {a b : Nat} (ha : a < 2 ^ 31) (hb : b < 2 ^ 31) : (if nI a < nI b then nI a else nI b) = nI (if a < b then a else b) := by
  by_cases c : a < b
  · rw [if_pos c, if_pos ((nI_ltI ha hb).mpr c)]
  · rw [if_neg c, if_neg (fun h => c ((nI_ltI ha hb).mp h))]
/-- the bar -/
theorem xs_bar {i l : Nat} {lev : Int32} {uf ul : Nat → Int64} {us : Nat → Int32} {bf bl : Nat → Int64} {bs : Nat → Int32} {uf' ul' : Nat → Int64} {us' : Nat → Int32} {bf' bl' : Nat → Int64} {bs' : Nat → Int32} {fo : Nat → Int64} {R : Nat → Nat → Prop}
    (hm : gr_ct W i ≤ 63) (hi : gr_ic W i = false) (hc : W i = 124) (hl : gr_dp W i = l + 1) (h : xl_V W m i i lev uf ul us bf bl bs R) (hF : bs_F W fo R)
    (e1 : uf' = fun j => if j = l then uf l ||| bf l else uf j) (e2 : ul' = fun j => if j = l then ul l ||| bl l else ul j) (e3 : us' = fun j => if j = l then (if bs l < us l then bs l else us l) else us j)
    (e4 : bf' = fun j => if j = l then 0 else bf j) (e5 : bl' = fun j => if j = l then 0 else bl j) (e6 : bs' = fun j => if j = l then 0 else bs j) :
    xl_I W m (i + 1) lev uf' ul' us' bf' bl' bs' 0 0 0 fo := by
  obtain ⟨l', bS, be, Q, v1, v2, v3, v4, v5, v6, v7⟩ := h
  have : l' = l := by omega
  subst this
  have hd : gr_dp W (i + 1) = l' + 1 := by rw [xs_dpn (by omega) (by omega), v1]
  have sk0 : ∀ j, gr_sk W (i + 1) j = gr_sk W i j := fun j => xs_skn (by omega)
  have hen : gr_en W i = gr_sk W i l' := by unfold gr_en; rw [v1, Nat.add_sub_cancel]
  have hinj : ∀ j, j ≤ l' → gr_sk W i j = gr_sk W i l' → j = l' := by
    intro j hj e
    have a := (gr_skP (W := W) i j (by omega)).2.2.1
    have b := (gr_skP (W := W) i l' (by omega)).2.2.1
    rw [e] at a; omega
  refine ⟨i + 1, R, fun _ _ => False, ⟨l', fun j => if j = l' then i + 1 else bS j, fun j => if j = l' then i + 1 else be j, Q, hd, v2, ?_, ?_, ?_, ?_, v7⟩, xs_pnil (xs_icL hi (by omega)) (Or.inr hc), bs_Fc hF (fun s t => by simp)⟩
  · intro j hj
    subst e1 e2 e3 e4 e5 e6
    rw [sk0]
    by_cases c : j = l'
    · subst c
      simp only [if_true]
      obtain ⟨uF, uL, un, uO, bF, bL, bn, bO, l1, l2, l3, l4, l5, l6, l7, l8, l9, l10, l11⟩ := v3 j hj
      rw [v5] at l2 l10
      have hbn : bn < 64 := by omega
      refine ⟨_, _, _, _, _, _, 0, _, gs_alt l1 l2 hc hen (fun y y1 y2 => v6 j y hj y1 y2) hbn, fg_nil (i + 1), bs_Bor l3 l7, bs_Bor l4 l8, ?_, ?_, bs_B0, bs_B0, nI_0.symm, by omega, fun s t => by rw [l11]; simp⟩
      · rw [l5, l9, xs_us (by omega) (by omega)]
      · split <;> omega
    · simp only [if_neg c]
      exact v3 j hj
  · intro j hj
    dsimp only
    rw [if_neg (by omega), v4 j hj, sk0]
  · simp
  · intro j y hj hy hyi
    rw [sk0]
    by_cases c : j = l'
    · subst c; simp only [if_true] at hy; omega
    · simp only [if_neg c] at hy
      by_cases c' : y = i
      · subst c'
        intro hb
        exact c (hinj j hj (by rw [← hb.2.1, hen]))
      · exact v6 j y hj hy (by omega)
/-- the closing parenthesis of an inner level -/
theorem xs_close {i l : Nat} {lev : Int32} {uf ul : Nat → Int64} {us : Nat → Int32} {bf bl : Nat → Int64} {bs : Nat → Int32} {uf' ul' : Nat → Int64} {us' : Nat → Int32} {bf' bl' : Nat → Int64} {bs' : Nat → Int32} {fo : Nat → Int64} {R : Nat → Nat → Prop}
    (hm : gr_ct W i ≤ 63) (hi : gr_ic W i = false) (hc : W i = 41) (hl : gr_dp W i = l + 1 + 1) (h : xl_V W m i i lev uf ul us bf bl bs R) (hF : bs_F W fo R)
    (e1 : ∀ j, j ≤ l → uf' j = uf j) (e2 : ∀ j, j ≤ l → ul' j = ul j) (e3 : ∀ j, j ≤ l → us' j = us j)
    (e4 : ∀ j, j ≤ l → bf' j = bf j) (e5 : ∀ j, j ≤ l → bl' j = bl j) (e6 : ∀ j, j ≤ l → bs' j = bs j) :
    xl_I W m (i + 1) (nI l) uf' ul' us' bf' bl' bs' (uf (l + 1) ||| bf (l + 1)) (ul (l + 1) ||| bl (l + 1)) (if bs (l + 1) < us (l + 1) then bs (l + 1) else us (l + 1)) fo := by
  obtain ⟨l', bS, be, Q, v1, v2, v3, v4, v5, v6, v7⟩ := h
  have : l' = l + 1 := by omega
  subst this
  have hd : gr_dp W (i + 1) = l + 1 := by rw [gr_dp1, if_neg (by omega), if_pos hc, v1]; rfl
  have sk0 : ∀ j, gr_sk W (i + 1) j = gr_sk W i j := fun j => xs_skn (by omega)
  have hen : gr_en W i = gr_sk W i (l + 1) := by unfold gr_en; rw [v1, Nat.add_sub_cancel]
  obtain ⟨uF, uL, un, uO, bF, bL, bn, bO, l1, l2, l3, l4, l5, l6, l7, l8, l9, l10, l11⟩ := v3 (l + 1) (Nat.le_refl _)
  rw [v5] at l2 l10
  have hbn : bn < 64 := by omega
  have g := gs_close l1 l2 hc hen (fun y y1 y2 => v6 (l + 1) y (Nat.le_refl _) y1 y2) hbn
  have hN := xs_ctN (W := W) (i := i) (gs_nS (by omega))
  have hlt := l1.1
  have hle := l2.1
  have hcm := gr_ctM (W := W) (show gr_sk W i (l + 1) ≤ bS (l + 1) from by omega)
  refine ⟨gr_sk W i (l + 1), fun s t => ∃ j, j ≤ l ∧ Q j s t, Q (l + 1), ⟨l, bS, be, Q, hd, rfl, ?_, ?_, ?_, ?_, fun s t => Iff.rfl⟩, ⟨_, _, (if bn < un then bn else un), bs_Bor l3 l7, bs_Bor l4 l8, by rw [l5, l9, xs_us (by omega) (by omega)], Or.inl ⟨xs_icL hi (by omega), ?_, ?_, Or.inr ⟨by omega, ?_, g.2⟩⟩⟩, ?_⟩
  · intro j hj
    rw [sk0, e1 j hj, e2 j hj, e3 j hj, e4 j hj, e5 j hj, e6 j hj]
    exact v3 j (by omega)
  · intro j hj
    rw [v4 j (by omega), sk0]
  · rw [v4 l (by omega)]
  · intro j y hj hy hyi
    rw [sk0]
    by_cases c' : y = i
    · subst c'; intro hb; have := hb.1; omega
    · exact v6 j y (by omega) hy (by omega)
  · have e : Q (l + 1) = fun s t => uO s t ∨ bO s t := by funext s t; exact propext (l11 s t)
    rw [e]; exact g.1
  · split <;> omega
  · rw [gr_as1, if_neg (by omega), if_neg (by omega), if_pos hc, hen]
  · refine bs_Fc hF (fun s t => ?_)
    rw [v7]
    constructor
    · rintro ⟨j, hj, hq⟩
      by_cases c : j = l + 1
      · subst c; exact Or.inr hq
      · exact Or.inl ⟨j, by omega, hq⟩
    · rintro (⟨j, hj, hq⟩ | hq)
      · exact ⟨j, by omega, hq⟩
      · exact ⟨l + 1, Nat.le_refl _, hq⟩
/-- the end of the pattern -/
theorem xs_end {lev : Int32} {uf ul : Nat → Int64} {us : Nat → Int32} {bf bl : Nat → Int64} {bs : Nat → Int32} {fo : Nat → Int64} {R : Nat → Nat → Prop}
    (hV : gr_V W m) (hm : gr_ct W m ≤ 63) (h : xl_V W m (m - 1) (m - 1) lev uf ul us bf bl bs R) (hF : bs_F W fo R) :
    ∃ F L n, fg_G (gr_E W) (gr_tg W m) (gr_S W) 0 m F L n R ∧ bs_B W (uf 0 ||| bf 0) F ∧ bs_B W (ul 0 ||| bl 0) L ∧ (if bs 0 < us 0 then bs 0 else us 0) = nI n ∧ n ≤ 64 := by
  obtain ⟨w1, w2, w3, w4, w5, w6, _, _⟩ := hV
  obtain ⟨l', bS, be, Q, v1, v2, v3, v4, v5, v6, v7⟩ := h
  have : l' = 0 := by omega
  subst this
  obtain ⟨uF, uL, un, uO, bF, bL, bn, bO, l1, l2, l3, l4, l5, l6, l7, l8, l9, l10, l11⟩ := v3 0 (Nat.le_refl _)
  rw [v5] at l2 l10
  have hcm := gr_ctM (W := W) (show m - 1 ≤ m from by omega)
  have hbn : bn < 64 := by omega
  have hen : gr_en W (m - 1) = gr_sk W (m - 1) 0 := by unfold gr_en; rw [v1]
  have hsk := (gr_skP (W := W) (m - 1) 0 (by omega))
  have hs0 : gr_sk W (m - 1) 0 = 0 := by
    by_cases c : gr_sk W (m - 1) 0 = 0
    · exact c
    · have := w6 (gr_sk W (m - 1) 0) (by omega) (by omega)
      have := hsk.2.2.1
      omega
  have g := (gs_close l1 l2 w3 hen (fun y y1 y2 => v6 0 y (Nat.le_refl _) y1 y2) hbn).1
  rw [hs0, show m - 1 + 1 = m from by omega] at g
  have e : R = fun s t => uO s t ∨ bO s t := by
    funext s t
    apply propext
    rw [v7, ← l11]
    constructor
    · rintro ⟨j, hj, hq⟩
      have : j = 0 := by omega
      subst this; exact hq
    · intro h; exact ⟨0, Nat.le_refl _, h⟩
  refine ⟨_, _, _, by rw [e]; exact g, bs_Bor l3 l7, bs_Bor l4 l8, by rw [l5, l9, xs_us (by omega) (by omega)], ?_⟩
  split <;> omega
end
