/-! What compile knows of each level while it reads the pattern. -/
section
variable (W : Nat → Nat) (m : Nat)
abbrev xl_G (a b : Nat) (F L : Nat → Prop) (n : Nat) (O : Nat → Nat → Prop) : Prop := fg_G (gr_E W) (gr_tg W m) (gr_S W) a b F L n O
abbrev xl_R (a b : Nat) (L : Nat → Prop) : Prop := fg_R (gr_E W) (gr_tg W m) (gr_S W) a b L
abbrev xl_U (o b : Nat) (F L : Nat → Prop) (n : Nat) (O : Nat → Nat → Prop) : Prop := fg_U (gr_E W) (gr_tg W m) (gr_S W) (gr_Ba W) o b F L n O
/-- a level: the parenthesis o, the branch from b to e -/
def xl_L (o b e : Nat) (uf ul : Int64) (us : Int32) (bf bl : Int64) (bs : Int32) (R : Nat → Nat → Prop) : Prop :=
  ∃ (uF uL : Nat → Prop) (un : Nat) (uO : Nat → Nat → Prop) (bF bL : Nat → Prop) (bn : Nat) (bO : Nat → Nat → Prop),
    xl_U W m o b uF uL un uO ∧ xl_G W m b e bF bL bn bO ∧
    bs_B W uf uF ∧ bs_B W ul uL ∧ us = nI un ∧ un ≤ 64 ∧ bs_B W bf bF ∧ bs_B W bl bL ∧ bs = nI bn ∧ bn + gr_ct W b ≤ gr_ct W e ∧
    (∀ s t, R s t ↔ uO s t ∨ bO s t)
/-- the newest piece, from ps to i -/
def xl_P (i ps : Nat) (pf pl : Int64) (pn : Int32) (R : Nat → Nat → Prop) : Prop :=
  ∃ (pF pL : Nat → Prop) (n : Nat), bs_B W pf pF ∧ bs_B W pl pL ∧ pn = nI n ∧
    ((gr_ic W i = false ∧ xl_G W m ps i pF pL n R ∧ n + gr_ct W ps ≤ gr_ct W i ∧
        ((ps = i ∧ (W (i - 1) = 40 ∨ W (i - 1) = 124)) ∨ (ps < i ∧ gr_as W i = ps ∧ xl_R W m ps i pL))) ∨
     (gr_ic W i = true ∧ ps = gr_cs W i ∧ (∀ s, pF s ↔ s = ps) ∧ (∀ s, pL s ↔ s = ps) ∧ n = 1 ∧ ∀ s t, ¬ R s t))
/-- all levels before character i; the branch of the newest one ends at ps -/
def xl_V (i ps : Nat) (lev : Int32) (uf ul : Nat → Int64) (us : Nat → Int32) (bf bl : Nat → Int64) (bs : Nat → Int32) (R : Nat → Nat → Prop) : Prop :=
  ∃ (l : Nat) (bS be : Nat → Nat) (Q : Nat → Nat → Nat → Prop), gr_dp W i = l + 1 ∧ lev = nI l ∧
    (∀ j, j ≤ l → xl_L W m (gr_sk W i j) (bS j) (be j) (uf j) (ul j) (us j) (bf j) (bl j) (bs j) (Q j)) ∧
    (∀ j, j < l → be j = gr_sk W i (j + 1)) ∧ be l = ps ∧
    (∀ j y, j ≤ l → bS j ≤ y → y < i → ¬ gr_Ba W (gr_sk W i j) y) ∧
    (∀ s t, R s t ↔ ∃ j, j ≤ l ∧ Q j s t)
/-- what holds before character i is read -/
def xl_I (i : Nat) (lev : Int32) (uf ul : Nat → Int64) (us : Nat → Int32) (bf bl : Nat → Int64) (bs : Nat → Int32) (pf pl : Int64) (pn : Int32) (fo : Nat → Int64) : Prop :=
  ∃ (ps : Nat) (R RP : Nat → Nat → Prop), xl_V W m i ps lev uf ul us bf bl bs R ∧ xl_P W m i ps pf pl pn RP ∧ bs_F W fo (fun s t => R s t ∨ RP s t)
end
section
variable {W : Nat → Nat} {m : Nat}
theorem xl_join {i o b e : Nat} {uf ul : Int64} {us : Int32} {bf bl : Int64} {bs : Int32} {R : Nat → Nat → Prop} {pf pl : Int64} {pn : Int32} {RP : Nat → Nat → Prop}
    (hm : gr_ct W i ≤ 63) (hi : gr_ic W i = false) (h : xl_L W m o b e uf ul us bf bl bs R) (hp : xl_P W m i e pf pl pn RP)
    {bf' bl' : Int64} (h1 : bf' = if bs = 0 then bf ||| pf else bf) (h2 : bl' = (if 0 < pn then 0 else bl) ||| pl) :
    ∃ A : Nat → Nat → Prop, xl_L W m o b i uf ul us bf' bl' (bs + pn) (fun s t => R s t ∨ RP s t ∨ A s t) ∧
      ∀ fo O, bs_F W fo O → bs_F W (bs_add fo bl pf) (fun s t => O s t ∨ A s t) := by
  obtain ⟨uF, uL, un, uO, bF, bL, bn, bO, l1, l2, l3, l4, l5, l6, l7, l8, l9, l10, l11⟩ := h
  obtain ⟨pF, pL, n, p1, p2, p3, hc⟩ := hp
  rcases hc with ⟨_, p4, p5, _⟩ | ⟨c, _⟩
  · refine ⟨fun s t => bL s ∧ pF t, ⟨uF, uL, un, uO, _, _, _, _, l1, fg_cat l2 p4, l3, l4, l5, l6, ?_, ?_, ?_, by omega, ?_⟩, fun fo O hf => bs_Fadd hf l8 p1⟩
    · rw [h1, l9]
      have hb : bn < 2 ^ 31 := by omega
      by_cases c : bn = 0
      · subst c
        rw [if_pos nI_0]
        exact bs_Bc (bs_Bor l7 p1) (fun s => by simp)
      · rw [if_neg (nI_ne0 (by omega) hb)]
        exact bs_Bc l7 (fun s => by simp [c])
    · rw [h2, p3]
      have hb : n < 2 ^ 31 := by omega
      by_cases c : n = 0
      · subst c
        rw [if_neg (by rw [nI_0]; decide)]
        exact bs_Bc (bs_Bor l8 p2) (fun s => by simp)
      · rw [if_pos (by rw [← nI_0]; exact nI_lt (by omega) hb)]
        exact bs_Bc (bs_Bor bs_B0 p2) (fun s => by simp [c])
    · rw [l9, p3, nI_add]
    · intro s t
      dsimp only
      rw [l11]
      constructor
      · rintro ((h | h) | h | h)
        · exact Or.inl h
        · exact Or.inr (Or.inl h)
        · exact Or.inr (Or.inr (Or.inl h))
        · exact Or.inr (Or.inr (Or.inr h))
      · rintro (h | h | h | h)
        · exact Or.inl (Or.inl h)
        · exact Or.inl (Or.inr h)
        · exact Or.inr (Or.inl h)
        · exact Or.inr (Or.inr h)
  · rw [hi] at c; exact Bool.noConfusion c
/-- joinPiece over all levels -/
theorem xl_stepJ {i : Nat} {lev : Int32} {uf ul : Nat → Int64} {us : Nat → Int32} {bf bl : Nat → Int64} {bs : Nat → Int32} {pf pl : Int64} {pn : Int32} {fo : Nat → Int64} {l : Nat}
    (hm : gr_ct W i ≤ 63) (hi : gr_ic W i = false) (h : xl_I W m i lev uf ul us bf bl bs pf pl pn fo) (hl : gr_dp W i = l + 1) {bf' bl' : Nat → Int64} {bs' : Nat → Int32} {fo' : Nat → Int64}
    (e1 : bf' = fun j => if j = l then (if bs l = 0 then bf l ||| pf else bf l) else bf j)
    (e2 : bl' = fun j => if j = l then (if 0 < pn then 0 else bl l) ||| pl else bl j)
    (e3 : bs' = fun j => if j = l then bs l + pn else bs j) (e4 : fo' = bs_add fo (bl l) pf) :
    lev = nI l ∧ ∃ R, xl_V W m i i lev uf ul us bf' bl' bs' R ∧ bs_F W fo' R := by
  obtain ⟨ps, R, RP, ⟨l', bS, be, Q, v1, v2, v3, v4, v5, v6, v7⟩, hP, hF⟩ := h
  have : l' = l := by omega
  subst this
  subst v5
  obtain ⟨A, hA1, hA2⟩ := xl_join hm hi (v3 l' (Nat.le_refl _)) hP (rfl) (rfl)
  refine ⟨v2, fun s t => (R s t ∨ RP s t) ∨ A s t, ⟨l', bS, fun j => if j = l' then i else be j, fun j => if j = l' then (fun s t => Q l' s t ∨ RP s t ∨ A s t) else Q j, v1, v2, ?_, ?_, ?_, v6, ?_⟩, by rw [e4]; exact hA2 fo _ hF⟩
  · intro j hj
    subst e1 e2 e3
    by_cases c : j = l'
    · subst c; simp only [if_true]; exact hA1
    · simp only [if_neg c]; exact v3 j hj
  · intro j hj
    dsimp only
    rw [if_neg (by omega)]; exact v4 j hj
  · simp
  · intro s t
    constructor
    · rintro ((h | h) | h)
      · obtain ⟨j, hj, hq⟩ := (v7 s t).mp h
        refine ⟨j, hj, ?_⟩
        by_cases c : j = l'
        · subst c; simp only [if_true]; exact Or.inl hq
        · simp only [if_neg c]; exact hq
      · exact ⟨l', Nat.le_refl _, by simp only [if_true]; exact Or.inr (Or.inl h)⟩
      · exact ⟨l', Nat.le_refl _, by simp only [if_true]; exact Or.inr (Or.inr h)⟩
    · rintro ⟨j, hj, hq⟩
      by_cases c : j = l'
      · subst c
        simp only [if_true] at hq
        rcases hq with h | h | h
        · exact Or.inl (Or.inl ((v7 s t).mpr ⟨j, hj, h⟩))
        · exact Or.inl (Or.inr h)
        · exact Or.inr h
      · simp only [if_neg c] at hq
        exact Or.inl (Or.inl ((v7 s t).mpr ⟨j, hj, hq⟩))
end
