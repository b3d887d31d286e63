/-! A pattern of P atoms in a row: letters, dots, classes. -/
/-- the characters a .. b-1 are one atom, which takes the letters of M in -/
def ln_A (W : Nat → Nat) (a b : Nat) (M : Nat → Prop) : Prop :=
  (b = a + 1 ∧ gr_L (W a) ∧ ∀ l, l < 5 → (M l ↔ W a = 97 + l)) ∨
  (b = a + 1 ∧ W a = 46 ∧ ∀ l, l < 5 → M l) ∨
  (W a = 91 ∧ a + 2 < b ∧ W (b - 1) = 93 ∧ (∀ x, a < x → x < b - 1 → gr_L (W x)) ∧ ∀ l, l < 5 → (M l ↔ ∃ x, a < x ∧ x < b - 1 ∧ W x = 97 + l))
def ln_P (W : Nat → Nat) (n P : Nat) (st : Nat → Nat) (Mt : Nat → Nat → Prop) : Prop :=
  st 0 = 1 ∧ st P = n + 1 ∧ ∀ i, i < P → ln_A W (st i) (st (i + 1)) (Mt i)
section
variable {W : Nat → Nat}
theorem ln_lt {a b : Nat} {M : Nat → Prop} (h : ln_A W a b M) : a < b := by
  rcases h with ⟨h, -, -⟩ | ⟨h, -, -⟩ | ⟨-, h, -, -, -⟩ <;> omega
/-- what the scan knows before an atom and behind it -/
def ln_S (W : Nat → Nat) (y i : Nat) : Prop := gr_ic W y = false ∧ gr_dp W y = 1 ∧ gr_ct W y = i ∧ vd_p W y
theorem ln_scan {a b i : Nat} {M : Nat → Prop} (h : ln_A W a b M) (ha : 1 ≤ a) (hS : ln_S W a i) : ln_S W b (i + 1) ∧ gr_S W a ∧ (W (b - 1) ≠ 40 ∧ W (b - 1) ≠ 124) ∧ (W a = 91 ∨ b = a + 1) ∧
    ∀ x, a < x → x < b → gr_ic W x = true ∧ gr_cs W x = a ∧ (gr_L (W x) ∨ (W x = 93 ∧ x = b - 1)) := by
  obtain ⟨s1, s2, s3, s4⟩ := hS
  have one : b = a + 1 → (gr_L (W a) ∨ W a = 46) → ln_S W b (i + 1) ∧ gr_S W a ∧ (W (b - 1) ≠ 40 ∧ W (b - 1) ≠ 124) ∧ (W a = 91 ∨ b = a + 1) ∧ ∀ x, a < x → x < b → gr_ic W x = true ∧ gr_cs W x = a ∧ (gr_L (W x) ∨ (W x = 93 ∧ x = b - 1)) := by
    intro e hh
    subst e
    have hg : gr_S W a := by
      rcases hh with hh | hh
      · exact Or.inr (Or.inr ⟨hh, s1⟩)
      · exact Or.inl hh
    have hd : gr_dp W (a + 1) = 1 := by rw [xs_dpn (by omega) (by omega)]; exact s2
    refine ⟨⟨xs_icL s1 (by omega), hd, by rw [xs_ctS hg, s3], vd_p1 s4 ⟨by omega, fun q => by rw [s1] at q; exact Bool.noConfusion q, fun _ => Or.inl (by omega)⟩⟩, hg, ?_, Or.inr rfl, fun x h1 h2 => by omega⟩
    rw [Nat.add_sub_cancel]; omega
  rcases h with ⟨e, h, -⟩ | ⟨e, h, -⟩ | ⟨h1, h2, h3, h4, -⟩
  · exact one e (Or.inl h)
  · exact one e (Or.inr h)
  · have hg : gr_S W a := Or.inr (Or.inl h1)
    have L : ∀ d, a + 1 + d < b → gr_ic W (a + 1 + d) = true ∧ gr_cs W (a + 1 + d) = a ∧ gr_dp W (a + 1 + d) = 1 ∧ gr_ct W (a + 1 + d) = i + 1 ∧ vd_p W (a + 1 + d) := by
      intro d
      induction d with
      | zero =>
        intro _
        have hd : gr_dp W (a + 1) = 1 := by rw [xs_dpn (by omega) (by omega)]; exact s2
        refine ⟨?_, ?_, hd, ?_, ?_⟩
        · show gr_ic W (a + 1) = true
          rw [gr_ic1]; simp [h1]
        · show gr_cs W (a + 1) = a
          rw [gr_cs1, if_pos h1]
        · show gr_ct W (a + 1) = i + 1
          rw [xs_ctS hg, s3]
        · exact vd_p1 s4 ⟨by omega, fun q => by rw [s1] at q; exact Bool.noConfusion q, fun _ => Or.inl (Or.inr (Or.inr h1))⟩
      | succ d ih =>
        intro hd
        obtain ⟨i1, i2, i3, i4, i5⟩ := ih (by omega)
        have hL := h4 (a + 1 + d) (by omega) (by omega)
        have hdp : gr_dp W (a + 1 + d + 1) = 1 := by rw [xs_dpn (by omega) (by omega)]; exact i3
        have e : a + 1 + (d + 1) = a + 1 + d + 1 := by omega
        rw [e]
        refine ⟨?_, ?_, hdp, ?_, vd_p1 i5 ⟨by omega, fun _ => Or.inl hL, fun q => by rw [i1] at q; exact Bool.noConfusion q⟩⟩
        · rw [gr_ic1, i1, beq_false_of_ne (a := W (a + 1 + d)) (b := 93) (by omega)]; simp
        · rw [gr_cs1, if_neg (by omega)]; exact i2
        · rw [xs_ctN]
          · exact i4
          · rintro (q | q | ⟨-, q⟩)
            · omega
            · omega
            · rw [i1] at q; exact Bool.noConfusion q
    obtain ⟨i1, i2, i3, i4, i5⟩ := L (b - 2 - a) (by omega)
    have e : a + 1 + (b - 2 - a) = b - 1 := by omega
    rw [e] at i1 i2 i3 i4 i5
    have hb : b = b - 1 + 1 := by omega
    have hprev := h4 (b - 1 - 1) (by omega) (by omega)
    refine ⟨?_, hg, ⟨by omega, by omega⟩, Or.inl h1, ?_⟩
    · rw [hb]
      have hdp : gr_dp W (b - 1 + 1) = 1 := by rw [xs_dpn (by omega) (by omega)]; exact i3
      refine ⟨?_, hdp, ?_, vd_p1 i5 ⟨by omega, fun _ => Or.inr ⟨h3, by omega⟩, fun q => by rw [i1] at q; exact Bool.noConfusion q⟩⟩
      · rw [gr_ic1, i1]; simp [h3]
      · rw [xs_ctN (gs_nS (by omega))]; exact i4
    · intro x x1 x2
      have q := L (x - (a + 1)) (by omega)
      rw [show a + 1 + (x - (a + 1)) = x from by omega] at q
      refine ⟨q.1, q.2.1, ?_⟩
      by_cases c : x = b - 1
      · right; exact ⟨by rw [c]; exact h3, c⟩
      · left; exact h4 x x1 (by omega)
/-- all that the search needs of such a pattern -/
theorem ln_all {n P : Nat} {st : Nat → Nat} {Mt : Nat → Nat → Prop} (h0 : W 0 = 40) (h : ln_P W n P st Mt) :
    ∀ i, i ≤ P → ln_S W (st i) i ∧ 1 ≤ st i ∧ ∀ x, 1 ≤ x → x < st i → ∃ j, j < i ∧ st j ≤ x ∧ x < st (j + 1) := by
  obtain ⟨h1, h2, h3⟩ := h
  intro i
  induction i with
  | zero =>
    intro _
    rw [h1]
    refine ⟨⟨?_, ?_, ?_, fun x q1 q2 => by omega⟩, Nat.le_refl _, fun x q1 q2 => by omega⟩
    · rw [gr_ic1]; simp [h0, gr_ic]
    · rw [gr_dp1, if_pos h0]; rfl
    · rw [xs_ctN (gs_nS (by omega))]; rfl
  | succ i ih =>
    intro hi
    obtain ⟨i1, i2, i3⟩ := ih (by omega)
    have hA := h3 i (by omega)
    have hlt := ln_lt hA
    refine ⟨(ln_scan hA i2 i1).1, by omega, fun x q1 q2 => ?_⟩
    by_cases c : x < st i
    · obtain ⟨j, j1, j2, j3⟩ := i3 x q1 c
      exact ⟨j, by omega, j2, j3⟩
    · exact ⟨i, by omega, by omega, q2⟩
theorem ln_mono {n P : Nat} {st : Nat → Nat} {Mt : Nat → Nat → Prop} (h : ln_P W n P st Mt) : ∀ d i, i + d ≤ P → st i + d ≤ st (i + d) := by
  intro d
  induction d with
  | zero => intro i _; exact Nat.le_refl _
  | succ d ih =>
    intro i hi
    have := ih i (by omega)
    have := ln_lt (h.2.2 (i + d) (by omega))
    rw [show i + (d + 1) = i + d + 1 from by omega]
    omega
theorem ln_inj {n P : Nat} {st : Nat → Nat} {Mt : Nat → Nat → Prop} (h : ln_P W n P st Mt) {i j : Nat} (hi : i ≤ P) (hj : j ≤ P) (e : st i = st j) : i = j := by
  rcases Nat.lt_trichotomy i j with q | q | q
  · have := ln_mono h (j - i) i (by omega)
    rw [show i + (j - i) = j from by omega] at this; omega
  · exact q
  · have := ln_mono h (i - j) j (by omega)
    rw [show j + (i - j) = i from by omega] at this; omega
theorem ln_V {n P : Nat} {st : Nat → Nat} {Mt : Nat → Nat → Prop} (h0 : W 0 = 40) (hP : 0 < P) (h : ln_P W n P st Mt) : vd_V W n ∧ gr_ct W (n + 1) = P := by
  obtain ⟨⟨s1, s2, s3, s4⟩, -, -⟩ := ln_all h0 h P (Nat.le_refl _)
  obtain ⟨p1, p2, -⟩ := ln_all h0 h (P - 1) (by omega)
  have q := (ln_scan (h.2.2 (P - 1) (by omega)) p2 p1).2.2.1
  rw [show P - 1 + 1 = P from by omega, h.2.1, Nat.add_sub_cancel] at q
  rw [h.2.1] at s1 s2 s3 s4
  exact ⟨⟨s4, s2, s1, q.1, q.2⟩, s3⟩
theorem ln_src {n P : Nat} {st : Nat → Nat} {Mt : Nat → Nat → Prop} (h0 : W 0 = 40) (hm : W (n + 1) = 41) (h : ln_P W n P st Mt) {s : Nat} (hs : s < n + 2) (hS : gr_S W s) : ∃ i, i < P ∧ s = st i := by
  have hs1 : 1 ≤ s := by
    by_cases c : s = 0
    · subst c; exact absurd hS (gs_nS (by omega))
    · omega
  have hs2 : s < n + 1 := by
    by_cases c : s = n + 1
    · subst c; exact absurd hS (gs_nS (by omega))
    · omega
  obtain ⟨-, -, k⟩ := ln_all h0 h P (Nat.le_refl _)
  rw [h.2.1] at k
  obtain ⟨j, j1, j2, j3⟩ := k s hs1 hs2
  refine ⟨j, j1, ?_⟩
  by_cases c : s = st j
  · exact c
  · exfalso
    obtain ⟨p1, p2, -⟩ := ln_all h0 h j (by omega)
    obtain ⟨-, -, -, -, q⟩ := ln_scan (h.2.2 j j1) p2 p1
    obtain ⟨r1, r2, r3⟩ := q s (by omega) j3
    rcases hS with z | z | ⟨-, z⟩
    · omega
    · omega
    · rw [r1] at z; exact Bool.noConfusion z
theorem ln_tg {n P : Nat} {st : Nat → Nat} {Mt : Nat → Nat → Prop} (h0 : W 0 = 40) (h : ln_P W n P st Mt) {i : Nat} (hi : i < P) : gr_tg W (n + 2) (st i) = st (i + 1) := by
  obtain ⟨p1, p2, -⟩ := ln_all h0 h i (by omega)
  have hA := h.2.2 i hi
  obtain ⟨-, -, -, -, q⟩ := ln_scan hA p2 p1
  have hle := ln_mono h (P - (i + 1)) (i + 1) (by omega)
  rw [show i + 1 + (P - (i + 1)) = P from by omega, h.2.1] at hle
  rcases hA with ⟨e, g, -⟩ | ⟨e, g, -⟩ | ⟨g1, g2, g3, g4, -⟩
  · rw [gr_tg1 (by omega), e]
  · rw [gr_tg1 (by omega), e]
  · rw [gr_tg2 g1 (e := st (i + 1) - 1) (by omega) (by omega) g3 (fun j j1 j2 => by have := g4 j j1 j2; omega)]
    omega
/-- edges without a letter: into the pattern and out of it -/
theorem ln_eps {n P : Nat} {st : Nat → Nat} {Mt : Nat → Nat → Prop} (h0 : W 0 = 40) (hm : W (n + 1) = 41) (h : ln_P W n P st Mt) {x y z : Nat} (hx : x < n + 2) (hE : gr_E W x y z 0) : (y = 0 ∧ z = 1) ∨ (y = n + 1 ∧ z = n + 2) := by
  by_cases c0 : x = 0
  · subst c0
    obtain ⟨rfl, rfl, -⟩ := (gs_E40 h0).mp hE
    exact Or.inl ⟨rfl, rfl⟩
  · have cls : ∀ x, 1 ≤ x → x < n + 1 → gr_L (W x) ∨ W x = 46 ∨ W x = 91 ∨ W x = 93 := by
      intro x x1 x2
      obtain ⟨-, -, k⟩ := ln_all h0 h P (Nat.le_refl _)
      rw [h.2.1] at k
      obtain ⟨j, j1, j2, j3⟩ := k x x1 x2
      obtain ⟨p1, p2, -⟩ := ln_all h0 h j (by omega)
      obtain ⟨-, q0, -, -, q⟩ := ln_scan (h.2.2 j j1) p2 p1
      by_cases c : x = st j
      · subst c
        rcases q0 with z | z | ⟨z, -⟩
        · exact Or.inr (Or.inl z)
        · exact Or.inr (Or.inr (Or.inl z))
        · exact Or.inl z
      · rcases (q x (by omega) j3).2.2 with z | ⟨z, -⟩
        · exact Or.inl z
        · exact Or.inr (Or.inr (Or.inr z))
    by_cases c1 : x = n + 1
    · subst c1
      rcases (gs_E41 hm).mp hE with ⟨-, ⟨q1, -, -, q4, -⟩ | ⟨rfl, rfl⟩⟩
      · exfalso
        by_cases c : y = 0
        · subst c; omega
        · have := cls y (by omega) (by omega); omega
      · exact Or.inr ⟨rfl, rfl⟩
    · have := cls x (by omega) (by omega)
      exfalso
      rcases hE with ⟨-, -, -, q⟩ | ⟨-, -, -, q⟩ | ⟨q, -⟩ | ⟨q, -⟩ | ⟨q, -⟩ | ⟨q, -⟩ <;> omega
theorem ln_reach {n P : Nat} {st : Nat → Nat} {Mt : Nat → Nat → Prop} (h0 : W 0 = 40) (hm : W (n + 1) = 41) (hn : 0 < n) (h : ln_P W n P st Mt) {u v : Nat} (hp : fg_P (gr_E W) 0 (n + 2) u v 0) : v = u ∨ (u = 0 ∧ v = 1) ∨ (u = n + 1 ∧ v = n + 2) := by
  have q : 0 = 0 → v = u ∨ (u = 0 ∧ v = 1) ∨ (u = n + 1 ∧ v = n + 2) := by
    refine hp (fun v k => k = 0 → v = u ∨ (u = 0 ∧ v = 1) ∨ (u = n + 1 ∧ v = n + 2)) (fun _ => Or.inl rfl) ?_
    intro x y z c j _ h2 h3 hS hk
    have hc : c = 0 := by omega
    subst hc
    have hS := hS (by omega)
    have he := ln_eps h0 hm h h2 h3
    omega
  exact q rfl
theorem ln_FO {n P : Nat} {st : Nat → Nat} {Mt : Nat → Nat → Prop} (h0 : W 0 = 40) (hm : W (n + 1) = 41) (hn : 0 < n) (h : ln_P W n P st Mt) (p q : Nat) :
    (∃ t g, sm_S W (n + 2) q t g ∧ sm_R W (n + 2) p t) ↔ q = p + 1 ∧ q ≤ P := by
  have ctst : ∀ i, i ≤ P → gr_ct W (st i) = i := fun i hi => (ln_all h0 h i hi).1.2.2.1
  have stlt : ∀ i, i ≤ P → st i ≤ n + 1 := by
    intro i hi
    have := ln_mono h (P - i) i (by omega)
    rw [show i + (P - i) = P from by omega, h.2.1] at this; omega
  constructor
  · rintro ⟨t, g, ⟨g1, g2, g3, -⟩, hR⟩
    obtain ⟨j, j1, rfl⟩ := ln_src h0 hm h g2 g1
    rw [ctst j (by omega)] at g3
    rcases hR with ⟨rfl, hp⟩ | ⟨s, k1, k2, k3, k4⟩
    · have := ln_reach h0 hm hn h hp
      have hj1 := (ln_all h0 h j (by omega)).2.1
      have e : st j = st 0 := by rw [h.1]; omega
      have := ln_inj h (by omega) (by omega) e
      omega
    · obtain ⟨i, i1, rfl⟩ := ln_src h0 hm h k2 k1
      rw [ctst i (by omega)] at k3
      rw [ln_tg h0 h i1] at k4
      have := ln_reach h0 hm hn h k4
      have a1 := (ln_all h0 h (i + 1) (by omega)).2.1
      have a2 := stlt (i + 1) (by omega)
      have e : st j = st (i + 1) := by omega
      have := ln_inj h (by omega) (by omega) e
      omega
  · rintro ⟨rfl, hq⟩
    have hS : gr_S W (st p) := (ln_scan (h.2.2 p (by omega)) (ln_all h0 h p (by omega)).2.1 (ln_all h0 h p (by omega)).1).2.1
    have hlt := ln_lt (h.2.2 p (by omega))
    have := stlt (p + 1) hq
    refine ⟨st p, _, ⟨hS, by omega, by rw [ctst p (by omega)], rfl⟩, ?_⟩
    by_cases c : p = 0
    · subst c
      refine Or.inl ⟨rfl, ?_⟩
      rw [h.1]
      exact fg_P1 (x := 0) (by omega) (by omega) ((gs_E40 h0).mpr ⟨rfl, rfl, rfl⟩)
    · obtain ⟨i, rfl⟩ : ∃ i, p = i + 1 := ⟨p - 1, by omega⟩
      have hS' : gr_S W (st i) := (ln_scan (h.2.2 i (by omega)) (ln_all h0 h i (by omega)).2.1 (ln_all h0 h i (by omega)).1).2.1
      have := ln_lt (h.2.2 i (by omega))
      refine Or.inr ⟨st i, hS', by omega, by rw [ctst i (by omega)], ?_⟩
      rw [ln_tg h0 h (by omega)]
      exact fg_P0
theorem ln_fin {n P : Nat} {st : Nat → Nat} {Mt : Nat → Nat → Prop} (h0 : W 0 = 40) (hm : W (n + 1) = 41) (hn : 0 < n) (hP : 0 < P) (h : ln_P W n P st Mt) (p : Nat) : sm_R W (n + 2) p (n + 2) ↔ p = P := by
  have ctst : ∀ i, i ≤ P → gr_ct W (st i) = i := fun i hi => (ln_all h0 h i hi).1.2.2.1
  have stlt : ∀ i, i ≤ P → st i ≤ n + 1 := by
    intro i hi
    have := ln_mono h (P - i) i (by omega)
    rw [show i + (P - i) = P from by omega, h.2.1] at this; omega
  constructor
  · rintro (⟨rfl, hp⟩ | ⟨s, k1, k2, k3, k4⟩)
    · have := ln_reach h0 hm hn h hp; omega
    · obtain ⟨i, i1, rfl⟩ := ln_src h0 hm h k2 k1
      rw [ctst i (by omega)] at k3
      rw [ln_tg h0 h i1] at k4
      have := ln_reach h0 hm hn h k4
      have a2 := stlt (i + 1) (by omega)
      have e : st (i + 1) = st P := by rw [h.2.1]; omega
      have := ln_inj h (by omega) (by omega) e
      omega
  · rintro rfl
    obtain ⟨i, rfl⟩ : ∃ i, p = i + 1 := ⟨p - 1, by omega⟩
    have hS' : gr_S W (st i) := (ln_scan (h.2.2 i (by omega)) (ln_all h0 h i (by omega)).2.1 (ln_all h0 h i (by omega)).1).2.1
    have := ln_lt (h.2.2 i (by omega))
    have := stlt (i + 1) (by omega)
    refine Or.inr ⟨st i, hS', by omega, by rw [ctst i (by omega)], ?_⟩
    rw [ln_tg h0 h (by omega), h.2.1]
    exact fg_P1 (x := n + 1) (by omega) (by omega) ((gs_E41 hm).mpr ⟨rfl, Or.inr ⟨rfl, rfl⟩⟩)
/-- which letters an atom takes in -/
theorem ln_fit {n P : Nat} {st : Nat → Nat} {Mt : Nat → Nat → Prop} (h0 : W 0 = 40) (hV : gr_V W (n + 2)) (h : ln_P W n P st Mt) {i l : Nat} (hi : i < P) (hl : l < 5) : ft_y W (n + 2) (97 + l) (st i) ↔ Mt i l := by
  obtain ⟨p1, p2, -⟩ := ln_all h0 h i (by omega)
  have hA := h.2.2 i hi
  obtain ⟨-, -, -, -, q⟩ := ln_scan hA p2 p1
  have hle := ln_mono h (P - (i + 1)) (i + 1) (by omega)
  rw [show i + 1 + (P - (i + 1)) = P from by omega, h.2.1] at hle
  unfold ft_y
  rcases hA with ⟨e, g, g'⟩ | ⟨e, g, g'⟩ | ⟨g1, g2, g3, g4, g'⟩
  · rw [g' l hl]
    constructor
    · rintro (z | ⟨-, z⟩ | ⟨z, -⟩) <;> omega
    · intro z; exact Or.inr (Or.inl ⟨by omega, z⟩)
  · exact ⟨fun _ => g' l hl, fun _ => Or.inl g⟩
  · rw [g' l hl]
    constructor
    · rintro (z | ⟨z, -⟩ | ⟨-, j, j1, j2, j3, j4⟩)
      · omega
      · omega
      · obtain ⟨-, r2, -, -, r5⟩ := gr_icP hV j j1 j2
        rw [j3] at r2 r5
        refine ⟨j, r2, ?_, j4⟩
        by_cases c : j < st (i + 1) - 1
        · exact c
        · exfalso
          by_cases c2 : j = st (i + 1) - 1
          · subst c2; omega
          · have := (r5 (st (i + 1) - 1) (by omega) (by omega)).1; omega
    · rintro ⟨x, x1, x2, x3⟩
      have z := q x x1 (by omega)
      exact Or.inr (Or.inr ⟨g1, x, by omega, z.1, z.2.1, x3⟩)
end
