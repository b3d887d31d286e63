/-! What each character owns, and the fragments that it makes. -/
section
variable {W : Nat → Nat}
theorem gs_E40 {x y z c : Nat} (h : W x = 40) : gr_E W x y z c ↔ y = x ∧ z = x + 1 ∧ c = 0 := by
  simp [gr_E, gr_L, gr_O, h]
theorem gs_E124 {x y z c : Nat} (h : W x = 124) : gr_E W x y z c ↔ y = gr_en W x ∧ z = x + 1 ∧ c = 0 := by
  simp [gr_E, gr_L, gr_O, h]
theorem gs_E41 {x y z c : Nat} (h : W x = 41) : gr_E W x y z c ↔ c = 0 ∧ ((W y = 124 ∧ gr_en W y = gr_en W x ∧ gr_en W y < y ∧ y < x ∧ z = x) ∨ (y = x ∧ z = x + 1)) := by
  simp [gr_E, gr_L, gr_O, h]
theorem gs_E91 {x y z c : Nat} (h : W x = 91) : ¬ gr_E W x y z c := by
  simp [gr_E, gr_L, gr_O, h]
theorem gs_E93 {x y z c : Nat} (h : W x = 93) : gr_E W x y z c ↔ y = gr_cs W x ∧ z = x + 1 ∧ c = 1 := by
  simp [gr_E, gr_L, gr_O, h]
theorem gs_E46 {x y z c : Nat} (h : W x = 46) : gr_E W x y z c ↔ y = x ∧ z = x + 1 ∧ c = 1 := by
  simp [gr_E, gr_L, gr_O, h]
theorem gs_EL {x y z c : Nat} (h : gr_L (W x)) (hi : gr_ic W x = false) : gr_E W x y z c ↔ y = x ∧ z = x + 1 ∧ c = 1 := by
  unfold gr_E
  constructor
  · rintro (⟨_, h1⟩ | ⟨h1, _⟩ | ⟨h1, _⟩ | ⟨h1, _⟩ | ⟨h1, _⟩ | ⟨h1, _⟩)
    · exact h1
    all_goals omega
  · intro h1; exact Or.inl ⟨Or.inl ⟨h, hi⟩, h1⟩
theorem gs_ELi {x y z c : Nat} (h : gr_L (W x)) (hi : gr_ic W x = true) : ¬ gr_E W x y z c := by
  unfold gr_E
  rintro (⟨⟨_, h1⟩ | h1, _⟩ | ⟨h1, _⟩ | ⟨h1, _⟩ | ⟨h1, _⟩ | ⟨h1, _⟩ | ⟨h1, _⟩)
  · rw [hi] at h1; exact Bool.noConfusion h1
  all_goals omega
theorem gs_EO {x y z c : Nat} (h : gr_O (W x)) : gr_E W x y z c ↔ c = 0 ∧ ((W x ≠ 43 ∧ y = gr_as W x ∧ z = x) ∨ (W x ≠ 63 ∧ y = x ∧ z = gr_as W x) ∨ (y = x ∧ z = x + 1)) := by
  unfold gr_E
  constructor
  · rintro (⟨⟨h1, _⟩ | h1, _⟩ | ⟨h1, _⟩ | ⟨h1, _⟩ | ⟨h1, _⟩ | ⟨h1, _⟩ | ⟨_, h1⟩)
    · omega
    · omega
    · omega
    · omega
    · omega
    · omega
    · exact h1
  · intro h1; exact Or.inr (Or.inr (Or.inr (Or.inr (Or.inr ⟨h, h1⟩))))
theorem gs_nS {x : Nat} (h : W x = 40 ∨ W x = 41 ∨ W x = 124 ∨ W x = 93 ∨ gr_O (W x)) : ¬ gr_S W x := by
  rintro (h1 | h1 | ⟨h1, _⟩) <;> omega
theorem gs_letter {m x : Nat} (h : (gr_L (W x) ∧ gr_ic W x = false) ∨ W x = 46) :
    fg_G (gr_E W) (gr_tg W m) (gr_S W) x (x + 1) (fun q => q = x) (fun q => q = x) 1 (fun _ _ => False) ∧ fg_R (gr_E W) (gr_tg W m) (gr_S W) x (x + 1) (fun q => q = x) := by
  have hE : ∀ y z c, gr_E W x y z c ↔ y = x ∧ z = x + 1 ∧ c = 1 := by
    intro y z c
    rcases h with ⟨h, hi⟩ | h
    · exact gs_EL h hi
    · exact gs_E46 h
  refine fg_one (by omega) (gr_tg1 (by omega)) ?_ ?_ ⟨x, by omega, by omega, (hE _ _ _).mpr ⟨rfl, rfl, rfl⟩⟩
  · intro y h1 h2
    have : y = x := by omega
    subst this
    refine ⟨fun _ => rfl, fun _ => ?_⟩
    rcases h with h | h
    · exact Or.inr (Or.inr h)
    · exact Or.inl h
  · intro x' y z c h1 h2 h3
    have : x' = x := by omega
    subst this
    exact (hE y z c).mp h3
theorem gs_class {m e : Nat} (hV : gr_V W m) (he : e < m) (hi : gr_ic W e = true) (h93 : W e = 93) :
    fg_G (gr_E W) (gr_tg W m) (gr_S W) (gr_cs W e) (e + 1) (fun q => q = gr_cs W e) (fun q => q = gr_cs W e) 1 (fun _ _ => False) ∧ fg_R (gr_E W) (gr_tg W m) (gr_S W) (gr_cs W e) (e + 1) (fun q => q = gr_cs W e) := by
  obtain ⟨g1, g2, g3, g4, g5⟩ := gr_icP hV e he hi
  have hN : ∀ j, gr_cs W e < j → j < e → W j ≠ 93 := fun j h1 h2 => by have := (g5 j h1 h2).1; omega
  refine fg_one (by omega) (gr_tg2 g3 g2 (by omega) h93 hN) ?_ ?_ ⟨e, by omega, by omega, (gs_E93 h93).mpr ⟨rfl, rfl, rfl⟩⟩
  · intro y h1 h2
    refine ⟨fun hy => ?_, fun hy => hy ▸ Or.inr (Or.inl g3)⟩
    by_cases c1 : y = gr_cs W e
    · exact c1
    · by_cases c2 : y = e
      · subst c2; exact absurd hy (gs_nS (by omega))
      · obtain ⟨q1, q2, _⟩ := g5 y (by omega) (by omega)
        rcases hy with hy | hy | ⟨_, hy⟩
        · omega
        · omega
        · rw [q2] at hy; exact Bool.noConfusion hy
  · intro x y z c h1 h2 h3
    by_cases c1 : x = gr_cs W e
    · rw [c1] at h3; exact absurd h3 (gs_E91 g3)
    · by_cases c2 : x = e
      · subst c2
        have := (gs_E93 h93).mp h3
        exact this
      · obtain ⟨q1, q2, _⟩ := g5 x (by omega) (by omega)
        exact absurd h3 (gs_ELi q1 q2)
theorem gs_open {m o : Nat} (h : W o = 40) : fg_U (gr_E W) (gr_tg W m) (gr_S W) (gr_Ba W) o (o + 1) (fun _ => False) (fun _ => False) 64 (fun _ _ => False) :=
  fg_open (gs_nS (Or.inl h)) (fun _ hp => hp.2.2) (fun _ _ _ => gs_E40 h)
theorem gs_alt {m o b p : Nat} {F1 L1 F2 L2 : Nat → Prop} {n1 n2 : Nat} {O1 O2 : Nat → Nat → Prop}
    (h1 : fg_U (gr_E W) (gr_tg W m) (gr_S W) (gr_Ba W) o b F1 L1 n1 O1) (h2 : fg_G (gr_E W) (gr_tg W m) (gr_S W) b p F2 L2 n2 O2)
    (hp : W p = 124) (ho : gr_en W p = o) (hBn : ∀ y, b ≤ y → y < p → ¬ gr_Ba W o y) (hn : n2 < 64) :
    fg_U (gr_E W) (gr_tg W m) (gr_S W) (gr_Ba W) o (p + 1) (fun s => F1 s ∨ F2 s) (fun s => L1 s ∨ L2 s) (if n2 < n1 then n2 else n1) (fun s t => O1 s t ∨ O2 s t) := by
  have hob := h1.1
  have hbp := h2.1
  exact fg_alt h1 h2 (gs_nS (by omega)) ⟨hp, ho, by omega⟩ hBn (fun h => Nat.lt_irrefl _ h.2.2) (fun y z c => by rw [gs_E124 hp, ho]) hn
theorem gs_close {m o b p : Nat} {F1 L1 F2 L2 : Nat → Prop} {n1 n2 : Nat} {O1 O2 : Nat → Nat → Prop}
    (h1 : fg_U (gr_E W) (gr_tg W m) (gr_S W) (gr_Ba W) o b F1 L1 n1 O1) (h2 : fg_G (gr_E W) (gr_tg W m) (gr_S W) b p F2 L2 n2 O2)
    (hp : W p = 41) (ho : gr_en W p = o) (hBn : ∀ y, b ≤ y → y < p → ¬ gr_Ba W o y) (hn : n2 < 64) :
    fg_G (gr_E W) (gr_tg W m) (gr_S W) o (p + 1) (fun s => F1 s ∨ F2 s) (fun s => L1 s ∨ L2 s) (if n2 < n1 then n2 else n1) (fun s t => O1 s t ∨ O2 s t)
      ∧ fg_R (gr_E W) (gr_tg W m) (gr_S W) o (p + 1) (fun s => L1 s ∨ L2 s) := by
  have hob := h1.1
  have hbp := h2.1
  refine fg_close h1 h2 (gs_nS (by omega)) (fun h => Nat.lt_irrefl _ h.2.2) (fun y z c => ?_) hn (fun y h => h.2.2)
  rw [gs_E41 hp, ho]
  constructor
  · rintro ⟨rfl, ⟨q1, q2, q3, q4, q5⟩ | q⟩
    · refine ⟨rfl, Or.inl ⟨⟨q1, q2, by omega⟩, ?_, q5⟩⟩
      by_cases c : y < b
      · exact c
      · exact absurd ⟨q1, q2, by omega⟩ (hBn y (by omega) q4)
    · exact ⟨rfl, Or.inr q⟩
  · rintro ⟨rfl, ⟨⟨q1, q2, q3⟩, q4, q5⟩ | q⟩
    · exact ⟨rfl, Or.inl ⟨q1, q2, by omega, by omega, q5⟩⟩
    · exact ⟨rfl, Or.inr q⟩
theorem gs_op {m a q : Nat} {F L : Nat → Prop} {n : Nat} {O : Nat → Nat → Prop} (h : fg_G (gr_E W) (gr_tg W m) (gr_S W) a q F L n O)
    (hR : fg_R (gr_E W) (gr_tg W m) (gr_S W) a q L) (haq : a < q) (ha : gr_as W q = a) (hq : gr_O (W q)) :
    fg_G (gr_E W) (gr_tg W m) (gr_S W) a (q + 1) F L (if W q = 43 then n else 0) (fun s t => O s t ∨ (W q ≠ 63 ∧ L s ∧ F t)) ∧ fg_R (gr_E W) (gr_tg W m) (gr_S W) a (q + 1) L :=
  fg_op (sk := W q ≠ 43) (st := W q ≠ 63) h hR haq (gs_nS (by omega)) (fun y z c => by rw [gs_EO hq, ha]) (fun c => by rw [if_neg c]) (fun c => by rw [if_pos (by omega)])
end
