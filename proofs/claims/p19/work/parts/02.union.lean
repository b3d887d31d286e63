/-! Unions: the branches behind a parenthesis. -/
section
variable {Ed : Nat → Nat → Nat → Nat → Prop} {tg : Nat → Nat} {Sr : Nat → Prop} {Ba : Nat → Nat → Prop}
theorem fg_open {o : Nat} (hS : ¬ Sr o) (hB : ∀ p, Ba o p → o < p) (hE : ∀ y z c, Ed o y z c ↔ y = o ∧ z = o + 1 ∧ c = 0) :
    fg_U Ed tg Sr Ba o (o + 1) (fun _ => False) (fun _ => False) 64 (fun _ _ => False) := by
  have ho : ∀ s, Sr s → o ≤ s → s < o + 1 → False := by
    intro s hs h1 h2
    have : s = o := by omega
    subst this; exact hS hs
  refine ⟨by omega, ?_, ?_, ?_, ?_, ?_, ?_, Or.inl rfl, ?_⟩
  · intro x y z c h1 h2 h3
    have : x = o := by omega
    subst this
    obtain ⟨rfl, rfl, rfl⟩ := (hE y z c).mp h3
    refine ⟨by omega, by omega, by omega, by omega, fun _ => ⟨rfl, rfl⟩, fun h => ?_⟩
    have := hB _ h; omega
  · intro s hs h1 h2; exact (ho s hs h1 h2).elim
  · exact fg_P1 (x := o) (by omega) (by omega) ((hE _ _ _).mpr ⟨rfl, rfl, rfl⟩)
  · intro s; exact ⟨False.elim, fun h => ho s h.1 h.2.1 h.2.2.1⟩
  · intro s; exact ⟨False.elim, fun h => ho s h.1 h.2.1 h.2.2.1⟩
  · intro s t; exact ⟨False.elim, fun h => ho s h.1 h.2.2.1 h.2.2.2.1⟩
  · intro p k h1 h2 _
    have := hB _ h1; omega
/-- what the bar p (or the end) adds: the branch b .. p-1 becomes finished -/
theorem fg_alt {o b p : Nat} {F1 L1 F2 L2 : Nat → Prop} {n1 n2 : Nat} {O1 O2 : Nat → Nat → Prop}
    (h1 : fg_U Ed tg Sr Ba o b F1 L1 n1 O1) (h2 : fg_G Ed tg Sr b p F2 L2 n2 O2) (hS : ¬ Sr p) (hBp : Ba o p)
    (hBn : ∀ y, b ≤ y → y < p → ¬ Ba o y) (hBo : ¬ Ba o o)
    (hE : ∀ y z c, Ed p y z c ↔ y = o ∧ z = p + 1 ∧ c = 0) (hn : n2 < 64) :
    fg_U Ed tg Sr Ba o (p + 1) (fun s => F1 s ∨ F2 s) (fun s => L1 s ∨ L2 s) (if n2 < n1 then n2 else n1) (fun s t => O1 s t ∨ O2 s t) := by
  obtain ⟨ob, E1, T1, r1, f1, l1, o1, q1, m1⟩ := h1
  obtain ⟨bp, E2, T2, f2, l2, o2, q2, m2⟩ := h2
  have M1 : ∀ {u v k}, fg_P Ed o b u v k → fg_P Ed o (p + 1) u v k := fun h => fg_Pm h (Nat.le_refl _) (by omega)
  have M2 : ∀ {u v k}, fg_P Ed b p u v k → fg_P Ed o (p + 1) u v k := fun h => fg_Pm h (by omega) (by omega)
  -- from the parenthesis
  have A : ∀ v k, fg_P Ed o (p + 1) o v k → (v < b ∧ fg_P Ed o b o v k ∧ (v = o → k = 0)) ∨ (b ≤ v ∧ v ≤ p ∧ fg_P Ed b p b v k) ∨ v = p + 1 := by
    intro v k h
    refine h (fun v k => (v < b ∧ fg_P Ed o b o v k ∧ (v = o → k = 0)) ∨ (b ≤ v ∧ v ≤ p ∧ fg_P Ed b p b v k) ∨ v = p + 1) (Or.inl ⟨ob, fg_P0, fun _ => rfl⟩) ?_
    intro x y z c j g1 g2 g3 hI
    by_cases hx : x < b
    · obtain ⟨e1, e2, e3, e4, e5, _⟩ := E1 x y z c g1 hx g3
      rcases hI with ⟨_, hp, hz⟩ | ⟨e, _⟩ | e
      · by_cases hzb : z = b
        · obtain ⟨rfl, rfl⟩ := e5 hzb
          have := hz rfl
          subst this; subst hzb
          exact Or.inr (Or.inl ⟨Nat.le_refl _, bp, fg_P0⟩)
        · exact Or.inl ⟨by omega, fg_Pe hp g1 hx g3, fun e => by omega⟩
      · omega
      · omega
    · by_cases hxp : x < p
      · obtain ⟨e1, e2, e3, e4⟩ := E2 x y z c (by omega) hxp g3
        rcases hI with ⟨e, _⟩ | ⟨_, _, hp⟩ | e
        · omega
        · exact Or.inr (Or.inl ⟨e3, e4, fg_Pe hp (by omega) hxp g3⟩)
        · omega
      · have : x = p := by omega
        subst this
        obtain ⟨rfl, rfl, rfl⟩ := (hE y z c).mp g3
        exact Or.inr (Or.inr rfl)
  have B : ∀ u, o < u → u < b → ∀ v k, fg_P Ed o (p + 1) u v k → o < v ∧ v < b ∧ fg_P Ed o b u v k := by
    intro u hu1 hu2 v k h
    refine h (fun v k => o < v ∧ v < b ∧ fg_P Ed o b u v k) ⟨hu1, hu2, fg_P0⟩ ?_
    intro x y z c j g1 g2 g3 ⟨i1, i2, i3⟩
    by_cases hx : x < b
    · obtain ⟨e1, e2, e3, e4, e5, _⟩ := E1 x y z c g1 hx g3
      refine ⟨e3, ?_, fg_Pe i3 g1 hx g3⟩
      by_cases hzb : z = b
      · have := (e5 hzb).1; omega
      · omega
    · by_cases hxp : x < p
      · have := (E2 x y z c (by omega) hxp g3).1; omega
      · have : x = p := by omega
        subst this
        have := ((hE y z c).mp g3).1; omega
  have C : ∀ u, b ≤ u → u ≤ p → ∀ v k, fg_P Ed o (p + 1) u v k → b ≤ v ∧ v ≤ p ∧ fg_P Ed b p u v k := by
    intro u hu1 hu2 v k h
    refine h (fun v k => b ≤ v ∧ v ≤ p ∧ fg_P Ed b p u v k) ⟨hu1, hu2, fg_P0⟩ ?_
    intro x y z c j g1 g2 g3 ⟨i1, i2, i3⟩
    by_cases hx : x < b
    · have := (E1 x y z c g1 hx g3).2.1; omega
    · by_cases hxp : x < p
      · have e := E2 x y z c (by omega) hxp g3
        exact ⟨e.2.2.1, e.2.2.2, fg_Pe i3 (by omega) hxp g3⟩
      · have : x = p := by omega
        subst this
        have := ((hE y z c).mp g3).1; omega
  have np : ∀ s, Sr s → s < p + 1 → s < p := by
    intro s hs h
    by_cases e : s = p
    · subst e; exact absurd hs hS
    · omega
  have rb : fg_P Ed o (p + 1) o b 0 := M1 r1
  refine ⟨by omega, ?_, ?_, ?_, ?_, ?_, ?_, ?_, ?_⟩
  · intro x y z c g1 g2 g3
    by_cases hx : x < b
    · obtain ⟨e1, e2, e3, e4, e5, e6⟩ := E1 x y z c g1 hx g3
      exact ⟨e1, by omega, e3, by omega, fun e => by omega, e6⟩
    · by_cases hxp : x < p
      · obtain ⟨e1, e2, e3, e4⟩ := E2 x y z c (by omega) hxp g3
        exact ⟨by omega, by omega, by omega, by omega, fun e => by omega, hBn y e1 e2⟩
      · have : x = p := by omega
        subst this
        obtain ⟨rfl, rfl, rfl⟩ := (hE y z c).mp g3
        exact ⟨by omega, by omega, by omega, by omega, fun _ => ⟨rfl, rfl⟩, hBo⟩
  · intro s hs g1 g2
    by_cases h : s < b
    · have := T1 s hs g1 h; omega
    · have := T2 s hs (by omega) (np s hs g2); omega
  · exact fg_P1 (x := p) (by omega) (by omega) ((hE _ _ _).mpr ⟨rfl, rfl, rfl⟩)
  · intro s
    dsimp only
    rw [f1, f2]
    constructor
    · rintro (⟨hs, g1, g2, g3⟩ | ⟨hs, g1, g2, g3⟩)
      · exact ⟨hs, g1, by omega, M1 g3⟩
      · exact ⟨hs, by omega, by omega, fg_Pt0 rb (M2 g3)⟩
    · rintro ⟨hs, g1, g2, g3⟩
      have g2' := np s hs g2
      rcases A _ _ g3 with ⟨i1, i2, _⟩ | ⟨i1, i2, i3⟩ | i1
      · exact Or.inl ⟨hs, g1, i1, i2⟩
      · exact Or.inr ⟨hs, i1, g2', i3⟩
      · omega
  · intro s
    dsimp only
    rw [l1, l2]
    constructor
    · rintro (⟨hs, g1, g2, p', i1, i2, i3⟩ | ⟨hs, g1, g2, g3⟩)
      · exact ⟨hs, g1, by omega, p', i1, by omega, M1 i3⟩
      · exact ⟨hs, by omega, by omega, p, hBp, by omega, M2 g3⟩
    · rintro ⟨hs, g1, g2, p', i1, i2, i3⟩
      by_cases h : s < b
      · have hT := T1 s hs g1 h
        have := B _ hT.1 hT.2 _ _ i3
        exact Or.inl ⟨hs, g1, h, p', i1, this.2.1, this.2.2⟩
      · have hT := T2 s hs (by omega) (np s hs g2)
        have k := C _ hT.1 hT.2 _ _ i3
        have : p' = p := by
          by_cases e : p' < p
          · exact absurd i1 (hBn p' k.1 e)
          · omega
        subst this
        exact Or.inr ⟨hs, by omega, np s hs g2, k.2.2⟩
  · intro s t
    dsimp only
    rw [o1, o2]
    constructor
    · rintro (⟨hs, ht, g1, g2, g3, g4, g5⟩ | ⟨hs, ht, g1, g2, g3, g4, g5⟩)
      · exact ⟨hs, ht, g1, by omega, g3, by omega, M1 g5⟩
      · exact ⟨hs, ht, by omega, by omega, by omega, by omega, M2 g5⟩
    · rintro ⟨hs, ht, g1, g2, g3, g4, g5⟩
      by_cases h : s < b
      · have hT := T1 s hs g1 h
        have k := B _ hT.1 hT.2 _ _ g5
        exact Or.inl ⟨hs, ht, g1, h, g3, k.2.1, k.2.2⟩
      · have hT := T2 s hs (by omega) (np s hs g2)
        have k := C _ hT.1 hT.2 _ _ g5
        exact Or.inr ⟨hs, ht, by omega, np s hs g2, k.1, np t ht g4, k.2.2⟩
  · by_cases h : n2 < n1
    · rw [if_pos h]; exact Or.inr ⟨p, hBp, by omega, by have := fg_Pt rb (M2 q2); rw [Nat.zero_add] at this; exact this⟩
    · rw [if_neg h]
      rcases q1 with e | ⟨p', i1, i2, i3⟩
      · omega
      · exact Or.inr ⟨p', i1, by omega, M1 i3⟩
  · intro p' k i1 i2 i3
    have hk : n1 ≤ k ∨ n2 ≤ k := by
      rcases A _ _ i3 with ⟨j1, j2, _⟩ | ⟨j1, j2, j3⟩ | j1
      · exact Or.inl (m1 p' k i1 j1 j2)
      · have : p' = p := by
          by_cases e : p' < p
          · exact absurd i1 (hBn p' j1 e)
          · omega
        subst this
        exact Or.inr (m2 k j3)
      · omega
    split <;> omega
/-- the closing parenthesis c -/
theorem fg_close {o b c : Nat} {F1 L1 F2 L2 : Nat → Prop} {n1 n2 : Nat} {O1 O2 : Nat → Nat → Prop}
    (h1 : fg_U Ed tg Sr Ba o b F1 L1 n1 O1) (h2 : fg_G Ed tg Sr b c F2 L2 n2 O2) (hS : ¬ Sr c) (hBo : ¬ Ba o o)
    (hE : ∀ y z w, Ed c y z w ↔ w = 0 ∧ ((Ba o y ∧ y < b ∧ z = c) ∨ (y = c ∧ z = c + 1))) (hn : n2 < 64) (hBl : ∀ y, Ba o y → o < y) :
    fg_G Ed tg Sr o (c + 1) (fun s => F1 s ∨ F2 s) (fun s => L1 s ∨ L2 s) (if n2 < n1 then n2 else n1) (fun s t => O1 s t ∨ O2 s t)
      ∧ fg_R Ed tg Sr o (c + 1) (fun s => L1 s ∨ L2 s) := by
  obtain ⟨ob, E1, T1, r1, f1, l1, o1, q1, m1⟩ := h1
  obtain ⟨bc, E2, T2, f2, l2, o2, q2, m2⟩ := h2
  have M1 : ∀ {u v k}, fg_P Ed o b u v k → fg_P Ed o (c + 1) u v k := fun h => fg_Pm h (Nat.le_refl _) (by omega)
  have M2 : ∀ {u v k}, fg_P Ed b c u v k → fg_P Ed o (c + 1) u v k := fun h => fg_Pm h (by omega) (by omega)
  have eX : fg_P Ed o (c + 1) c (c + 1) 0 := fg_P1 (x := c) (by omega) (by omega) ((hE _ _ _).mpr ⟨rfl, Or.inr ⟨rfl, rfl⟩⟩)
  have eB : ∀ y, Ba o y → y < b → fg_P Ed o (c + 1) y c 0 := fun y h h' => fg_P1 (x := c) (by omega) (by omega) ((hE _ _ _).mpr ⟨rfl, Or.inl ⟨h, h', rfl⟩⟩)
  have A : ∀ v k, fg_P Ed o (c + 1) o v k → (v < b ∧ fg_P Ed o b o v k ∧ (v = o → k = 0)) ∨
      (b ≤ v ∧ v ≤ c ∧ fg_P Ed b c b v k) ∨ ((v = c ∨ v = c + 1) ∧ (fg_P Ed b c b c k ∨ ∃ y, Ba o y ∧ y < b ∧ fg_P Ed o b o y k)) := by
    intro v k h
    refine h (fun v k => (v < b ∧ fg_P Ed o b o v k ∧ (v = o → k = 0)) ∨
      (b ≤ v ∧ v ≤ c ∧ fg_P Ed b c b v k) ∨ ((v = c ∨ v = c + 1) ∧ (fg_P Ed b c b c k ∨ ∃ y, Ba o y ∧ y < b ∧ fg_P Ed o b o y k))) (Or.inl ⟨ob, fg_P0, fun _ => rfl⟩) ?_
    intro x y z w j g1 g2 g3 hI
    by_cases hx : x < b
    · obtain ⟨e1, e2, e3, e4, e5, _⟩ := E1 x y z w g1 hx g3
      rcases hI with ⟨_, hp, hz⟩ | ⟨e, _⟩ | ⟨e, _⟩
      · by_cases hzb : z = b
        · obtain ⟨rfl, rfl⟩ := e5 hzb
          have := hz rfl
          subst this; subst hzb
          exact Or.inr (Or.inl ⟨Nat.le_refl _, bc, fg_P0⟩)
        · exact Or.inl ⟨by omega, fg_Pe hp g1 hx g3, fun e => by omega⟩
      · omega
      · omega
    · by_cases hxc : x < c
      · obtain ⟨e1, e2, e3, e4⟩ := E2 x y z w (by omega) hxc g3
        rcases hI with ⟨e, _⟩ | ⟨_, _, hp⟩ | ⟨e, _⟩
        · omega
        · exact Or.inr (Or.inl ⟨e3, e4, fg_Pe hp (by omega) hxc g3⟩)
        · omega
      · have : x = c := by omega
        subst this
        rcases (hE y z w).mp g3 with ⟨rfl, ⟨i1, i2, rfl⟩ | ⟨rfl, rfl⟩⟩
        · rcases hI with ⟨_, hp, _⟩ | ⟨e, _⟩ | ⟨e, _⟩
          · exact Or.inr (Or.inr ⟨Or.inl rfl, Or.inr ⟨y, i1, i2, hp⟩⟩)
          · omega
          · omega
        · rcases hI with ⟨e, _⟩ | ⟨_, _, hp⟩ | ⟨_, hp⟩
          · omega
          · exact Or.inr (Or.inr ⟨Or.inr rfl, Or.inl hp⟩)
          · exact Or.inr (Or.inr ⟨Or.inr rfl, hp⟩)
  have B : ∀ u, o < u → u < b → ∀ v k, fg_P Ed o (c + 1) u v k → (o < v ∧ v < b ∧ fg_P Ed o b u v k) ∨ ((v = c ∨ v = c + 1) ∧ ∃ y, Ba o y ∧ y < b ∧ fg_P Ed o b u y k) := by
    intro u hu1 hu2 v k h
    refine h (fun v k => (o < v ∧ v < b ∧ fg_P Ed o b u v k) ∨ ((v = c ∨ v = c + 1) ∧ ∃ y, Ba o y ∧ y < b ∧ fg_P Ed o b u y k)) (Or.inl ⟨hu1, hu2, fg_P0⟩) ?_
    intro x y z w j g1 g2 g3 hI
    by_cases hx : x < b
    · obtain ⟨e1, e2, e3, e4, e5, _⟩ := E1 x y z w g1 hx g3
      rcases hI with ⟨i1, i2, i3⟩ | ⟨e, _⟩
      · refine Or.inl ⟨e3, ?_, fg_Pe i3 g1 hx g3⟩
        by_cases hzb : z = b
        · have := (e5 hzb).1; omega
        · omega
      · omega
    · by_cases hxc : x < c
      · have g := E2 x y z w (by omega) hxc g3
        rcases hI with ⟨i1, i2, i3⟩ | ⟨e, _⟩ <;> omega
      · have : x = c := by omega
        subst this
        rcases (hE y z w).mp g3 with ⟨rfl, ⟨i1, i2, rfl⟩ | ⟨rfl, rfl⟩⟩
        · rcases hI with ⟨_, _, hp⟩ | ⟨e, _⟩
          · exact Or.inr ⟨Or.inl rfl, y, i1, i2, hp⟩
          · omega
        · rcases hI with ⟨_, e, _⟩ | ⟨_, hp⟩
          · omega
          · exact Or.inr ⟨Or.inr rfl, hp⟩
  have C : ∀ u, b ≤ u → u ≤ c → ∀ v k, fg_P Ed o (c + 1) u v k → (b ≤ v ∧ v ≤ c ∧ fg_P Ed b c u v k) ∨ (v = c + 1 ∧ fg_P Ed b c u c k) := by
    intro u hu1 hu2 v k h
    refine h (fun v k => (b ≤ v ∧ v ≤ c ∧ fg_P Ed b c u v k) ∨ (v = c + 1 ∧ fg_P Ed b c u c k)) (Or.inl ⟨hu1, hu2, fg_P0⟩) ?_
    intro x y z w j g1 g2 g3 hI
    by_cases hx : x < b
    · have := (E1 x y z w g1 hx g3).2.1
      rcases hI with ⟨e, _⟩ | ⟨e, _⟩ <;> omega
    · by_cases hxc : x < c
      · have e := E2 x y z w (by omega) hxc g3
        rcases hI with ⟨_, _, hp⟩ | ⟨e, _⟩
        · exact Or.inl ⟨e.2.2.1, e.2.2.2, fg_Pe hp (by omega) hxc g3⟩
        · omega
      · have : x = c := by omega
        subst this
        rcases (hE y z w).mp g3 with ⟨rfl, ⟨i1, i2, rfl⟩ | ⟨rfl, rfl⟩⟩
        · rcases hI with ⟨e, _⟩ | ⟨e, _⟩ <;> omega
        · rcases hI with ⟨_, _, hp⟩ | ⟨e, _⟩
          · exact Or.inr ⟨rfl, hp⟩
          · omega
  have nc : ∀ s, Sr s → s < c + 1 → s < c := by
    intro s hs h
    by_cases e : s = c
    · subst e; exact absurd hs hS
    · omega
  have rb : fg_P Ed o (c + 1) o b 0 := M1 r1
  refine ⟨⟨by omega, ?_, ?_, ?_, ?_, ?_, ?_, ?_⟩, ?_⟩
  · intro x y z w g1 g2 g3
    by_cases hx : x < b
    · have := E1 x y z w g1 hx g3; omega
    · by_cases hxc : x < c
      · have := E2 x y z w (by omega) hxc g3; omega
      · have : x = c := by omega
        subst this
        rcases (hE y z w).mp g3 with ⟨rfl, ⟨i1, i2, rfl⟩ | ⟨rfl, rfl⟩⟩
        · have := hBl y i1; omega
        · omega
  · intro s hs g1 g2
    by_cases h : s < b
    · have := T1 s hs g1 h; omega
    · have := T2 s hs (by omega) (nc s hs g2); omega
  · intro s
    dsimp only
    rw [f1, f2]
    constructor
    · rintro (⟨hs, g1, g2, g3⟩ | ⟨hs, g1, g2, g3⟩)
      · exact ⟨hs, g1, by omega, M1 g3⟩
      · exact ⟨hs, by omega, by omega, fg_Pt0 rb (M2 g3)⟩
    · rintro ⟨hs, g1, g2, g3⟩
      have g2' := nc s hs g2
      rcases A _ _ g3 with ⟨i1, i2, _⟩ | ⟨i1, i2, i3⟩ | ⟨i1, _⟩
      · exact Or.inl ⟨hs, g1, i1, i2⟩
      · exact Or.inr ⟨hs, i1, g2', i3⟩
      · omega
  · intro s
    dsimp only
    rw [l1, l2]
    constructor
    · rintro (⟨hs, g1, g2, p', i1, i2, i3⟩ | ⟨hs, g1, g2, g3⟩)
      · exact ⟨hs, g1, by omega, fg_Pt0 (M1 i3) (fg_Pt0 (eB p' i1 i2) eX)⟩
      · exact ⟨hs, by omega, by omega, fg_Pt0 (M2 g3) eX⟩
    · rintro ⟨hs, g1, g2, g3⟩
      by_cases h : s < b
      · have hT := T1 s hs g1 h
        rcases B _ hT.1 hT.2 _ _ g3 with ⟨_, e, _⟩ | ⟨_, hp⟩
        · omega
        · exact Or.inl ⟨hs, g1, h, hp⟩
      · have hT := T2 s hs (by omega) (nc s hs g2)
        rcases C _ hT.1 hT.2 _ _ g3 with ⟨_, e, _⟩ | ⟨_, hp⟩
        · omega
        · exact Or.inr ⟨hs, by omega, nc s hs g2, hp⟩
  · intro s t
    dsimp only
    rw [o1, o2]
    constructor
    · rintro (⟨hs, ht, g1, g2, g3, g4, g5⟩ | ⟨hs, ht, g1, g2, g3, g4, g5⟩)
      · exact ⟨hs, ht, g1, by omega, g3, by omega, M1 g5⟩
      · exact ⟨hs, ht, by omega, by omega, by omega, by omega, M2 g5⟩
    · rintro ⟨hs, ht, g1, g2, g3, g4, g5⟩
      have g4' := nc t ht g4
      by_cases h : s < b
      · have hT := T1 s hs g1 h
        rcases B _ hT.1 hT.2 _ _ g5 with ⟨_, e, hp⟩ | ⟨e, _⟩
        · exact Or.inl ⟨hs, ht, g1, h, g3, e, hp⟩
        · omega
      · have hT := T2 s hs (by omega) (nc s hs g2)
        rcases C _ hT.1 hT.2 _ _ g5 with ⟨e, _, hp⟩ | ⟨e, _⟩
        · exact Or.inr ⟨hs, ht, by omega, nc s hs g2, e, g4', hp⟩
        · omega
  · by_cases h : n2 < n1
    · rw [if_pos h]
      have := fg_Pt (fg_Pt rb (M2 q2)) eX
      rw [Nat.zero_add, Nat.add_zero] at this; exact this
    · rw [if_neg h]
      rcases q1 with e | ⟨p', i1, i2, i3⟩
      · omega
      · have := fg_Pt (fg_Pt (M1 i3) (eB p' i1 i2)) eX
        rw [Nat.add_zero, Nat.add_zero] at this; exact this
  · intro k hk
    have h : n1 ≤ k ∨ n2 ≤ k := by
      rcases A _ _ hk with ⟨e, _⟩ | ⟨_, e, _⟩ | ⟨_, hp | ⟨y, i1, i2, i3⟩⟩
      · omega
      · omega
      · exact Or.inr (m2 k hp)
      · exact Or.inl (m1 y k i1 i2 i3)
    split <;> omega
  · intro s hs g1 g2 g3
    by_cases h : s < b
    · have hT := T1 s hs g1 h
      rcases B _ hT.1 hT.2 _ _ g3 with ⟨e, _⟩ | ⟨e, _⟩ <;> omega
    · have hT := T2 s hs (by omega) (nc s hs g2)
      rcases C _ hT.1 hT.2 _ _ g3 with ⟨e, _⟩ | ⟨e, _⟩ <;> omega
end
