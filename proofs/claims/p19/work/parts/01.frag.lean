/-! Fragments of a graph whose edges have owners. Ed x y z c: the edge from y to z of cost c that character x owns. -/
section
variable (Ed : Nat → Nat → Nat → Nat → Prop)
/-- a path from u to v of cost k over edges owned by characters in lo .. hi-1 -/
def fg_P (lo hi u v k : Nat) : Prop :=
  ∀ S : Nat → Nat → Prop, S u 0 → (∀ x y z c j, lo ≤ x → x < hi → Ed x y z c → S y j → S z (j + c)) → S v k
end
section
variable {Ed : Nat → Nat → Nat → Nat → Prop}
theorem fg_P0 {lo hi u : Nat} : fg_P Ed lo hi u u 0 := fun _ h _ => h
theorem fg_Pe {lo hi u y j x z c : Nat} (h : fg_P Ed lo hi u y j) (h1 : lo ≤ x) (h2 : x < hi) (e : Ed x y z c) : fg_P Ed lo hi u z (j + c) :=
  fun S h0 hs => hs x y z c j h1 h2 e (h S h0 hs)
theorem fg_P1 {lo hi y x z c : Nat} (h1 : lo ≤ x) (h2 : x < hi) (e : Ed x y z c) : fg_P Ed lo hi y z c := by
  have h := fg_Pe (fg_P0 (Ed := Ed) (lo := lo) (hi := hi) (u := y)) h1 h2 e
  rw [Nat.zero_add] at h; exact h
theorem fg_Pm {lo hi lo' hi' u v k : Nat} (h : fg_P Ed lo hi u v k) (h1 : lo' ≤ lo) (h2 : hi ≤ hi') : fg_P Ed lo' hi' u v k :=
  fun S h0 hs => h S h0 (fun x y z c j a b e s => hs x y z c j (by omega) (by omega) e s)
theorem fg_Pt {lo hi u v w k j : Nat} (h : fg_P Ed lo hi u v k) (g : fg_P Ed lo hi v w j) : fg_P Ed lo hi u w (k + j) := by
  intro S h0 hs
  have hv := h S h0 hs
  refine g (fun z i => S z (k + i)) hv ?_
  intro x y z c i a b e s
  have := hs x y z c (k + i) a b e s
  rw [Nat.add_assoc] at this; exact this
theorem fg_Pt0 {lo hi u v w : Nat} (h : fg_P Ed lo hi u v 0) (g : fg_P Ed lo hi v w 0) : fg_P Ed lo hi u w 0 := fg_Pt h g
end
section
variable (Ed : Nat → Nat → Nat → Nat → Prop) (tg : Nat → Nat) (Sr : Nat → Prop)
/-- a fragment from state a to state b: its first and last positions, its least length, who follows whom -/
def fg_G (a b : Nat) (F L : Nat → Prop) (n : Nat) (O : Nat → Nat → Prop) : Prop :=
  a ≤ b ∧
  (∀ x y z c, a ≤ x → x < b → Ed x y z c → a ≤ y ∧ y < b ∧ a ≤ z ∧ z ≤ b) ∧
  (∀ s, Sr s → a ≤ s → s < b → a ≤ tg s ∧ tg s ≤ b) ∧
  (∀ s, F s ↔ Sr s ∧ a ≤ s ∧ s < b ∧ fg_P Ed a b a s 0) ∧
  (∀ s, L s ↔ Sr s ∧ a ≤ s ∧ s < b ∧ fg_P Ed a b (tg s) b 0) ∧
  (∀ s t, O s t ↔ Sr s ∧ Sr t ∧ a ≤ s ∧ s < b ∧ a ≤ t ∧ t < b ∧ fg_P Ed a b (tg s) t 0) ∧
  fg_P Ed a b a b n ∧ (∀ k, fg_P Ed a b a b k → n ≤ k)
/-- who comes back to the entry is a last one: holds for pieces -/
def fg_R (a b : Nat) (L : Nat → Prop) : Prop := ∀ s, Sr s → a ≤ s → s < b → fg_P Ed a b (tg s) a 0 → L s
variable (Ba : Nat → Nat → Prop)
/-- the finished branches behind the parenthesis o, up to the state b, where the next branch begins -/
def fg_U (o b : Nat) (F L : Nat → Prop) (n : Nat) (O : Nat → Nat → Prop) : Prop :=
  o < b ∧
  (∀ x y z c, o ≤ x → x < b → Ed x y z c → o ≤ y ∧ y < b ∧ o < z ∧ z ≤ b ∧ (z = b → y = o ∧ c = 0) ∧ ¬ Ba o y) ∧
  (∀ s, Sr s → o ≤ s → s < b → o < tg s ∧ tg s < b) ∧
  fg_P Ed o b o b 0 ∧
  (∀ s, F s ↔ Sr s ∧ o ≤ s ∧ s < b ∧ fg_P Ed o b o s 0) ∧
  (∀ s, L s ↔ Sr s ∧ o ≤ s ∧ s < b ∧ ∃ p, Ba o p ∧ p < b ∧ fg_P Ed o b (tg s) p 0) ∧
  (∀ s t, O s t ↔ Sr s ∧ Sr t ∧ o ≤ s ∧ s < b ∧ o ≤ t ∧ t < b ∧ fg_P Ed o b (tg s) t 0) ∧
  (n = 64 ∨ ∃ p, Ba o p ∧ p < b ∧ fg_P Ed o b o p n) ∧ (∀ p k, Ba o p → p < b → fg_P Ed o b o p k → n ≤ k)
end
section
variable {Ed : Nat → Nat → Nat → Nat → Prop} {tg : Nat → Nat} {Sr : Nat → Prop}
theorem fg_nil (a : Nat) : fg_G Ed tg Sr a a (fun _ => False) (fun _ => False) 0 (fun _ _ => False) := by
  refine ⟨Nat.le_refl a, fun x y z c h1 h2 => absurd h2 (by omega), fun s _ h1 h2 => absurd h2 (by omega), ?_, ?_, ?_, fg_P0, fun k _ => Nat.zero_le k⟩
  · intro s; refine ⟨False.elim, fun h => ?_⟩; have := h.2.1; have := h.2.2.1; omega
  · intro s; refine ⟨False.elim, fun h => ?_⟩; have := h.2.1; have := h.2.2.1; omega
  · intro s t; refine ⟨False.elim, fun h => ?_⟩; have := h.2.2.1; have := h.2.2.2.1; omega
/-- one position: characters s .. e-1 own together the single edge from s to e -/
theorem fg_one {s e : Nat} (hs : s < e) (ht : tg s = e) (hS : ∀ x, s ≤ x → x < e → (Sr x ↔ x = s))
    (hE : ∀ x y z c, s ≤ x → x < e → Ed x y z c → y = s ∧ z = e ∧ c = 1) (hX : ∃ x, s ≤ x ∧ x < e ∧ Ed x s e 1) :
    fg_G Ed tg Sr s e (fun q => q = s) (fun q => q = s) 1 (fun _ _ => False) ∧ fg_R Ed tg Sr s e (fun q => q = s) := by
  obtain ⟨x0, hx1, hx2, hx3⟩ := hX
  have Ss : Sr s := (hS s (Nat.le_refl s) hs).mpr rfl
  have A : ∀ v k, fg_P Ed s e s v k → (v = s ∧ k = 0) ∨ (v = e ∧ k = 1) := by
    intro v k h
    refine h (fun v k => (v = s ∧ k = 0) ∨ (v = e ∧ k = 1)) (Or.inl ⟨rfl, rfl⟩) ?_
    intro x y z c j h1 h2 hE' hj
    obtain ⟨rfl, rfl, rfl⟩ := hE x y z c h1 h2 hE'
    rcases hj with ⟨_, rfl⟩ | ⟨h, _⟩
    · exact Or.inr ⟨rfl, rfl⟩
    · omega
  have B : ∀ v k, fg_P Ed s e e v k → v = e := by
    intro v k h
    refine h (fun v _ => v = e) rfl ?_
    intro x y z c j h1 h2 hE' hj
    obtain ⟨rfl, rfl, rfl⟩ := hE x y z c h1 h2 hE'
    rfl
  refine ⟨⟨Nat.le_of_lt hs, ?_, ?_, ?_, ?_, ?_, fg_P1 hx1 hx2 hx3, ?_⟩, ?_⟩
  · intro x y z c h1 h2 h3
    obtain ⟨rfl, rfl, rfl⟩ := hE x y z c h1 h2 h3; omega
  · intro q hq h1 h2
    have := (hS q h1 h2).mp hq; subst this; omega
  · intro q
    refine ⟨fun h => by subst h; exact ⟨Ss, Nat.le_refl _, hs, fg_P0⟩, fun h => (hS q h.2.1 h.2.2.1).mp h.1⟩
  · intro q
    refine ⟨fun h => by subst h; refine ⟨Ss, Nat.le_refl _, hs, ?_⟩; rw [ht]; exact fg_P0, fun h => (hS q h.2.1 h.2.2.1).mp h.1⟩
  · intro q t
    refine ⟨False.elim, fun ⟨h1, h2, h3, h4, h5, h6, h7⟩ => ?_⟩
    have e1 := (hS q h3 h4).mp h1; have e2 := (hS t h5 h6).mp h2
    subst e1; rw [ht] at h7; have := B _ _ h7; omega
  · intro k h
    rcases A _ _ h with ⟨h, _⟩ | ⟨_, h⟩ <;> omega
  · intro q hq h1 h2 _; exact (hS q h1 h2).mp hq
/-- paths in two fragments in a row -/
theorem fg_catL {a b c : Nat} (hE1 : ∀ x y z w, a ≤ x → x < b → Ed x y z w → a ≤ y ∧ y < b ∧ a ≤ z ∧ z ≤ b)
    (hE2 : ∀ x y z w, b ≤ x → x < c → Ed x y z w → b ≤ y ∧ y < c ∧ b ≤ z ∧ z ≤ c) {u v k : Nat} (hu2 : u ≤ b) (h : fg_P Ed a c u v k) :
    (v ≤ b ∧ fg_P Ed a b u v k) ∨ (b ≤ v ∧ ∃ i j, k = i + j ∧ fg_P Ed a b u b i ∧ fg_P Ed b c b v j) := by
  refine h (fun v k => (v ≤ b ∧ fg_P Ed a b u v k) ∨ (b ≤ v ∧ ∃ i j, k = i + j ∧ fg_P Ed a b u b i ∧ fg_P Ed b c b v j)) (Or.inl ⟨hu2, fg_P0⟩) ?_
  intro x y z w i h1 h2 hE hS
  by_cases hx : x < b
  · obtain ⟨_, g2, _, g4⟩ := hE1 x y z w h1 hx hE
    rcases hS with ⟨_, hp⟩ | ⟨hb, _⟩
    · exact Or.inl ⟨g4, fg_Pe hp h1 hx hE⟩
    · omega
  · obtain ⟨g1, _, g3, _⟩ := hE2 x y z w (by omega) h2 hE
    rcases hS with ⟨hb, hp⟩ | ⟨hb, p, q, e, hp, hq⟩
    · have : y = b := by omega
      subst this
      exact Or.inr ⟨g3, i, w, rfl, hp, fg_P1 (by omega) h2 hE⟩
    · exact Or.inr ⟨g3, p, q + w, by omega, hp, fg_Pe hq (by omega) h2 hE⟩
theorem fg_catR {a b c : Nat} (hE1 : ∀ x y z w, a ≤ x → x < b → Ed x y z w → a ≤ y ∧ y < b ∧ a ≤ z ∧ z ≤ b)
    (hE2 : ∀ x y z w, b ≤ x → x < c → Ed x y z w → b ≤ y ∧ y < c ∧ b ≤ z ∧ z ≤ c) {u v k : Nat} (hu : b ≤ u) (h : fg_P Ed a c u v k) :
    b ≤ v ∧ fg_P Ed b c u v k := by
  refine h (fun v k => b ≤ v ∧ fg_P Ed b c u v k) ⟨hu, fg_P0⟩ ?_
  intro x y z w i h1 h2 hE hS
  by_cases hx : x < b
  · have := (hE1 x y z w h1 hx hE).2.1; omega
  · have g := hE2 x y z w (by omega) h2 hE
    exact ⟨g.2.2.1, fg_Pe hS.2 (by omega) h2 hE⟩
theorem fg_null {a b : Nat} {F L : Nat → Prop} {n : Nat} {O : Nat → Nat → Prop} (h : fg_G Ed tg Sr a b F L n O) : n = 0 ↔ fg_P Ed a b a b 0 := by
  obtain ⟨_, _, _, _, _, _, h1, h2⟩ := h
  constructor
  · intro e; subst e; exact h1
  · intro e; have := h2 0 e; omega
theorem fg_cat {a b c : Nat} {F1 L1 F2 L2 : Nat → Prop} {n1 n2 : Nat} {O1 O2 : Nat → Nat → Prop}
    (h1 : fg_G Ed tg Sr a b F1 L1 n1 O1) (h2 : fg_G Ed tg Sr b c F2 L2 n2 O2) :
    fg_G Ed tg Sr a c (fun s => F1 s ∨ (n1 = 0 ∧ F2 s)) (fun s => (n2 = 0 ∧ L1 s) ∨ L2 s) (n1 + n2) (fun s t => O1 s t ∨ O2 s t ∨ (L1 s ∧ F2 t)) := by
  have N1 := fg_null h1
  have N2 := fg_null h2
  obtain ⟨ab, E1, T1, f1, l1, o1, p1, m1⟩ := h1
  obtain ⟨bc, E2, T2, f2, l2, o2, p2, m2⟩ := h2
  have M1 : ∀ {u v k}, fg_P Ed a b u v k → fg_P Ed a c u v k := fun h => fg_Pm h (Nat.le_refl _) bc
  have M2 : ∀ {u v k}, fg_P Ed b c u v k → fg_P Ed a c u v k := fun h => fg_Pm h ab (Nat.le_refl _)
  refine ⟨by omega, ?_, ?_, ?_, ?_, ?_, fg_Pt (M1 p1) (M2 p2), ?_⟩
  · intro x y z w hx hx' hE
    by_cases h : x < b
    · have := E1 x y z w hx h hE; omega
    · have := E2 x y z w (by omega) hx' hE; omega
  · intro s hs h1 h2
    by_cases h : s < b
    · have := T1 s hs h1 h; omega
    · have := T2 s hs (by omega) h2; omega
  · intro s
    dsimp only
    rw [f1, f2, N1]
    constructor
    · rintro (⟨hs, q1, q2, q3⟩ | ⟨q0, hs, q1, q2, q3⟩)
      · exact ⟨hs, q1, by omega, M1 q3⟩
      · exact ⟨hs, by omega, q2, fg_Pt0 (M1 q0) (M2 q3)⟩
    · rintro ⟨hs, q1, q2, q3⟩
      rcases fg_catL E1 E2 ab q3 with ⟨g1, g2⟩ | ⟨g1, i, j, g2, g3, g4⟩
      · by_cases h : s < b
        · exact Or.inl ⟨hs, q1, h, g2⟩
        · have : s = b := by omega
          subst this
          exact Or.inr ⟨g2, hs, g1, q2, fg_P0⟩
      · have hi : i = 0 := by omega
        have hj : j = 0 := by omega
        subst hi; subst hj
        exact Or.inr ⟨g3, hs, g1, q2, g4⟩
  · intro s
    dsimp only
    rw [l1, l2, N2]
    constructor
    · rintro (⟨q0, hs, q1, q2, q3⟩ | ⟨hs, q1, q2, q3⟩)
      · exact ⟨hs, q1, by omega, fg_Pt0 (M1 q3) (M2 q0)⟩
      · exact ⟨hs, by omega, q2, M2 q3⟩
    · rintro ⟨hs, q1, q2, q3⟩
      by_cases h : s < b
      · have ht := T1 s hs q1 h
        rcases fg_catL E1 E2 ht.2 q3 with ⟨g1, g2⟩ | ⟨g1, i, j, g2, g3, g4⟩
        · have : b = c := by omega
          subst this
          exact Or.inl ⟨fg_P0, hs, q1, h, g2⟩
        · have hi : i = 0 := by omega
          have hj : j = 0 := by omega
          subst hi; subst hj
          exact Or.inl ⟨g4, hs, q1, h, g3⟩
      · have ht := T2 s hs (by omega) q2
        exact Or.inr ⟨hs, by omega, q2, (fg_catR E1 E2 ht.1 q3).2⟩
  · intro s t
    dsimp only
    rw [o1, o2, l1, f2]
    constructor
    · rintro (⟨hs, ht, q1, q2, q3, q4, q5⟩ | ⟨hs, ht, q1, q2, q3, q4, q5⟩ | ⟨⟨hs, q1, q2, q3⟩, ht, q4, q5, q6⟩)
      · exact ⟨hs, ht, q1, by omega, q3, by omega, M1 q5⟩
      · exact ⟨hs, ht, by omega, q2, by omega, q4, M2 q5⟩
      · exact ⟨hs, ht, q1, by omega, by omega, q5, fg_Pt0 (M1 q3) (M2 q6)⟩
    · rintro ⟨hs, ht, q1, q2, q3, q4, q5⟩
      by_cases h : s < b
      · have hT := T1 s hs q1 h
        rcases fg_catL E1 E2 hT.2 q5 with ⟨g1, g2⟩ | ⟨g1, i, j, g2, g3, g4⟩
        · by_cases h' : t < b
          · exact Or.inl ⟨hs, ht, q1, h, q3, h', g2⟩
          · have : t = b := by omega
            subst this
            exact Or.inr (Or.inr ⟨⟨hs, q1, h, g2⟩, ht, g1, q4, fg_P0⟩)
        · have hi : i = 0 := by omega
          have hj : j = 0 := by omega
          subst hi; subst hj
          exact Or.inr (Or.inr ⟨⟨hs, q1, h, g3⟩, ht, g1, q4, g4⟩)
      · have hT := T2 s hs (by omega) q2
        have g := fg_catR E1 E2 hT.1 q5
        exact Or.inr (Or.inl ⟨hs, ht, by omega, q2, g.1, q4, g.2⟩)
  · intro k h
    rcases fg_catL E1 E2 ab h with ⟨g1, g2⟩ | ⟨g1, i, j, g2, g3, g4⟩
    · have : b = c := by omega
      subst this
      have := m1 k g2
      have := m2 0 fg_P0
      omega
    · have := m1 i g3
      have := m2 j g4
      omega
/-- a postfix operator q behind the piece a .. q-1: st, it may repeat; sk, it may be left out -/
theorem fg_op {a q : Nat} {F L : Nat → Prop} {n : Nat} {O : Nat → Nat → Prop} {st sk : Prop} {n' : Nat}
    (h : fg_G Ed tg Sr a q F L n O) (hR : fg_R Ed tg Sr a q L) (haq : a < q) (hq : ¬ Sr q)
    (hE : ∀ y z c, Ed q y z c ↔ c = 0 ∧ ((sk ∧ y = a ∧ z = q) ∨ (st ∧ y = q ∧ z = a) ∨ (y = q ∧ z = q + 1)))
    (hn0 : sk → n' = 0) (hn1 : ¬ sk → n' = n) :
    fg_G Ed tg Sr a (q + 1) F L n' (fun s t => O s t ∨ (st ∧ L s ∧ F t)) ∧ fg_R Ed tg Sr a (q + 1) L := by
  obtain ⟨_, E, T, f, l, o, p, m⟩ := h
  have M : ∀ {u v k}, fg_P Ed a q u v k → fg_P Ed a (q + 1) u v k := fun h => fg_Pm h (Nat.le_refl _) (by omega)
  have eX : fg_P Ed a (q + 1) q (q + 1) 0 := fg_P1 (x := q) (by omega) (by omega) ((hE _ _ _).mpr ⟨rfl, Or.inr (Or.inr ⟨rfl, rfl⟩)⟩)
  have eB : st → fg_P Ed a (q + 1) q a 0 := fun h => fg_P1 (x := q) (by omega) (by omega) ((hE _ _ _).mpr ⟨rfl, Or.inr (Or.inl ⟨h, rfl, rfl⟩)⟩)
  have eS : sk → fg_P Ed a (q + 1) a q 0 := fun h => fg_P1 (x := q) (by omega) (by omega) ((hE _ _ _).mpr ⟨rfl, Or.inl ⟨h, rfl, rfl⟩⟩)
  have C : ∀ x y z w, a ≤ x → x < q + 1 → Ed x y z w → a ≤ y ∧ y < q + 1 ∧ a ≤ z ∧ z ≤ q + 1 := by
    intro x y z w h1 h2 h3
    by_cases hx : x < q
    · have := E x y z w h1 hx h3; omega
    · have : x = q := by omega
      subst this
      rcases (hE y z w).mp h3 with ⟨_, ⟨_, rfl, rfl⟩ | ⟨_, rfl, rfl⟩ | ⟨rfl, rfl⟩⟩ <;> omega
  -- from the entry
  have A : ∀ v k, fg_P Ed a (q + 1) a v k → (v ≤ q ∧ ((∃ k', k' ≤ k ∧ fg_P Ed a q a v k') ∨ (sk ∧ v = q))) ∨ (v = q + 1 ∧ ((∃ k', k' ≤ k ∧ fg_P Ed a q a q k') ∨ sk)) := by
    intro v k h
    refine h (fun v k => (v ≤ q ∧ ((∃ k', k' ≤ k ∧ fg_P Ed a q a v k') ∨ (sk ∧ v = q))) ∨ (v = q + 1 ∧ ((∃ k', k' ≤ k ∧ fg_P Ed a q a q k') ∨ sk))) (Or.inl ⟨by omega, Or.inl ⟨0, Nat.le_refl _, fg_P0⟩⟩) ?_
    intro x y z w j h1 h2 h3 hS
    by_cases hx : x < q
    · obtain ⟨_, g2, _, g4⟩ := E x y z w h1 hx h3
      rcases hS with ⟨_, ⟨k', hk, hp⟩ | ⟨_, e⟩⟩ | ⟨e, _⟩
      · exact Or.inl ⟨g4, Or.inl ⟨k' + w, by omega, fg_Pe hp h1 hx h3⟩⟩
      · omega
      · omega
    · have : x = q := by omega
      subst this
      rcases (hE y z w).mp h3 with ⟨rfl, ⟨hs, rfl, rfl⟩ | ⟨_, rfl, rfl⟩ | ⟨rfl, rfl⟩⟩
      · exact Or.inl ⟨Nat.le_refl _, Or.inr ⟨hs, rfl⟩⟩
      · exact Or.inl ⟨by omega, Or.inl ⟨0, Nat.zero_le _, fg_P0⟩⟩
      · rcases hS with ⟨_, ⟨k', hk, hp⟩ | ⟨hs, _⟩⟩ | ⟨e, _⟩
        · exact Or.inr ⟨rfl, Or.inl ⟨k', hk, hp⟩⟩
        · exact Or.inr ⟨rfl, Or.inr hs⟩
        · omega
  -- from behind a position
  have B : ∀ s, Sr s → a ≤ s → s < q → ∀ v k, fg_P Ed a (q + 1) (tg s) v k → k = 0 →
      (v ≤ q ∧ fg_P Ed a q (tg s) v 0) ∨ (v ≤ q ∧ L s ∧ st ∧ fg_P Ed a q a v 0) ∨ (v = q ∧ L s) ∨ (v = q + 1 ∧ L s) := by
    intro s hs s1 s2 v k h
    have hT := T s hs s1 s2
    refine h (fun v k => k = 0 → (v ≤ q ∧ fg_P Ed a q (tg s) v 0) ∨ (v ≤ q ∧ L s ∧ st ∧ fg_P Ed a q a v 0) ∨ (v = q ∧ L s) ∨ (v = q + 1 ∧ L s)) (fun _ => Or.inl ⟨hT.2, fg_P0⟩) ?_
    intro x y z w j h1 h2 h3 hS hjw
    have hj : j = 0 := by omega
    have hw : w = 0 := by omega
    subst hj; subst hw
    have hS := hS rfl
    by_cases hx : x < q
    · obtain ⟨_, g2, _, g4⟩ := E x y z 0 h1 hx h3
      rcases hS with ⟨_, hp⟩ | ⟨_, hL, hst, hp⟩ | ⟨e, _⟩ | ⟨e, _⟩
      · exact Or.inl ⟨g4, fg_Pe hp h1 hx h3⟩
      · exact Or.inr (Or.inl ⟨g4, hL, hst, fg_Pe hp h1 hx h3⟩)
      · omega
      · omega
    · have : x = q := by omega
      subst this
      have hL : y = a ∨ y = x → L s := by
        intro hy
        rcases hS with ⟨_, hp⟩ | ⟨_, hL, _, _⟩ | ⟨_, hL⟩ | ⟨_, hL⟩
        · rcases hy with rfl | rfl
          · exact hR s hs s1 s2 hp
          · exact (l s).mpr ⟨hs, s1, s2, hp⟩
        · exact hL
        · exact hL
        · exact hL
      rcases (hE y z 0).mp h3 with ⟨_, ⟨hs, rfl, rfl⟩ | ⟨hst, rfl, rfl⟩ | ⟨rfl, rfl⟩⟩
      · exact Or.inr (Or.inr (Or.inl ⟨rfl, hL (Or.inl rfl)⟩))
      · exact Or.inr (Or.inl ⟨by omega, hL (Or.inr rfl), hst, fg_P0⟩)
      · exact Or.inr (Or.inr (Or.inr ⟨rfl, hL (Or.inr rfl)⟩))
  have nq : ∀ s, Sr s → s < q + 1 → s < q := by
    intro s hs h
    by_cases e : s = q
    · subst e; exact absurd hs hq
    · omega
  refine ⟨⟨by omega, C, ?_, ?_, ?_, ?_, ?_, ?_⟩, ?_⟩
  · intro s hs h1 h2
    have := T s hs h1 (nq s hs h2); omega
  · intro s
    rw [f]
    constructor
    · rintro ⟨hs, q1, q2, q3⟩; exact ⟨hs, q1, by omega, M q3⟩
    · rintro ⟨hs, q1, q2, q3⟩
      have q2' := nq s hs q2
      rcases A _ _ q3 with ⟨_, ⟨k', hk, hp⟩ | ⟨_, e⟩⟩ | ⟨e, _⟩
      · have : k' = 0 := by omega
        subst this; exact ⟨hs, q1, q2', hp⟩
      · omega
      · omega
  · intro s
    constructor
    · intro hL
      obtain ⟨hs, q1, q2, q3⟩ := (l s).mp hL
      exact ⟨hs, q1, by omega, fg_Pt0 (M q3) eX⟩
    · rintro ⟨hs, q1, q2, q3⟩
      rcases B s hs q1 (nq s hs q2) _ _ q3 rfl with ⟨e, _⟩ | ⟨e, _⟩ | ⟨_, hL⟩ | ⟨_, hL⟩
      · omega
      · omega
      · exact hL
      · exact hL
  · intro s t
    constructor
    · rintro (h | ⟨hst, hL, hF⟩)
      · obtain ⟨hs, ht, q1, q2, q3, q4, q5⟩ := (o s t).mp h
        exact ⟨hs, ht, q1, by omega, q3, by omega, M q5⟩
      · obtain ⟨hs, q1, q2, q3⟩ := (l s).mp hL
        obtain ⟨ht, r1, r2, r3⟩ := (f t).mp hF
        exact ⟨hs, ht, q1, by omega, r1, by omega, fg_Pt0 (M q3) (fg_Pt0 (eB hst) (M r3))⟩
    · rintro ⟨hs, ht, q1, q2, q3, q4, q5⟩
      have q4' := nq t ht q4
      rcases B s hs q1 (nq s hs q2) _ _ q5 rfl with ⟨_, hp⟩ | ⟨_, hL, hst, hp⟩ | ⟨e, _⟩ | ⟨e, _⟩
      · exact Or.inl ((o s t).mpr ⟨hs, ht, q1, nq s hs q2, q3, q4', hp⟩)
      · exact Or.inr ⟨hst, hL, (f t).mpr ⟨ht, q3, q4', hp⟩⟩
      · omega
      · omega
  · by_cases hs : sk
    · rw [hn0 hs]; exact fg_Pt0 (eS hs) eX
    · rw [hn1 hs]; exact fg_Pt (M p) eX
  · intro k h
    by_cases hs : sk
    · rw [hn0 hs]; exact Nat.zero_le k
    · rw [hn1 hs]
      rcases A _ _ h with ⟨e, _⟩ | ⟨_, ⟨k', hk, hp⟩ | h'⟩
      · omega
      · have := m k' hp; omega
      · exact absurd h' hs
  · intro s hs q1 q2 q3
    rcases B s hs q1 (nq s hs q2) _ _ q3 rfl with ⟨_, hp⟩ | ⟨_, hL, _⟩ | ⟨_, hL⟩ | ⟨_, hL⟩
    · exact hR s hs q1 (nq s hs q2) hp
    · exact hL
    · exact hL
    · exact hL
end
