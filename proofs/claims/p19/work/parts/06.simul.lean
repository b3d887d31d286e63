/-! The sets of positions reached with at most d errors against the columns of least errors. -/
section
variable (m K : Nat) (G : Nat → Nat → Nat → Prop) (Rp : Nat → Nat → Prop) (Sc : Nat → Nat → Nat → Prop) (FO : Nat → Nat → Prop)
/-- how the states of the sets (0 the start, q a position from t to g) lie in the graph -/
def sm_A : Prop :=
  (∀ p a b, Rp p a → G a b 0 → Rp p b) ∧
  (∀ q t g, Sc q t g → Rp q g ∧ t ≤ m ∧ g ≤ m ∧ G t g 1) ∧
  (∀ p q, FO p q ↔ ∃ t g, Sc q t g ∧ Rp p t) ∧
  (∀ a b c, G a b c → a ≤ m ∧ b ≤ m ∧ (c = 0 ∨ (c = 1 ∧ ∃ q, Sc q a b))) ∧
  (∀ (u : Nat → Nat), (∀ a b c, G a b c → u b ≤ u a + c) → (∀ v, Rp 0 v → u v ≤ u 0) ∧ (∀ q t g v, Sc q t g → Rp q v → u v ≤ u g)) ∧
  Rp 0 0 ∧ (∀ p v, Rp p v → v ≤ m)
/-- the column c holds the least errors of the sets -/
def sm_C (XS : Nat → Nat → Prop) (c : Nat → Nat) : Prop :=
  ∀ s, s ≤ m → c s ≤ K + 1 ∧ ∀ d, d ≤ K → (c s ≤ d ↔ ∃ p, XS d p ∧ Rp p s)
/-- the sets at the start of the text -/
def sm_X0 : Nat → Nat → Prop
  | 0, p => p = 0
  | d + 1, p => sm_X0 d p ∨ ∃ p', sm_X0 d p' ∧ FO p' p
/-- the sets behind one more letter: M the positions that it matches, en whether a match may begin here -/
def sm_X1 (XS : Nat → Nat → Prop) (M : Nat → Prop) (en : Prop) : Nat → Nat → Prop
  | 0, q => (en ∧ q = 0) ∨ (M q ∧ ∃ p, XS 0 p ∧ FO p q)
  | d + 1, q => (en ∧ q = 0) ∨ XS d q ∨ (M q ∧ ∃ p, XS (d + 1) p ∧ FO p q) ∨ ∃ p, (XS d p ∨ sm_X1 XS M en d p) ∧ FO p q
end
section
variable {m K : Nat} {G : Nat → Nat → Nat → Prop} {Rp : Nat → Nat → Prop} {Sc : Nat → Nat → Nat → Prop} {FO : Nat → Nat → Prop}
theorem sm_X00 : ∀ d, sm_X0 FO d 0 := by
  intro d
  induction d with
  | zero => exact rfl
  | succ d ih => exact Or.inl ih
theorem sm_init (A : sm_A m G Rp Sc FO) {v0 u : Nat → Nat} (h0 : v0 0 = 0) (h1 : ∀ s, s ≤ m → s ≠ 0 → v0 s = K + 1) (hC : bf_C G m v0 u) :
    sm_C m K Rp (sm_X0 FO) u := by
  obtain ⟨a1, a2, a3, a4, a5, a7, a8⟩ := A
  have hG : ∀ a b c, G a b c → a ≤ m ∧ b ≤ m := fun a b c h => ⟨(a4 a b c h).1, (a4 a b c h).2.1⟩
  obtain ⟨a5a, a5b⟩ := a5 u hC.2.2
  have back : ∀ d p, sm_X0 FO d p → ∀ v, Rp p v → u v ≤ d := by
    intro d
    induction d with
    | zero =>
      intro p hp v hv
      have : p = 0 := hp
      subst this
      have := a5a v hv
      have := hC.2.1 0 (Nat.zero_le _)
      omega
    | succ d ih =>
      intro p hp v hv
      rcases hp with hp | ⟨p', hp, hf⟩
      · have := ih p hp v hv; omega
      · obtain ⟨t, g, hs, ht⟩ := (a3 p' p).mp hf
        have e1 := ih p' hp t ht
        have e2 := hC.2.2 t g 1 (a2 p t g hs).2.2.2
        have e3 := a5b p t g v hs hv
        omega
  intro s hs
  have hup : u s ≤ K + 1 := by
    have := hC.2.1 s hs
    by_cases c : s = 0
    · subst c; omega
    · have := h1 s hs c; omega
  refine ⟨hup, fun d hd => ⟨fun h => ?_, fun ⟨p, hp, hr⟩ => back d p hp s hr⟩⟩
  refine bf_CQ hG hC (Q := fun s k => ∀ d, d ≤ K → k ≤ d → ∃ p, sm_X0 FO d p ∧ Rp p s) ?_ ?_ hs d hd h
  · intro s hs d hd h
    by_cases c : s = 0
    · subst c; exact ⟨0, sm_X00 d, a7⟩
    · have := h1 s hs c; omega
  · intro a b c k hg hq d hd h
    rcases (a4 a b c hg).2.2 with rfl | ⟨rfl, q, hsc⟩
    · obtain ⟨p, hp, hr⟩ := hq d hd h
      exact ⟨p, hp, a1 p a b hr hg⟩
    · obtain ⟨e, rfl⟩ : ∃ e, d = e + 1 := ⟨d - 1, by omega⟩
      obtain ⟨p, hp, hr⟩ := hq e (by omega) (by omega)
      exact ⟨q, Or.inr ⟨p, hp, (a3 p q).mpr ⟨a, b, hsc, hr⟩⟩, (a2 q a b hsc).1⟩
theorem sm_X1e {XS : Nat → Nat → Prop} {M : Nat → Prop} {en : Prop} (h : en) : ∀ d, sm_X1 FO XS M en d 0 := by
  intro d
  cases d with
  | zero => exact Or.inl ⟨h, rfl⟩
  | succ d => exact Or.inl ⟨h, rfl⟩
theorem sm_X1m {XS : Nat → Nat → Prop} {M : Nat → Prop} {en : Prop} {d p q : Nat} (hM : M q) (h : XS d p) (hf : FO p q) : sm_X1 FO XS M en d q := by
  cases d with
  | zero => exact Or.inr ⟨hM, p, h, hf⟩
  | succ d => exact Or.inr (Or.inr (Or.inl ⟨hM, p, h, hf⟩))
theorem sm_step (A : sm_A m G Rp Sc FO) {XS : Nat → Nat → Prop} {M : Nat → Prop} {en : Prop} {c v0 u : Nat → Nat} (hX : sm_C m K Rp XS c)
    (w1 : ∀ s, s ≤ m → v0 s ≤ c s + 1 ∧ v0 s ≤ K + 1) (w2 : en → v0 0 = 0)
    (w3 : ∀ q t g, Sc q t g → (M q → v0 g ≤ c t) ∧ v0 g ≤ c t + 1)
    (w4 : ∀ s, s ≤ m → (v0 s = c s + 1 ∨ v0 s = K + 1) ∨ (en ∧ s = 0) ∨ (∃ q t, Sc q t s ∧ ((M q ∧ v0 s = c t) ∨ v0 s = c t + 1)))
    (hC : bf_C G m v0 u) : sm_C m K Rp (sm_X1 FO XS M en) u := by
  obtain ⟨a1, a2, a3, a4, a5, a7, a8⟩ := A
  have hG : ∀ a b c, G a b c → a ≤ m ∧ b ≤ m := fun a b c h => ⟨(a4 a b c h).1, (a4 a b c h).2.1⟩
  obtain ⟨a5a, a5b⟩ := a5 u hC.2.2
  have back : ∀ d, d ≤ K → ∀ p, sm_X1 FO XS M en d p → ∀ v, Rp p v → u v ≤ d := by
    have mt : ∀ d, d ≤ K → ∀ p, M p → (∃ p', XS d p' ∧ FO p' p) → ∀ v, Rp p v → u v ≤ d := by
      intro d hd p hM ⟨p', hp, hf⟩ v hv
      obtain ⟨t, g, hs, ht⟩ := (a3 p' p).mp hf
      have q := a2 p t g hs
      have e1 := ((hX t q.2.1).2 d hd).mpr ⟨p', hp, ht⟩
      have e2 := (w3 p t g hs).1 hM
      have e3 := hC.2.1 g q.2.2.1
      have e4 := a5b p t g v hs hv
      omega
    have en0 : ∀ d p v, en ∧ p = 0 → Rp p v → u v ≤ d := by
      rintro d p v ⟨he, rfl⟩ hv
      have := a5a v hv
      have := hC.2.1 0 (Nat.zero_le _)
      have := w2 he
      omega
    intro d
    induction d with
    | zero =>
      intro hd p hp v hv
      rcases hp with h | ⟨hM, h⟩
      · exact en0 0 p v h hv
      · exact mt 0 hd p hM h v hv
    | succ d ih =>
      intro hd p hp v hv
      rcases hp with h | h | ⟨hM, h⟩ | ⟨p', h, hf⟩
      · exact en0 _ p v h hv
      · have hvm := a8 p v hv
        have e1 := ((hX v hvm).2 d (by omega)).mpr ⟨p, h, hv⟩
        have e2 := (w1 v hvm).1
        have e3 := hC.2.1 v hvm
        omega
      · exact mt _ hd p hM h v hv
      · obtain ⟨t, g, hs, ht⟩ := (a3 p' p).mp hf
        have q := a2 p t g hs
        have e4 := a5b p t g v hs hv
        rcases h with h | h
        · have e1 := ((hX t q.2.1).2 d (by omega)).mpr ⟨p', h, ht⟩
          have e2 := (w3 p t g hs).2
          have e3 := hC.2.1 g q.2.2.1
          omega
        · have e1 := ih (by omega) p' h t ht
          have e2 := hC.2.2 t g 1 q.2.2.2
          omega
  intro s hs
  have hup : u s ≤ K + 1 := by
    have := hC.2.1 s hs
    have := (w1 s hs).2
    omega
  refine ⟨hup, fun d hd => ⟨fun h => ?_, fun ⟨p, hp, hr⟩ => back d hd p hp s hr⟩⟩
  refine bf_CQ hG hC (Q := fun s k => ∀ d, d ≤ K → k ≤ d → ∃ p, sm_X1 FO XS M en d p ∧ Rp p s) ?_ ?_ hs d hd h
  · intro s hs d hd h
    have sub : ∀ t q, Sc q t s → c t + 1 ≤ d → ∃ p, sm_X1 FO XS M en d p ∧ Rp p s := by
      intro t q hsc hle
      obtain ⟨e, rfl⟩ : ∃ e, d = e + 1 := ⟨d - 1, by omega⟩
      have z := a2 q t s hsc
      obtain ⟨p, hp, hr⟩ := ((hX t z.2.1).2 e (by omega)).mp (by omega)
      exact ⟨q, Or.inr (Or.inr (Or.inr ⟨p, Or.inl hp, (a3 p q).mpr ⟨t, s, hsc, hr⟩⟩)), z.1⟩
    rcases w4 s hs with (e | e) | ⟨he, rfl⟩ | ⟨q, t, hsc, ⟨hM, e⟩ | e⟩
    · obtain ⟨f, rfl⟩ : ∃ e, d = e + 1 := ⟨d - 1, by omega⟩
      obtain ⟨p, hp, hr⟩ := ((hX s hs).2 f (by omega)).mp (by omega)
      exact ⟨p, Or.inr (Or.inl hp), hr⟩
    · omega
    · exact ⟨0, sm_X1e he d, a7⟩
    · have z := a2 q t s hsc
      obtain ⟨p, hp, hr⟩ := ((hX t z.2.1).2 d hd).mp (by omega)
      exact ⟨q, sm_X1m hM hp ((a3 p q).mpr ⟨t, s, hsc, hr⟩), z.1⟩
    · exact sub t q hsc (by omega)
  · intro a b c k hg hq d hd h
    rcases (a4 a b c hg).2.2 with rfl | ⟨rfl, q, hsc⟩
    · obtain ⟨p, hp, hr⟩ := hq d hd h
      exact ⟨p, hp, a1 p a b hr hg⟩
    · obtain ⟨e, rfl⟩ : ∃ e, d = e + 1 := ⟨d - 1, by omega⟩
      obtain ⟨p, hp, hr⟩ := hq e (by omega) (by omega)
      exact ⟨q, Or.inr (Or.inr (Or.inr ⟨p, Or.inr hp, (a3 p q).mpr ⟨a, b, hsc, hr⟩⟩)), (a2 q a b hsc).1⟩
end
section
variable {W : Nat → Nat} {m : Nat}
abbrev sm_G (W : Nat → Nat) (m : Nat) (a b c : Nat) : Prop := ∃ x, x < m ∧ gr_E W x a b c
/-- what the state p of the sets reaches without a letter -/
def sm_R (W : Nat → Nat) (m : Nat) (p v : Nat) : Prop :=
  (p = 0 ∧ fg_P (gr_E W) 0 m 0 v 0) ∨ ∃ s, gr_S W s ∧ s < m ∧ gr_ct W s + 1 = p ∧ fg_P (gr_E W) 0 m (gr_tg W m s) v 0
def sm_S (W : Nat → Nat) (m : Nat) (q t g : Nat) : Prop := gr_S W t ∧ t < m ∧ gr_ct W t + 1 = q ∧ g = gr_tg W m t
theorem sm_path {u : Nat → Nat} (h : ∀ a b c, sm_G W m a b c → u b ≤ u a + c) {a b k : Nat} (hp : fg_P (gr_E W) 0 m a b k) : u b ≤ u a + k := by
  refine hp (fun v j => u v ≤ u a + j) (by simp) ?_
  intro x y z c j _ h2 h3 h4
  have := h y z c ⟨x, h2, h3⟩
  omega
/-- shortest: the least cost of a way through is what relaxing from the start finds -/
theorem sm_min {n : Nat} {v0 u : Nat → Nat} (hG : ∀ a b c, sm_G W m a b c → a ≤ m ∧ b ≤ m) (h0 : v0 0 = 0) (h1 : ∀ s, s ≤ m → s ≠ 0 → v0 s = 1000) (hC : bf_C (sm_G W m) m v0 u)
    (hp : fg_P (gr_E W) 0 m 0 m n) (hm : ∀ k, fg_P (gr_E W) 0 m 0 m k → n ≤ k) (hn : n < 1000) : u m = n := by
  have e1 : u m ≤ n := by
    have := sm_path hC.2.2 hp
    have := hC.2.1 0 (Nat.zero_le _)
    omega
  have e2 : 1000 ≤ u m ∨ fg_P (gr_E W) 0 m 0 m (u m) := by
    refine bf_CQ hG hC (Q := fun s k => 1000 ≤ k ∨ fg_P (gr_E W) 0 m 0 s k) ?_ ?_ (Nat.le_refl m)
    · intro s hs
      by_cases c : s = 0
      · subst c; rw [h0]; exact Or.inr fg_P0
      · rw [h1 s hs c]; exact Or.inl (Nat.le_refl _)
    · intro a b c k ⟨x, hx, hE⟩ hq
      rcases hq with hq | hq
      · exact Or.inl (by omega)
      · exact Or.inr (fg_Pe hq (Nat.zero_le _) hx hE)
  rcases e2 with e2 | e2
  · omega
  · have := hm _ e2; omega
end
