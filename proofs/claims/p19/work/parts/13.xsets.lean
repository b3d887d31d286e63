/-! The component's sets, as it reckons them. -/
/-- followersOf, over the states below n -/
def xr_fo (f : Nat → Int64) (x : Int64) : Nat → Int64
  | 0 => 0
  | s + 1 => if bs_b x s = true then xr_fo f x s ||| f s else xr_fo f x s
/-- startText -/
def xr_rc (f : Nat → Int64) : Nat → Int64
  | 0 => 1
  | d + 1 => xr_rc f d ||| xr_fo f (xr_rc f d) 64
/-- readLetter -/
def xr_rl (f : Nat → Int64) (S : Nat → Int64) (M en : Int64) : Nat → Int64
  | 0 => ((en ||| 0) ||| (xr_fo f (S 0) 64 &&& M)) ||| xr_fo f (0 ||| 0) 64
  | d + 1 => ((en ||| S d) ||| (xr_fo f (S (d + 1)) 64 &&& M)) ||| xr_fo f (S d ||| xr_rl f S M en d) 64
def xr_FO (f : Nat → Int64) (p q : Nat) : Prop := p < 64 ∧ q < 64 ∧ bs_b (f p) q = true
def xr_XS (S : Nat → Int64) (d p : Nat) : Prop := p < 64 ∧ bs_b (S d) p = true
def xr_M (x : Int64) (q : Nat) : Prop := q < 64 ∧ bs_b x q = true
theorem xr_b1 {p : Nat} (h : p < 64) : bs_b 1 p = true ↔ p = 0 := bs_p (π := 0) (by omega) h
theorem xr_fob (f : Nat → Int64) (x : Int64) (q : Nat) : ∀ n, bs_b (xr_fo f x n) q = true ↔ ∃ s, s < n ∧ bs_b x s = true ∧ bs_b (f s) q = true := by
  intro n
  induction n with
  | zero =>
    show bs_b 0 q = true ↔ _
    rw [bs_0]
    exact ⟨fun h => Bool.noConfusion h, fun ⟨s, h, _⟩ => absurd h (by omega)⟩
  | succ n ih =>
    show bs_b (if bs_b x n = true then xr_fo f x n ||| f n else xr_fo f x n) q = true ↔ _
    by_cases c : bs_b x n = true
    · rw [if_pos c, bs_or, Bool.or_eq_true, ih]
      constructor
      · rintro (⟨s, h1, h2⟩ | h)
        · exact ⟨s, by omega, h2⟩
        · exact ⟨n, by omega, c, h⟩
      · rintro ⟨s, h1, h2, h3⟩
        by_cases e : s = n
        · subst e; exact Or.inr h3
        · exact Or.inl ⟨s, by omega, h2, h3⟩
    · rw [if_neg c, ih]
      constructor
      · rintro ⟨s, h1, h2⟩; exact ⟨s, by omega, h2⟩
      · rintro ⟨s, h1, h2, h3⟩
        by_cases e : s = n
        · subst e; exact absurd h2 c
        · exact ⟨s, by omega, h2, h3⟩
theorem xr_rcX (f : Nat → Int64) : ∀ d p, (p < 64 ∧ bs_b (xr_rc f d) p = true) ↔ sm_X0 (xr_FO f) d p := by
  intro d
  induction d with
  | zero =>
    intro p
    show (p < 64 ∧ bs_b 1 p = true) ↔ p = 0
    constructor
    · rintro ⟨h1, h2⟩; exact (xr_b1 h1).mp h2
    · rintro rfl; exact ⟨by omega, (xr_b1 (by omega)).mpr rfl⟩
  | succ d ih =>
    intro p
    show (p < 64 ∧ bs_b (xr_rc f d ||| xr_fo f (xr_rc f d) 64) p = true) ↔ sm_X0 (xr_FO f) d p ∨ ∃ p', sm_X0 (xr_FO f) d p' ∧ xr_FO f p' p
    rw [bs_or, Bool.or_eq_true, xr_fob]
    constructor
    · rintro ⟨h1, h2 | ⟨s, h2, h3, h4⟩⟩
      · exact Or.inl ((ih p).mp ⟨h1, h2⟩)
      · exact Or.inr ⟨s, (ih s).mp ⟨h2, h3⟩, h2, h1, h4⟩
    · rintro (h | ⟨s, h, h2, h1, h4⟩)
      · have := (ih p).mpr h; exact ⟨this.1, Or.inl this.2⟩
      · exact ⟨h1, Or.inr ⟨s, h2, ((ih s).mpr h).2, h4⟩⟩
theorem xr_rlX (f S : Nat → Int64) (M en : Int64) (EN : Prop) (hen : ∀ p, p < 64 → (bs_b en p = true ↔ EN ∧ p = 0)) :
    ∀ d p, (p < 64 ∧ bs_b (xr_rl f S M en d) p = true) ↔ sm_X1 (xr_FO f) (xr_XS S) (xr_M M) EN d p := by
  intro d
  induction d with
  | zero =>
    intro p
    show (p < 64 ∧ bs_b (((en ||| 0) ||| (xr_fo f (S 0) 64 &&& M)) ||| xr_fo f (0 ||| 0) 64) p = true) ↔ (EN ∧ p = 0) ∨ (xr_M M p ∧ ∃ p', xr_XS S 0 p' ∧ xr_FO f p' p)
    rw [bs_or, bs_or, bs_or, bs_and, Bool.or_eq_true, Bool.or_eq_true, Bool.or_eq_true, Bool.and_eq_true, xr_fob, xr_fob, bs_0]
    constructor
    · rintro ⟨h1, ((h | h) | ⟨⟨s, h2, h3, h4⟩, h5⟩) | ⟨s, h2, h3, h4⟩⟩
      · exact Or.inl ((hen p h1).mp h)
      · exact Bool.noConfusion h
      · exact Or.inr ⟨⟨h1, h5⟩, s, ⟨h2, h3⟩, h2, h1, h4⟩
      · rw [bs_or, bs_0] at h3; exact Bool.noConfusion h3
    · rintro (⟨h1, rfl⟩ | ⟨⟨h1, h5⟩, s, ⟨h2, h3⟩, _, _, h4⟩)
      · exact ⟨by omega, Or.inl (Or.inl (Or.inl ((hen 0 (by omega)).mpr ⟨h1, rfl⟩)))⟩
      · exact ⟨h1, Or.inl (Or.inr ⟨⟨s, h2, h3, h4⟩, h5⟩)⟩
  | succ d ih =>
    intro p
    show (p < 64 ∧ bs_b (((en ||| S d) ||| (xr_fo f (S (d + 1)) 64 &&& M)) ||| xr_fo f (S d ||| xr_rl f S M en d) 64) p = true) ↔
      (EN ∧ p = 0) ∨ xr_XS S d p ∨ (xr_M M p ∧ ∃ p', xr_XS S (d + 1) p' ∧ xr_FO f p' p) ∨ ∃ p', (xr_XS S d p' ∨ sm_X1 (xr_FO f) (xr_XS S) (xr_M M) EN d p') ∧ xr_FO f p' p
    rw [bs_or, bs_or, bs_or, bs_and, Bool.or_eq_true, Bool.or_eq_true, Bool.or_eq_true, Bool.and_eq_true, xr_fob, xr_fob]
    constructor
    · rintro ⟨h1, ((h | h) | ⟨⟨s, h2, h3, h4⟩, h5⟩) | ⟨s, h2, h3, h4⟩⟩
      · exact Or.inl ((hen p h1).mp h)
      · exact Or.inr (Or.inl ⟨h1, h⟩)
      · exact Or.inr (Or.inr (Or.inl ⟨⟨h1, h5⟩, s, ⟨h2, h3⟩, h2, h1, h4⟩))
      · rw [bs_or, Bool.or_eq_true] at h3
        rcases h3 with h3 | h3
        · exact Or.inr (Or.inr (Or.inr ⟨s, Or.inl ⟨h2, h3⟩, h2, h1, h4⟩))
        · exact Or.inr (Or.inr (Or.inr ⟨s, Or.inr ((ih s).mp ⟨h2, h3⟩), h2, h1, h4⟩))
    · rintro (⟨h1, rfl⟩ | ⟨h1, h⟩ | ⟨⟨h1, h5⟩, s, ⟨h2, h3⟩, _, _, h4⟩ | ⟨s, h, h2, h1, h4⟩)
      · exact ⟨by omega, Or.inl (Or.inl (Or.inl ((hen 0 (by omega)).mpr ⟨h1, rfl⟩)))⟩
      · exact ⟨h1, Or.inl (Or.inl (Or.inr h))⟩
      · exact ⟨h1, Or.inl (Or.inr ⟨⟨s, h2, h3, h4⟩, h5⟩)⟩
      · refine ⟨h1, Or.inr ⟨s, h2, ?_, h4⟩⟩
        rw [bs_or, Bool.or_eq_true]
        rcases h with ⟨_, h⟩ | h
        · exact Or.inl h
        · exact Or.inr ((ih s).mpr h).2
theorem xr_en1 : ∀ p, p < 64 → (bs_b 1 p = true ↔ True ∧ p = 0) := fun p h => by rw [xr_b1 h]; simp
theorem xr_en0 : ∀ p, p < 64 → (bs_b 0 p = true ↔ False ∧ p = 0) := fun p h => by rw [bs_0]; simp
section
variable {m K : Nat} {Rp : Nat → Nat → Prop}
theorem xr_Cc {XS XS' : Nat → Nat → Prop} {c : Nat → Nat} (h : sm_C m K Rp XS c) (e : ∀ d p, d ≤ K → (XS d p ↔ XS' d p)) : sm_C m K Rp XS' c := by
  intro s hs
  refine ⟨(h s hs).1, fun d hd => ?_⟩
  rw [(h s hs).2 d hd]
  exact ⟨fun ⟨p, a, b⟩ => ⟨p, (e d p hd).mp a, b⟩, fun ⟨p, a, b⟩ => ⟨p, (e d p hd).mpr a, b⟩⟩
theorem xr_X1c {FO : Nat → Nat → Prop} {XS XS' : Nat → Nat → Prop} {M : Nat → Prop} {en : Prop} (e : ∀ d p, d ≤ K → (XS d p ↔ XS' d p)) :
    ∀ d p, d ≤ K → (sm_X1 FO XS M en d p ↔ sm_X1 FO XS' M en d p) := by
  intro d
  induction d with
  | zero =>
    intro p hd
    show (en ∧ p = 0) ∨ (M p ∧ ∃ p', XS 0 p' ∧ FO p' p) ↔ (en ∧ p = 0) ∨ (M p ∧ ∃ p', XS' 0 p' ∧ FO p' p)
    simp only [e 0 _ hd]
  | succ d ih =>
    intro p hd
    show (en ∧ p = 0) ∨ XS d p ∨ (M p ∧ ∃ p', XS (d + 1) p' ∧ FO p' p) ∨ (∃ p', (XS d p' ∨ sm_X1 FO XS M en d p') ∧ FO p' p) ↔
      (en ∧ p = 0) ∨ XS' d p ∨ (M p ∧ ∃ p', XS' (d + 1) p' ∧ FO p' p) ∨ (∃ p', (XS' d p' ∨ sm_X1 FO XS' M en d p') ∧ FO p' p)
    simp only [e (d + 1) _ hd, e d _ (show d ≤ K by omega), ih _ (show d ≤ K by omega)]
theorem xr_least {S : Nat → Int64} {c : Nat → Nat} {fin : Int64} (h : sm_C m K Rp (xr_XS S) c) (hf : ∀ p, p < 64 → (bs_b fin p = true ↔ Rp p m)) {d : Nat} (hd : d ≤ K) :
    ¬ (S d &&& fin) = 0 ↔ c m ≤ d := by
  rw [bs_ne0, ((h m (Nat.le_refl _)).2 d hd)]
  constructor
  · rintro ⟨p, h1, h2⟩
    rw [bs_and, Bool.and_eq_true] at h2
    exact ⟨p, ⟨h1, h2.1⟩, (hf p h1).mp h2.2⟩
  · rintro ⟨p, ⟨h1, h2⟩, h3⟩
    exact ⟨p, h1, by rw [bs_and, Bool.and_eq_true]; exact ⟨h2, (hf p h1).mpr h3⟩⟩
end
