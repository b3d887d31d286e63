/-! The law's columns. -/
/-- one letter more: mt says which atoms take it in -/
def dc_s (mt : Nat → Bool) (col : Nat → Nat) (first : Nat) : Nat → Nat
  | 0 => first
  | i + 1 => min (min (col i + (if mt i = true then 0 else 1)) (min (col (i + 1) + 1) (dc_s mt col first i + 1))) 9
theorem dc_le (a b c d : Nat) (mt : Bool) (k : Nat) (hk : k ≤ 7) : min (min (a + (if mt = true then 0 else 1)) (min (b + 1) (c + 1))) 9 ≤ k ↔ (mt = true ∧ a ≤ k) ∨ a + 1 ≤ k ∨ b + 1 ≤ k ∨ c + 1 ≤ k := by
  cases mt
  · simp only [Bool.false_eq_true, if_false, false_and, false_or]; omega
  · simp only [if_true, true_and]; omega
section
variable {K P : Nat} {FO : Nat → Nat → Prop}
theorem dc_0 (hF : ∀ p q, FO p q ↔ q = p + 1 ∧ q ≤ P) : ∀ d q, sm_X0 FO d q ↔ q ≤ P ∧ q ≤ d := by
  intro d
  induction d with
  | zero =>
    intro q
    show q = 0 ↔ _
    omega
  | succ d ih =>
    intro q
    show sm_X0 FO d q ∨ (∃ p', sm_X0 FO d p' ∧ FO p' q) ↔ _
    rw [ih q]
    constructor
    · rintro (h | ⟨p, h1, h2⟩)
      · omega
      · have := (ih p).mp h1; have := (hF p q).mp h2; omega
    · intro h
      by_cases c : q ≤ d
      · left; omega
      · right
        refine ⟨d, (ih d).mpr ⟨by omega, Nat.le_refl _⟩, (hF d q).mpr ⟨by omega, by omega⟩⟩
theorem dc_1 (hK : K ≤ 7) (hF : ∀ p q, FO p q ↔ q = p + 1 ∧ q ≤ P) {XS : Nat → Nat → Prop} {M : Nat → Prop} {EN : Prop} {mt : Nat → Bool} {col : Nat → Nat} {first : Nat}
    (hX : ∀ d q, d ≤ K → (XS d q ↔ q ≤ P ∧ col q ≤ d)) (hM : ∀ q, 1 ≤ q → q ≤ P → (M q ↔ mt (q - 1) = true)) (hf : ∀ d, d ≤ K → (first ≤ d ↔ EN ∨ (1 ≤ d ∧ col 0 + 1 ≤ d))) :
    ∀ d q, d ≤ K → (sm_X1 FO XS M EN d q ↔ q ≤ P ∧ dc_s mt col first q ≤ d) := by
  intro d
  induction d with
  | zero =>
    intro q hd
    show (EN ∧ q = 0) ∨ (M q ∧ ∃ p, XS 0 p ∧ FO p q) ↔ _
    cases q with
    | zero =>
      show _ ↔ 0 ≤ P ∧ first ≤ 0
      rw [hf 0 hd]
      constructor
      · rintro (⟨h, -⟩ | ⟨-, p, -, h⟩)
        · exact ⟨Nat.zero_le _, Or.inl h⟩
        · have := (hF p 0).mp h; omega
      · rintro ⟨-, h | h⟩
        · exact Or.inl ⟨h, rfl⟩
        · omega
    | succ i =>
      show _ ↔ i + 1 ≤ P ∧ min (min (col i + (if mt i = true then 0 else 1)) (min (col (i + 1) + 1) (dc_s mt col first i + 1))) 9 ≤ 0
      rw [dc_le _ _ _ 0 _ _ (by omega)]
      constructor
      · rintro (⟨-, h⟩ | ⟨hm, p, h1, h2⟩)
        · omega
        · have h2 := (hF p (i + 1)).mp h2
          have : p = i := by omega
          subst this
          have h1 := (hX 0 p hd).mp h1
          have hm := (hM (p + 1) (by omega) h2.2).mp hm
          exact ⟨h2.2, Or.inl ⟨hm, h1.2⟩⟩
      · rintro ⟨h1, ⟨h2, h3⟩ | h | h | h⟩
        · exact Or.inr ⟨(hM (i + 1) (by omega) h1).mpr h2, i, (hX 0 i hd).mpr ⟨by omega, h3⟩, (hF i (i + 1)).mpr ⟨rfl, h1⟩⟩
        · omega
        · omega
        · omega
  | succ d ih =>
    intro q hd
    show (EN ∧ q = 0) ∨ XS d q ∨ (M q ∧ ∃ p, XS (d + 1) p ∧ FO p q) ∨ (∃ p, (XS d p ∨ sm_X1 FO XS M EN d p) ∧ FO p q) ↔ _
    cases q with
    | zero =>
      show _ ↔ 0 ≤ P ∧ first ≤ d + 1
      rw [hf (d + 1) hd, hX d 0 (by omega)]
      constructor
      · rintro (⟨h, -⟩ | ⟨-, h⟩ | ⟨-, p, -, h⟩ | ⟨p, -, h⟩)
        · exact ⟨Nat.zero_le _, Or.inl h⟩
        · exact ⟨Nat.zero_le _, Or.inr ⟨by omega, by omega⟩⟩
        · have := (hF p 0).mp h; omega
        · have := (hF p 0).mp h; omega
      · rintro ⟨-, h | ⟨-, h⟩⟩
        · exact Or.inl ⟨h, rfl⟩
        · exact Or.inr (Or.inl ⟨Nat.zero_le _, by omega⟩)
    | succ i =>
      show _ ↔ i + 1 ≤ P ∧ min (min (col i + (if mt i = true then 0 else 1)) (min (col (i + 1) + 1) (dc_s mt col first i + 1))) 9 ≤ d + 1
      rw [dc_le _ _ _ 0 _ _ (by omega), hX d (i + 1) (by omega)]
      constructor
      · rintro (⟨-, h⟩ | ⟨h1, h2⟩ | ⟨hm, p, h1, h2⟩ | ⟨p, h1, h2⟩)
        · omega
        · exact ⟨h1, Or.inr (Or.inr (Or.inl (by omega)))⟩
        · have h2 := (hF p (i + 1)).mp h2
          have : p = i := by omega
          subst this
          have h1 := (hX (d + 1) p hd).mp h1
          have hm := (hM (p + 1) (by omega) h2.2).mp hm
          exact ⟨h2.2, Or.inl ⟨hm, h1.2⟩⟩
        · have h2 := (hF p (i + 1)).mp h2
          have : p = i := by omega
          subst this
          refine ⟨h2.2, ?_⟩
          rcases h1 with h1 | h1
          · have h1 := (hX d p (by omega)).mp h1
            exact Or.inr (Or.inl (by omega))
          · have h1 := (ih p (by omega)).mp h1
            exact Or.inr (Or.inr (Or.inr (by omega)))
      · rintro ⟨h1, ⟨h2, h3⟩ | h | h | h⟩
        · exact Or.inr (Or.inr (Or.inl ⟨(hM (i + 1) (by omega) h1).mpr h2, i, (hX (d + 1) i hd).mpr ⟨by omega, h3⟩, (hF i (i + 1)).mpr ⟨rfl, h1⟩⟩))
        · exact Or.inr (Or.inr (Or.inr ⟨i, Or.inl ((hX d i (by omega)).mpr ⟨by omega, by omega⟩), (hF i (i + 1)).mpr ⟨rfl, h1⟩⟩))
        · exact Or.inr (Or.inl ⟨h1, by omega⟩)
        · exact Or.inr (Or.inr (Or.inr ⟨i, Or.inr ((ih i (by omega)).mpr ⟨by omega, by omega⟩), (hF i (i + 1)).mpr ⟨rfl, h1⟩⟩))
end
/-! Digits of w bits in one long. -/
def dg_p (w : Nat) (f : Nat → Nat) : Nat → Nat
  | 0 => 0
  | n + 1 => dg_p w f n + f n * 2 ^ (w * n)
theorem dg_lt {w : Nat} {f : Nat → Nat} : ∀ n, (∀ i, i < n → f i < 2 ^ w) → dg_p w f n < 2 ^ (w * n) := by
  intro n
  induction n with
  | zero => intro _; show 0 < 2 ^ (w * 0); rw [Nat.mul_zero]; exact Nat.one_pos
  | succ n ih =>
    intro h
    have h1 := ih (fun i hi => h i (by omega))
    have h2 := h n (by omega)
    show dg_p w f n + f n * 2 ^ (w * n) < 2 ^ (w * (n + 1))
    have e : 2 ^ (w * (n + 1)) = 2 ^ w * 2 ^ (w * n) := by rw [Nat.mul_succ, Nat.pow_add, Nat.mul_comm]
    have h3 : (f n + 1) * 2 ^ (w * n) ≤ 2 ^ w * 2 ^ (w * n) := Nat.mul_le_mul_right _ h2
    rw [Nat.add_mul, Nat.one_mul] at h3
    omega
theorem dg_get {w : Nat} {f : Nat → Nat} : ∀ n, (∀ i, i < n → f i < 2 ^ w) → ∀ i, i < n → dg_p w f n / 2 ^ (w * i) % 2 ^ w = f i := by
  intro n
  induction n with
  | zero => intro _ i hi; omega
  | succ n ih =>
    intro h i hi
    have h1 := dg_lt n (fun i hi => h i (by omega))
    have h2 := h n (by omega)
    show (dg_p w f n + f n * 2 ^ (w * n)) / 2 ^ (w * i) % 2 ^ w = f i
    by_cases c : i = n
    · subst c
      rw [Nat.add_mul_div_right _ _ (Nat.pow_pos (by omega)), Nat.div_eq_of_lt h1, Nat.zero_add, Nat.mod_eq_of_lt h2]
    · obtain ⟨d, rfl⟩ : ∃ d, n = i + 1 + d := ⟨n - (i + 1), by omega⟩
      have e : f (i + 1 + d) * 2 ^ (w * (i + 1 + d)) = (f (i + 1 + d) * 2 ^ (w * d) * 2 ^ w) * 2 ^ (w * i) := by
        rw [show w * (i + 1 + d) = w * d + w + w * i from by rw [Nat.mul_add, Nat.mul_add, Nat.mul_one]; omega, Nat.pow_add, Nat.pow_add]
        simp only [Nat.mul_assoc]
      rw [e, Nat.add_mul_div_right _ _ (Nat.pow_pos (by omega)), Nat.add_mul_mod_self_right]
      exact ih (fun i hi => h i (by omega)) i (by omega)
theorem dg_c {w : Nat} {f g : Nat → Nat} : ∀ n, (∀ i, i < n → f i = g i) → dg_p w f n = dg_p w g n := by
  intro n
  induction n with
  | zero => intro _; rfl
  | succ n ih =>
    intro h
    show dg_p w f n + f n * 2 ^ (w * n) = dg_p w g n + g n * 2 ^ (w * n)
    rw [ih (fun i hi => h i (by omega)), h n (by omega)]
theorem dg_or {w : Nat} {f : Nat → Nat} {n : Nat} (h : ∀ i, i < n + 1 → f i < 2 ^ w) (hw : w * (n + 1) ≤ 63) : lN (dg_p w f n) ||| lN (f n * 2 ^ (w * n)) = lN (dg_p w f (n + 1)) := by
  have h1 := dg_lt n (fun i hi => h i (by omega))
  have h2 := dg_lt (n + 1) h
  have h3 : 2 ^ (w * (n + 1)) ≤ 2 ^ 63 := Nat.pow_le_pow_right (by omega) hw
  have h4 : dg_p w f (n + 1) = dg_p w f n + f n * 2 ^ (w * n) := rfl
  exact g_or' rfl h1 (by rw [← h4]; omega)
