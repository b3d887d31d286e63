/-! The law types its pattern. -/
def lk_m (c : Nat) : Nat := if c % 4 ≤ 1 then 2 ^ (c / 4 % 4) else if c % 4 = 2 then 31 else c / 4 % 15 + 1
theorem lk_m32 (c : Nat) : lk_m c < 32 := by
  unfold lk_m
  split
  · have h : c / 4 % 4 < 4 := Nat.mod_lt _ (by omega)
    have : 2 ^ (c / 4 % 4) ≤ 2 ^ 3 := Nat.pow_le_pow_right (by omega) (by omega)
    omega
  · split <;> omega
def lk_k (L : Nat) (xs : Nat → Int32) (i : Nat) : Nat := lk_m (lm_r (lm_c L xs (2 + i)) 64)
def lk_s (V : Nat → Nat) : Nat → Nat := fun x => V (x - 1)
theorem lk_Ac {W W' : Nat → Nat} {a b : Nat} {M : Nat → Prop} (h : ln_A W a b M) (e : ∀ x, a ≤ x → x < b → W' x = W x) : ln_A W' a b M := by
  have hlt := ln_lt h
  rcases h with ⟨h1, h2, h3⟩ | ⟨h1, h2, h3⟩ | ⟨h1, h2, h3, h4, h5⟩
  · left; rw [e a (Nat.le_refl _) hlt]; exact ⟨h1, h2, h3⟩
  · right; left; rw [e a (Nat.le_refl _) hlt]; exact ⟨h1, h2, h3⟩
  · right; right
    rw [e a (Nat.le_refl _) hlt, e (b - 1) (by omega) (by omega)]
    refine ⟨h1, h2, h3, fun x x1 x2 => by rw [e x (by omega) (by omega)]; exact h4 x x1 x2, fun l hl => ?_⟩
    rw [h5 l hl]
    constructor
    · rintro ⟨x, x1, x2, x3⟩; exact ⟨x, x1, x2, by rw [e x (by omega) (by omega)]; exact x3⟩
    · rintro ⟨x, x1, x2, x3⟩; exact ⟨x, x1, x2, by rw [e x (by omega) (by omega)] at x3; exact x3⟩
/-- i atoms stand in the pattern V of n characters -/
def lk_B (mk : Nat → Nat) (i n : Nat) (V : Nat → Nat) : Prop :=
  ∃ st : Nat → Nat, st 0 = 1 ∧ st i = n + 1 ∧ (∀ j, j < i → ln_A (lk_s V) (st j) (st (j + 1)) (fun l => lm_t mk l j = true)) ∧ (∀ j, j ≤ i → 1 ≤ st j ∧ st j ≤ n + 1) ∧ n ≤ 6 * i ∧ (0 < i → 0 < n) ∧ ∀ x, x < n → vd_al (V x)
theorem lk_B0 {mk V : Nat → Nat} : lk_B mk 0 0 V := ⟨fun _ => 1, rfl, rfl, fun j h => absurd h (by omega), fun j _ => ⟨Nat.le_refl _, Nat.le_refl _⟩, by omega, fun h => absurd h (by omega), fun x h => absurd h (by omega)⟩
theorem lk_B1 {mk : Nat → Nat} {i n n' : Nat} {V V' : Nat → Nat} (h : lk_B mk i n V) (hn : n < n') (hn' : n' ≤ n + 6) (e : ∀ x, x < n → V' x = V x) (ha : ∀ x, n ≤ x → x < n' → vd_al (V' x)) (hA : ln_A (lk_s V') (n + 1) (n' + 1) (fun l => lm_t mk l i = true)) : lk_B mk (i + 1) n' V' := by
  obtain ⟨st, h1, h2, h3, h4, h5, h6, h7⟩ := h
  refine ⟨fun j => if j = i + 1 then n' + 1 else st j, ?_, ?_, fun j hj => ?_, fun j hj => ?_, by omega, fun _ => by omega, fun x hx => ?_⟩
  · dsimp only; rw [if_neg (by omega)]; exact h1
  · simp
  · by_cases c : j = i
    · subst c
      dsimp only
      rw [if_neg (by omega), if_pos rfl, h2]
      exact hA
    · dsimp only
      rw [if_neg (by omega), if_neg (by omega)]
      have q := h4 (j + 1) (by omega)
      have q0 := h4 j (by omega)
      exact lk_Ac (h3 j (by omega)) (fun x x1 x2 => e (x - 1) (by omega))
  · dsimp only
    by_cases c : j = i + 1
    · rw [if_pos c]; omega
    · rw [if_neg c]; have := h4 j (by omega); omega
  · by_cases c : x < n
    · rw [e x c]; exact h7 x c
    · exact ha x (by omega) hx
theorem lk_P {mk : Nat → Nat} {P n : Nat} {V : Nat → Nat} (h : lk_B mk P n V) : ∃ st, ln_P (vd_W V n) n P st (fun i l => lm_t mk l i = true) := by
  obtain ⟨st, h1, h2, h3, h4, -⟩ := h
  refine ⟨st, h1, h2, fun i hi => lk_Ac (h3 i hi) (fun x x1 x2 => ?_)⟩
  have q := h4 (i + 1) (by omega)
  have q0 := h4 i (by omega)
  unfold vd_W lk_s
  rw [if_neg (by omega), if_neg (by omega)]
section
variable {xk xn xc xS xP xt xl xp3 : Int32} {xF xp1 xp2 xN : Int64} {xV xeb xus xbs : Nat → Int32} {xfo xsl xss xws xuf xul xbf xbl : Nat → Int64}
variable {L P k : Nat} {xs : Nat → Int32} {J : Int64 → Int32 → Int32 → Int32 → Int32 → Int64 → Int32 → Int32 → Int32 → Int32 → Int64 → Int64 → Int32 → Int64 → (Nat → Int32) → (Nat → Int64) → (Nat → Int64) → (Nat → Int32) → (Nat → Int64) → (Nat → Int64) → (Nat → Int64) → (Nat → Int64) → (Nat → Int32) → (Nat → Int64) → (Nat → Int64) → (Nat → Int32) → Prop}
theorem lk_233 {mk : Nat → Nat} {i kc ks : Nat} {x3 x5 : Int32} (hi : i < 6) (hm : ∀ j, mk j < 32) (h : J (lN (dg_p 5 mk (i + 1))) (nI (i + 1)) xk xn xc xF xS xP xt xl xp1 xp2 xp3 xN xV xfo xsl xeb xss xws xuf xul xus xbf xbl xbs) :
    wL_law_233 (fun r => r = 1) L xs J x3 x5 (lN (dg_p 5 mk i)) (nI i) (nI (mk i)) kc ks xk xn xc xF xS xP xt xl xp1 xp2 xp3 xN xV xfo xsl xeb xss xws xuf xul xus xbf xbl xbs := by
  unfold wL_law_233
  refine nm_r (e' := lN (dg_p 5 mk (i + 1))) ?_ (nm_r (nI_1 i) h)
  have e1 := lm_sh (a := mk i) (k := i) (by have := hm i; omega) (by omega) 5 (by omega)
  have e5 : nI 5 = (5 : Int32) := rfl
  rw [e5] at e1
  rw [e1]
  exact dg_or (w := 5) (fun j _ => hm j) (by omega)
/-- the letters of a class -/
theorem lk_187 {mk : Nat → Nat} {i n0 cm kc ks : Nat} {x3 x5 : Int32} {V0 : Nat → Nat} (hi : i < 6) (hm : ∀ j, mk j < 32) (hmi : mk i = cm) (hcm : 1 ≤ cm ∧ cm ≤ 15) (hB : lk_B mk i n0 V0) (hn0 : n0 ≤ 36)
    (h : ∀ (n : Nat) (V : Nat → Nat), lk_B mk (i + 1) n V → ∀ (xk : Int32) (xn : Int32) (xc : Int32) (xF : Int64) (xS : Int32) (xP : Int32) (xt : Int32) (xl : Int32) (xp1 : Int64) (xp2 : Int64) (xp3 : Int32) (xN : Int64) (xV : Nat → Int32) (xfo : Nat → Int64) (xsl : Nat → Int64) (xeb : Nat → Int32) (xss : Nat → Int64) (xws : Nat → Int64) (xuf : Nat → Int64) (xul : Nat → Int64) (xus : Nat → Int32) (xbf : Nat → Int64) (xbl : Nat → Int64) (xbs : Nat → Int32), xk = nI k → xn = nI n → xV = (fun i => nI (V i)) → J (lN (dg_p 5 mk (i + 1))) (nI (i + 1)) xk xn xc xF xS xP xt xl xp1 xp2 xp3 xN xV xfo xsl xeb xss xws xuf xul xus xbf xbl xbs) :
    ∀ d b, b + d = 4 → ∀ (n : Nat) (V : Nat → Nat), n0 < n → n ≤ n0 + 1 + b → (∀ x, x < n0 → V x = V0 x) → V n0 = 91 → (∀ x, n0 < x → x < n → 97 ≤ V x ∧ V x < 97 + b) → (∀ l, l < b → (cm / 2 ^ l % 2 = 1 ↔ ∃ x, n0 < x ∧ x < n ∧ V x = 97 + l)) →
      ∀ (xk : Int32) (xn : Int32) (xc : Int32) (xF : Int64) (xS : Int32) (xP : Int32) (xt : Int32) (xl : Int32) (xp1 : Int64) (xp2 : Int64) (xp3 : Int32) (xN : Int64) (xV : Nat → Int32) (xfo : Nat → Int64) (xsl : Nat → Int64) (xeb : Nat → Int32) (xss : Nat → Int64) (xws : Nat → Int64) (xuf : Nat → Int64) (xul : Nat → Int64) (xus : Nat → Int32) (xbf : Nat → Int64) (xbl : Nat → Int64) (xbs : Nat → Int32), xk = nI k → xn = nI n → xV = (fun i => nI (V i)) → wL_law_187 (fun r => r = 1) L xs J x3 x5 (lN (dg_p 5 mk i)) (nI i) (nI cm) kc ks (d + 1) (nI b) xk xn xc xF xS xP xt xl xp1 xp2 xp3 xN xV xfo xsl xeb xss xws xuf xul xus xbf xbl xbs := by
  intro d
  induction d with
  | zero =>
    intro b hb n V h1 h2 h3 h4 h5 h6
    intro xk xn xc xF xS xP xt xl xp1 xp2 xp3 xN xV xfo xsl xeb xss xws xuf xul xus xbf xbl xbs ek en eV
    have : b = 4 := by omega
    subst this
    subst en eV
    rw [wL_law_187]
    refine br_t (by decide) ?_
    refine lx_pc (c := 93) (by omega) (by omega) ?_
    have e := hmi
    rw [← hmi]
    refine lk_233 hi hm (h (n + 1) _ (lk_B1 hB (by omega) (by omega) (fun x hx => ?_) (fun x x1 x2 => ?_) ?_) _ _ _ _ _ _ _ _ _ _ _ _ _ _ _ _ _ _ _ _ _ _ _ _ ek rfl rfl)
    · rw [if_neg (by omega)]; exact h3 x hx
    · by_cases c : x = n
      · rw [if_pos c]; omega
      · rw [if_neg c]
        by_cases c' : x = n0
        · rw [c', h4]; omega
        · have := h5 x (by omega) (by omega); omega
    · right; right
      have hne : n0 + 1 < n := by
        by_cases c : n0 + 1 < n
        · exact c
        · exfalso
          have nb : ∀ l, l < 4 → ¬ cm / 2 ^ l % 2 = 1 := fun l hl q => by
            obtain ⟨x, x1, x2, -⟩ := (h6 l hl).mp q
            omega
          have b0 := nb 0 (by omega)
          have b1 := nb 1 (by omega)
          have b2 := nb 2 (by omega)
          have b3 := nb 3 (by omega)
          simp only [Nat.pow_zero, Nat.pow_one, Nat.div_one, show (2 : Nat) ^ 2 = 4 from rfl, show (2 : Nat) ^ 3 = 8 from rfl] at b0 b1 b2 b3
          omega
      have lm1 : ∀ x, x ≠ n → (if x = n then 93 else V x) = V x := fun x hx => if_neg hx
      have lm0 : ∀ x, 1 ≤ x → x ≠ n + 1 → lk_s (fun i => if i = n then 93 else V i) x = V (x - 1) := fun x x1 hx => lm1 (x - 1) (by omega)
      have lmn : lk_s (fun i => if i = n then 93 else V i) (n + 1) = 93 := if_pos rfl
      refine ⟨?_, by omega, ?_, fun x x1 x2 => ?_, fun l hl => ?_⟩
      · rw [lm0 (n0 + 1) (by omega) (by omega), Nat.add_sub_cancel]; exact h4
      · rw [Nat.add_sub_cancel]; exact lmn
      · rw [lm0 x (by omega) (by omega)]
        have := h5 (x - 1) (by omega) (by omega); omega
      · show lm_t mk l i = true ↔ _
        unfold lm_t
        rw [decide_eq_true_iff, hmi]
        by_cases c : l < 4
        · rw [h6 l c]
          constructor
          · rintro ⟨x, x1, x2, x3⟩
            refine ⟨x + 1, by omega, by omega, ?_⟩
            rw [lm0 (x + 1) (by omega) (by omega), Nat.add_sub_cancel]; exact x3
          · rintro ⟨x, x1, x2, x3⟩
            rw [lm0 x (by omega) (by omega)] at x3
            exact ⟨x - 1, by omega, by omega, x3⟩
        · have : l = 4 := by omega
          subst this
          constructor
          · intro q
            rw [show (2 : Nat) ^ 4 = 16 from rfl] at q
            omega
          · rintro ⟨x, x1, x2, x3⟩
            rw [lm0 x (by omega) (by omega)] at x3
            have := h5 (x - 1) (by omega) (by omega); omega
  | succ d ih =>
    intro b hb n V h1 h2 h3 h4 h5 h6
    intro xk xn xc xF xS xP xt xl xp1 xp2 xp3 xN xV xfo xsl xeb xss xws xuf xul xus xbf xbl xbs ek en eV
    subst en eV
    rw [wL_law_187]
    refine br_f (nI_ge (b := 4) (by omega) (by omega)) ?_
    have hbit := lm_bit (k := cm) (x := b) (by omega) (by omega)
    by_cases c : cm / 2 ^ b % 2 = 1
    · refine br_f (fun q => hbit.mp q c) ?_
      rw [ll_ch (by omega)]
      refine lx_pc (by omega) (by omega) (nm_r (nI_1 b) (ih (b + 1) (by omega) (n + 1) _ (by omega) (by omega) (fun x hx => ?_) ?_ (fun x x1 x2 => ?_) (fun l hl => ?_) _ _ _ _ _ _ _ _ _ _ _ _ _ _ _ _ _ _ _ _ _ _ _ _ ek rfl rfl))
      · rw [if_neg (by omega)]; exact h3 x hx
      · rw [if_neg (by omega)]; exact h4
      · by_cases z : x = n
        · rw [if_pos z]; omega
        · rw [if_neg z]; have := h5 x x1 (by omega); omega
      · by_cases z : l = b
        · subst z
          exact ⟨fun _ => ⟨n, by omega, by omega, if_pos rfl⟩, fun _ => c⟩
        · rw [h6 l (by omega)]
          constructor
          · rintro ⟨x, x1, x2, x3⟩; exact ⟨x, x1, by omega, by rw [if_neg (by omega)]; exact x3⟩
          · rintro ⟨x, x1, x2, x3⟩
            by_cases y : x = n
            · rw [if_pos y] at x3; omega
            · rw [if_neg y] at x3; exact ⟨x, x1, by omega, x3⟩
    · refine br_t (hbit.mpr c) (nm_r (nI_1 b) (ih (b + 1) (by omega) n V h1 (by omega) h3 h4 (fun x x1 x2 => ?_) (fun l hl => ?_) _ _ _ _ _ _ _ _ _ _ _ _ _ _ _ _ _ _ _ _ _ _ _ _ ek rfl rfl))
      · have := h5 x x1 x2; omega
      · by_cases z : l = b
        · subst z
          refine ⟨fun q => absurd q c, ?_⟩
          rintro ⟨x, x1, x2, x3⟩
          have := h5 x x1 x2; omega
        · exact h6 l (by omega)
end
