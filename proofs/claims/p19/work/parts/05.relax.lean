/-! Relaxing: m + 1 rounds over a graph of m + 1 states reach the fixed point. -/
section
variable (G : Nat → Nat → Nat → Prop) (v0 : Nat → Nat)
/-- s is reached at value k by at most h edges from the first column -/
def bf_H : Nat → Nat → Nat → Prop
  | 0, s, k => k = v0 s
  | h + 1, s, k => bf_H h s k ∨ ∃ a c j, G a s c ∧ bf_H h a j ∧ k = j + c
end
def bf_cn (P : Nat → Bool) : Nat → Nat
  | 0 => 0
  | n + 1 => bf_cn P n + (if P n = true then 1 else 0)
theorem bf_cnm {P Q : Nat → Bool} : ∀ n : Nat, (∀ s, s < n → P s = true → Q s = true) → bf_cn P n ≤ bf_cn Q n := by
  intro n
  induction n with
  | zero => intro _; exact Nat.le_refl _
  | succ n ih =>
    intro h
    have h1 := ih (fun s hs => h s (by omega))
    have h2 := h n (by omega)
    show bf_cn P n + (if P n = true then 1 else 0) ≤ bf_cn Q n + (if Q n = true then 1 else 0)
    by_cases c : P n = true
    · rw [if_pos c, if_pos (h2 c)]; omega
    · rw [if_neg c]; omega
theorem bf_cns {P Q : Nat → Bool} : ∀ n : Nat, (∀ s, s < n → P s = true → Q s = true) → (∃ s, s < n ∧ Q s = true ∧ ¬ P s = true) → bf_cn P n < bf_cn Q n := by
  intro n
  induction n with
  | zero => intro _ ⟨s, h, _⟩; omega
  | succ n ih =>
    intro h ⟨s, h1, h2, h3⟩
    show bf_cn P n + (if P n = true then 1 else 0) < bf_cn Q n + (if Q n = true then 1 else 0)
    have hm := bf_cnm (P := P) (Q := Q) n (fun s hs => h s (by omega))
    by_cases e : s = n
    · subst e; rw [if_neg h3, if_pos h2]; omega
    · have := ih (fun s hs => h s (by omega)) ⟨s, by omega, h2, h3⟩
      by_cases c : P n = true
      · rw [if_pos c, if_pos (h n (by omega) c)]; omega
      · rw [if_neg c]; omega
theorem bf_cnl {P : Nat → Bool} : ∀ n : Nat, bf_cn P n ≤ n := by
  intro n
  induction n with
  | zero => exact Nat.le_refl _
  | succ n ih =>
    show bf_cn P n + (if P n = true then 1 else 0) ≤ n + 1
    split <;> omega
theorem bf_cna {P : Nat → Bool} : ∀ n : Nat, n ≤ bf_cn P n → ∀ s, s < n → P s = true := by
  intro n
  induction n with
  | zero => intro _ s h; omega
  | succ n ih =>
    intro h s hs
    have hl := bf_cnl (P := P) n
    have h' : n + 1 ≤ bf_cn P n + (if P n = true then 1 else 0) := h
    by_cases c : P n = true
    · rw [if_pos c] at h'
      by_cases e : s = n
      · subst e; exact c
      · exact ih (by omega) s (by omega)
    · rw [if_neg c] at h'; omega
theorem bf_least (P : Nat → Prop) (h : ∃ k, P k) : ∃ k, P k ∧ ∀ j, j < k → ¬ P j := by
  obtain ⟨k, hk⟩ := h
  induction k using Nat.strongRecOn with
  | ind k ih =>
    by_cases c : ∃ j, j < k ∧ P j
    · obtain ⟨j, h1, h2⟩ := c; exact ih j h1 h2
    · exact ⟨k, hk, fun j h1 h2 => c ⟨j, h1, h2⟩⟩
section
variable {G : Nat → Nat → Nat → Prop} {v0 : Nat → Nat}
theorem bf_Hs {h s k : Nat} (H : bf_H G v0 h s k) : bf_H G v0 (h + 1) s k := Or.inl H
theorem bf_Hm {s k : Nat} : ∀ (d h : Nat), bf_H G v0 h s k → bf_H G v0 (h + d) s k := by
  intro d
  induction d with
  | zero => intro h H; exact H
  | succ d ih => intro h H; exact Or.inl (ih h H)
theorem bf_HM {h h' s k : Nat} (H : bf_H G v0 h s k) (hh : h ≤ h') : bf_H G v0 h' s k := by
  have := bf_Hm (h' - h) h H
  rw [show h + (h' - h) = h' from by omega] at this; exact this
theorem bf_HQ {Q : Nat → Nat → Prop} {m : Nat} (hG : ∀ a b c, G a b c → a ≤ m ∧ b ≤ m) (h0 : ∀ s, s ≤ m → Q s (v0 s)) (hc : ∀ a b c k, G a b c → Q a k → Q b (k + c)) :
    ∀ h s k, s ≤ m → bf_H G v0 h s k → Q s k := by
  intro h
  induction h with
  | zero => intro s k hs H; have : k = v0 s := H; subst this; exact h0 s hs
  | succ h ih =>
    intro s k hs H
    rcases H with H | ⟨a, c, j, h1, h2, rfl⟩
    · exact ih s k hs H
    · exact hc a s c j h1 (ih a j (hG a s c h1).1 h2)
theorem bf_closed {m : Nat} (hG : ∀ a b c, G a b c → a ≤ m ∧ b ≤ m) {u : Nat → Nat}
    (hb : ∀ s k, s ≤ m → bf_H G v0 (m + 1) s k → u s ≤ k) (hs' : ∀ s, s ≤ m → ∃ h, bf_H G v0 h s (u s)) :
    ∀ a b c, G a b c → u b ≤ u a + c := by
  have hL : ∀ s, ∃ k, (∃ h, bf_H G v0 h s k) ∧ ∀ j, j < k → ¬ ∃ h, bf_H G v0 h s j := fun s => bf_least _ ⟨v0 s, 0, rfl⟩
  let D : Nat → Nat := fun s => Classical.choose (hL s)
  have hD : ∀ s, (∃ h, bf_H G v0 h s (D s)) ∧ ∀ j, j < D s → ¬ ∃ h, bf_H G v0 h s j := fun s => Classical.choose_spec (hL s)
  have hDl : ∀ s k h, bf_H G v0 h s k → D s ≤ k := by
    intro s k h H
    by_cases c : k < D s
    · exact absurd ⟨h, H⟩ ((hD s).2 k c)
    · omega
  have hDc : ∀ a b c, G a b c → D b ≤ D a + c := by
    intro a b c h
    obtain ⟨h', H⟩ := (hD a).1
    exact hDl b _ (h' + 1) (Or.inr ⟨a, c, D a, h, H, rfl⟩)
  -- settled states grow
  have hgrow : ∀ h, (∀ s, s ≤ m → bf_H G v0 h s (D s)) ∨ ∃ s, s ≤ m ∧ bf_H G v0 (h + 1) s (D s) ∧ ¬ bf_H G v0 h s (D s) := by
    intro h
    by_cases c : ∀ s, s ≤ m → bf_H G v0 h s (D s)
    · exact Or.inl c
    · right
      have : ∃ H, ∃ s, s ≤ m ∧ bf_H G v0 H s (D s) ∧ ¬ bf_H G v0 h s (D s) := by
        have : ∃ s, ¬ (s ≤ m → bf_H G v0 h s (D s)) := Classical.not_forall.mp c
        obtain ⟨s, hs⟩ := this
        have h1 : s ≤ m := Classical.byContradiction fun h' => hs (fun h'' => absurd h'' h')
        obtain ⟨H, hH⟩ := (hD s).1
        exact ⟨H, s, h1, hH, fun h' => hs (fun _ => h')⟩
      obtain ⟨H, ⟨s, h1, h2, h3⟩, hmin⟩ := bf_least _ this
      have hlt : h < H := by
        by_cases c : h < H
        · exact c
        · exact absurd (bf_HM h2 (by omega)) h3
      obtain ⟨K, rfl⟩ : ∃ K, H = K + 1 := ⟨H - 1, by omega⟩
      rcases h2 with h2 | ⟨a, c, j, e1, e2, e3⟩
      · exact absurd ⟨s, h1, h2, h3⟩ (hmin K (by omega))
      · have q1 := hDl a j K e2
        have q2 := hDc a s c e1
        have q3 : j = D a := by omega
        subst q3
        have q4 : bf_H G v0 h a (D a) := Classical.byContradiction fun h' => hmin K (by omega) ⟨a, (hG a s c e1).1, e2, h'⟩
        exact ⟨s, h1, Or.inr ⟨a, c, D a, e1, q4, e3⟩, h3⟩
  let P : Nat → Nat → Bool := fun h s => @decide (bf_H G v0 h s (D s)) (Classical.propDecidable _)
  have hP : ∀ h s, P h s = true ↔ bf_H G v0 h s (D s) := fun h s => @decide_eq_true_iff _ (Classical.propDecidable _)
  have hcnt : ∀ h, (∀ s, s ≤ m → bf_H G v0 h s (D s)) ∨ h ≤ bf_cn (P h) (m + 1) := by
    intro h
    induction h with
    | zero => right; exact Nat.zero_le _
    | succ h ih =>
      rcases ih with ih | ih
      · left; intro s hs; exact bf_Hs (ih s hs)
      · rcases hgrow h with g | ⟨s, g1, g2, g3⟩
        · left; intro s hs; exact bf_Hs (g s hs)
        · right
          have := bf_cns (P := P h) (Q := P (h + 1)) (m + 1) (fun s _ hp => (hP (h + 1) s).mpr (bf_Hs ((hP h s).mp hp))) ⟨s, by omega, (hP (h + 1) s).mpr g2, fun hp => g3 ((hP h s).mp hp)⟩
          omega
  have hall : ∀ s, s ≤ m → bf_H G v0 (m + 1) s (D s) := by
    rcases hcnt (m + 1) with h | h
    · exact h
    · intro s hs
      exact (hP (m + 1) s).mp (bf_cna (m + 1) h s (by omega))
  have hu : ∀ s, s ≤ m → u s = D s := by
    intro s hs
    have h1 := hb s (D s) hs (hall s hs)
    obtain ⟨h, H⟩ := hs' s hs
    have h2 := hDl s _ h H
    omega
  intro a b c h
  have hab := hG a b c h
  rw [hu a hab.1, hu b hab.2]
  exact hDc a b c h
theorem bf_step {m h : Nat} {u u' : Nat → Nat} (hG : ∀ a b c, G a b c → a ≤ m ∧ b ≤ m) (hb : ∀ s k, s ≤ m → bf_H G v0 h s k → u s ≤ k)
    (h1 : ∀ s, s ≤ m → u' s ≤ u s) (h2 : ∀ a b c, G a b c → u' b ≤ u a + c) : ∀ s k, s ≤ m → bf_H G v0 (h + 1) s k → u' s ≤ k := by
  intro s k hs H
  rcases H with H | ⟨a, c, j, e1, e2, rfl⟩
  · have := hb s k hs H; have := h1 s hs; omega
  · have := hb a j (hG a s c e1).1 e2; have := h2 a s c e1; omega
end
/-- what relaxing makes of the column v0: below it, closed, and each value reached -/
def bf_C (G : Nat → Nat → Nat → Prop) (m : Nat) (v0 u : Nat → Nat) : Prop :=
  (∀ s, s ≤ m → ∃ h, bf_H G v0 h s (u s)) ∧ (∀ s, s ≤ m → u s ≤ v0 s) ∧ (∀ a b c, G a b c → u b ≤ u a + c)
theorem bf_CQ {G : Nat → Nat → Nat → Prop} {m : Nat} {v0 u : Nat → Nat} (hG : ∀ a b c, G a b c → a ≤ m ∧ b ≤ m) (h : bf_C G m v0 u) {Q : Nat → Nat → Prop}
    (h0 : ∀ s, s ≤ m → Q s (v0 s)) (hc : ∀ a b c k, G a b c → Q a k → Q b (k + c)) {s : Nat} (hs : s ≤ m) : Q s (u s) := by
  obtain ⟨h', H⟩ := h.1 s hs
  exact bf_HQ hG h0 hc h' s _ hs H
