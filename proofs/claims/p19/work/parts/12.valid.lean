/-! When a pattern is valid, character by character. -/
/-- the pattern V 0 .. V (n-1) between its own parentheses -/
def vd_W (V : Nat → Nat) (n : Nat) : Nat → Nat := fun i => if i = 0 then 40 else if i = n + 1 then 41 else V (i - 1)
abbrev vd_al (c : Nat) : Prop := gr_L c ∨ gr_O c ∨ c = 46 ∨ c = 124 ∨ c = 91 ∨ c = 93 ∨ c = 40 ∨ c = 41
def vd_c (W : Nat → Nat) (x : Nat) : Prop :=
  1 ≤ gr_dp W (x + 1) ∧ (gr_ic W x = true → gr_L (W x) ∨ (W x = 93 ∧ W (x - 1) ≠ 91)) ∧
  (gr_ic W x = false → (gr_L (W x) ∨ W x = 46 ∨ W x = 91) ∨ W x = 40 ∨ ((W x = 124 ∨ W x = 41 ∨ gr_O (W x)) ∧ W (x - 1) ≠ 40 ∧ W (x - 1) ≠ 124))
/-- the characters before i are as they may be -/
def vd_p (W : Nat → Nat) (i : Nat) : Prop := ∀ x, 1 ≤ x → x < i → vd_c W x
def vd_V (W : Nat → Nat) (n : Nat) : Prop := vd_p W (n + 1) ∧ gr_dp W (n + 1) = 1 ∧ gr_ic W (n + 1) = false ∧ W n ≠ 40 ∧ W n ≠ 124
section
variable {W : Nat → Nat}
theorem vd_p1 {i : Nat} (h : vd_p W i) (hc : vd_c W i) : vd_p W (i + 1) := by
  intro x h1 h2
  by_cases c : x = i
  · subst c; exact hc
  · exact h x h1 (by omega)
theorem vd_W0 {V : Nat → Nat} {n : Nat} : vd_W V n 0 = 40 := rfl
theorem vd_W1 {V : Nat → Nat} {n i : Nat} (h : i < n) : vd_W V n (i + 1) = V i := by
  unfold vd_W; rw [if_neg (by omega), if_neg (by omega)]; rfl
theorem vd_Wm {V : Nat → Nat} {n : Nat} : vd_W V n (n + 1) = 41 := by
  unfold vd_W; rw [if_neg (by omega), if_pos rfl]
theorem vd_gr {n : Nat} (hn : 0 < n) (h0 : W 0 = 40) (hm : W (n + 1) = 41) (h : vd_V W n) : gr_V W (n + 2) := by
  obtain ⟨h1, h2, h3, h4, h5⟩ := h
  refine ⟨by omega, h0, hm, h3, h2, ?_, ?_, ?_⟩
  · intro i q1 q2
    by_cases c : i = 1
    · subst c; rw [gr_dp1, if_pos h0]; omega
    · have := (h1 (i - 1) (by omega) (by omega)).1
      rw [show i - 1 + 1 = i from by omega] at this; exact this
  · intro i q1 q2 q3
    by_cases c : i = n + 1
    · subst c; rw [h3] at q3; exact Bool.noConfusion q3
    · rcases (h1 i q1 (by omega)).2.1 q3 with h | h
      · exact Or.inl h
      · exact Or.inr h.1
  · intro i q1 q2 q3
    by_cases c : i = n + 1
    · subst c
      exact Or.inr (Or.inr ⟨Or.inr (Or.inl hm), h4, h5⟩)
    · exact (h1 i q1 (by omega)).2.2 q3
end
