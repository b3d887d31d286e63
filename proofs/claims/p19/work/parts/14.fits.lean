/-! Which positions a letter matches. -/
/-- at character j the position b takes the letter c in -/
def ft_x (W : Nat → Nat) (c b j : Nat) : Prop := (W j = c ∧ gr_ic W j = false ∧ gr_ct W j + 1 = b) ∨ (W j = 46 ∧ gr_ct W j + 1 = b) ∨ (gr_ic W j = true ∧ W j = c ∧ gr_ct W j = b)
/-- the position that begins at s matches the letter c -/
def ft_y (W : Nat → Nat) (m c s : Nat) : Prop := W s = 46 ∨ (W s ≠ 91 ∧ W s = c) ∨ (W s = 91 ∧ ∃ j, j < m ∧ gr_ic W j = true ∧ gr_cs W j = s ∧ W j = c)
section
variable {W : Nat → Nat} {m : Nat}
theorem ft_iff (hV : gr_V W m) {c q t g : Nat} (hc : gr_L c) (hS : sm_S W m q t g) : (∃ j, j < m ∧ ft_x W c q j) ↔ ft_y W m c t := by
  obtain ⟨h1, h2, h3, _⟩ := hS
  constructor
  · rintro ⟨j, hj, ⟨e1, e2, e3⟩ | ⟨e1, e2⟩ | ⟨e1, e2, e3⟩⟩
    · have : j = t := gr_ctI (Or.inr (Or.inr ⟨by rw [e1]; exact hc, e2⟩)) h1 (by omega)
      subst this
      exact Or.inr (Or.inl ⟨by omega, e1⟩)
    · have : j = t := gr_ctI (Or.inl e1) h1 (by omega)
      subst this
      exact Or.inl e1
    · have hct := gv_ctc hV j hj e1
      have hp := gr_icP hV j hj e1
      have : gr_cs W j = t := gr_ctI (Or.inr (Or.inl hp.2.2.1)) h1 (by omega)
      exact Or.inr (Or.inr ⟨by rw [← this]; exact hp.2.2.1, j, hj, e1, this, e2⟩)
  · rintro (e | ⟨e1, e2⟩ | ⟨e1, j, hj, e2, e3, e4⟩)
    · exact ⟨t, h2, Or.inr (Or.inl ⟨e, h3⟩)⟩
    · refine ⟨t, h2, Or.inl ⟨e2, ?_, h3⟩⟩
      rcases h1 with h | h | h
      · omega
      · omega
      · exact h.2
    · have hct := gv_ctc hV j hj e2
      exact ⟨j, hj, Or.inr (Or.inr ⟨e2, e4, by rw [hct, e3]; exact h3⟩)⟩
end
