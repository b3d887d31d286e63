/-! The whole graph of a valid pattern. -/
section
variable {W : Nat → Nat} {m : Nat}
theorem gv_cls (hV : gr_V W m) {t : Nat} (ht : t < m) (h91 : W t = 91) : ∃ e, t < e ∧ e < m ∧ W e = 93 ∧ gr_ic W e = true ∧ gr_cs W e = t := by
  have hV' := hV
  obtain ⟨v1, v0, vm, vi, _, _, vc, _⟩ := hV
  have A : ∀ d, t + 1 + d < m → (gr_ic W (t + 1 + d) = true ∧ gr_cs W (t + 1 + d) = t) ∨ ∃ e, t < e ∧ e < t + 1 + d ∧ W e = 93 ∧ gr_ic W e = true ∧ gr_cs W e = t := by
    intro d
    induction d with
    | zero =>
      intro _
      left
      show gr_ic W (t + 1) = true ∧ gr_cs W (t + 1) = t
      rw [gr_ic1, gr_cs1, if_pos h91]
      simp [h91]
    | succ d ih =>
      intro hd
      rcases ih (by omega) with ⟨h1, h2⟩ | ⟨e, h1, h2, h3⟩
      · by_cases c : W (t + 1 + d) = 93
        · right; exact ⟨t + 1 + d, by omega, by omega, c, h1, h2⟩
        · left
          have hn : W (t + 1 + d) ≠ 91 := by
            have := vc (t + 1 + d) (by omega) (by omega) h1; omega
          rw [show t + 1 + (d + 1) = (t + 1 + d) + 1 from by omega, gr_ic1, gr_cs1, if_neg hn]
          refine ⟨?_, h2⟩
          rw [h1]; simp [c]
      · right; exact ⟨e, h1, by omega, h3⟩
  have hlt : t < m - 1 := by
    by_cases c : t = m - 1
    · rw [c] at h91; omega
    · omega
  rcases A (m - 1 - (t + 1)) (by omega) with ⟨h1, _⟩ | ⟨e, h1, h2, h3⟩
  · rw [show t + 1 + (m - 1 - (t + 1)) = m - 1 from by omega, vi] at h1
    exact Bool.noConfusion h1
  · exact ⟨e, h1, by omega, h3⟩
theorem gv_93 (hV : gr_V W m) {x : Nat} (hx : x < m) (h : W x = 93) : gr_ic W x = true := by
  obtain ⟨v1, v0, vm, vi, _, _, vc, vn⟩ := hV
  have hx1 : 1 ≤ x := by
    by_cases c : x = 0
    · subst c; omega
    · omega
  cases hc : gr_ic W x with
  | true => rfl
  | false => have := vn x hx1 hx hc; omega
theorem gv_tgc (hV : gr_V W m) {e : Nat} (he : e < m) (hi : gr_ic W e = true) (h : W e = 93) : gr_tg W m (gr_cs W e) = e + 1 := by
  obtain ⟨g1, g2, g3, g4, g5⟩ := gr_icP hV e he hi
  exact gr_tg2 g3 g2 (by omega) h (fun j h1 h2 => by have := (g5 j h1 h2).1; omega)
theorem gv_ctc (hV : gr_V W m) : ∀ j, j < m → gr_ic W j = true → gr_ct W j = gr_ct W (gr_cs W j) + 1 := by
  intro j hj hi
  obtain ⟨g1, g2, g3, g4, g5⟩ := gr_icP hV j hj hi
  have A : ∀ d, gr_cs W j + 1 + d ≤ j → gr_ct W (gr_cs W j + 1 + d) = gr_ct W (gr_cs W j) + 1 := by
    intro d
    induction d with
    | zero =>
      intro _
      show gr_ct W (gr_cs W j + 1) = _
      rw [gr_ct1, if_pos (Or.inr (Or.inl g3))]
    | succ d ih =>
      intro hd
      have q := g5 (gr_cs W j + 1 + d) (by omega) (by omega)
      rw [show gr_cs W j + 1 + (d + 1) = (gr_cs W j + 1 + d) + 1 from by omega, gr_ct1, if_neg, ih (by omega)]
      rintro (h | h | ⟨_, h⟩)
      · have := q.1; omega
      · have := q.1; omega
      · rw [q.2.1] at h; exact Bool.noConfusion h
  have := A (j - (gr_cs W j + 1)) (by omega)
  rw [show gr_cs W j + 1 + (j - (gr_cs W j + 1)) = j from by omega] at this
  exact this
/-- the states of the sets lie in the graph as the simulation asks -/
theorem gv_A (hV : gr_V W m) {F L : Nat → Prop} {n : Nat} {O : Nat → Nat → Prop} (hG : fg_G (gr_E W) (gr_tg W m) (gr_S W) 0 m F L n O) {FO : Nat → Nat → Prop}
    (hF : ∀ p q, FO p q ↔ ∃ t g, sm_S W m q t g ∧ sm_R W m p t) : sm_A m (sm_G W m) (sm_R W m) (sm_S W m) FO := by
  obtain ⟨_, E, T, _, _, _, _, _⟩ := hG
  have hE : ∀ a b c, sm_G W m a b c → a ≤ m ∧ b ≤ m := by
    intro a b c ⟨x, hx, h⟩
    have := E x a b c (Nat.zero_le _) hx h
    omega
  have hP : ∀ u v k, u ≤ m → fg_P (gr_E W) 0 m u v k → v ≤ m := by
    intro u v k hu hp
    refine hp (fun v _ => v ≤ m) hu ?_
    intro x y z c j _ h2 h3 _
    exact (E x y z c (Nat.zero_le _) h2 h3).2.2.2
  refine ⟨?_, ?_, hF, ?_, ?_, Or.inl ⟨rfl, fg_P0⟩, ?_⟩
  · rintro p a b (⟨h1, h2⟩ | ⟨s, h1, h2, h3, h4⟩) ⟨x, hx, hg⟩
    · exact Or.inl ⟨h1, fg_Pe h2 (Nat.zero_le _) hx hg⟩
    · exact Or.inr ⟨s, h1, h2, h3, fg_Pe h4 (Nat.zero_le _) hx hg⟩
  · rintro q t g ⟨h1, h2, h3, rfl⟩
    refine ⟨Or.inr ⟨t, h1, h2, h3, fg_P0⟩, by omega, (T t h1 (Nat.zero_le _) h2).2, ?_⟩
    rcases h1 with h | h | h
    · rw [gr_tg1 (by omega)]; exact ⟨t, h2, (gs_E46 h).mpr ⟨rfl, rfl, rfl⟩⟩
    · obtain ⟨e, e1, e2, e3, e4, e5⟩ := gv_cls hV h2 h
      have := gv_tgc hV e2 e4 e3
      rw [e5] at this
      rw [this]
      exact ⟨e, e2, (gs_E93 e3).mpr ⟨e5.symm, rfl, rfl⟩⟩
    · rw [gr_tg1 (by have := h.1; omega)]; exact ⟨t, h2, (gs_EL h.1 h.2).mpr ⟨rfl, rfl, rfl⟩⟩
  · intro a b c h
    refine ⟨(hE a b c h).1, (hE a b c h).2, ?_⟩
    obtain ⟨x, hx, hg⟩ := h
    rcases hg with ⟨h1, rfl, rfl, rfl⟩ | ⟨h1, rfl, rfl, rfl⟩ | ⟨_, _, _, h⟩ | ⟨_, _, _, h⟩ | ⟨_, h, _⟩ | ⟨_, h, _⟩
    · refine Or.inr ⟨rfl, gr_ct W a + 1, ?_, hx, rfl, ?_⟩
      · rcases h1 with h | h
        · exact Or.inr (Or.inr h)
        · exact Or.inl h
      · rw [gr_tg1 (by omega)]
    · have hi := gv_93 hV hx h1
      obtain ⟨g1, g2, g3, g4, g5⟩ := gr_icP hV x hx hi
      exact Or.inr ⟨rfl, _, Or.inr (Or.inl g3), by omega, rfl, (gv_tgc hV hx hi h1).symm⟩
    · exact Or.inl h
    · exact Or.inl h
    · exact Or.inl h
    · exact Or.inl h
  · intro u hu
    constructor
    · rintro v (⟨_, h⟩ | ⟨s, _, _, h, _⟩)
      · exact sm_path hu h
      · omega
    · rintro q t g v ⟨h1, h2, h3, rfl⟩ (⟨h, _⟩ | ⟨s, e1, e2, e3, e4⟩)
      · omega
      · have : s = t := gr_ctI e1 h1 (by omega)
        subst this
        exact sm_path hu e4
  · rintro p v (⟨_, h⟩ | ⟨s, e1, e2, e3, e4⟩)
    · exact hP 0 v 0 (Nat.zero_le _) h
    · exact hP _ v 0 (T s e1 (Nat.zero_le _) e2).2 e4
end
