/-! The edges in the order in which the reference adds them. -/
def gy_C (W : Nat → Nat) (m i c : Nat) : Prop := i < c ∧ c < m ∧ W c = 41 ∧ gr_dp W c = gr_dp W i + 1 ∧ ∀ x, i < x → x ≤ c → gr_dp W i < gr_dp W x
/-- the edges that the reference adds at character s -/
def gy_E (W : Nat → Nat) (m s a b : Nat) : Prop :=
  (W s = 40 ∧ ((a = s ∧ b = s + 1) ∨ ∃ p c, gr_Ba W s p ∧ gy_C W m s c ∧ p < c ∧ ((a = s ∧ b = p + 1) ∨ (a = p ∧ b = c)))) ∨
  (W s = 41 ∧ a = s ∧ b = s + 1) ∨
  (gr_O (W s) ∧ ((W s ≠ 43 ∧ a = gr_as W s ∧ b = s) ∨ (W s ≠ 63 ∧ a = s ∧ b = gr_as W s) ∨ (a = s ∧ b = s + 1)))
section
variable {W : Nat → Nat} {m : Nat}
theorem gy_dpm (hV : gr_V W m) : gr_dp W m = 0 := by
  obtain ⟨w1, w2, w3, w4, w5, _⟩ := hV
  obtain ⟨q, rfl⟩ : ∃ q, m = q + 1 := ⟨m - 1, by omega⟩
  rw [Nat.add_sub_cancel] at w3 w5
  rw [gr_dp1, if_neg (by omega), if_pos w3, w5]
theorem gy_cl (hV : gr_V W m) {i : Nat} (hi : i < m) (h : W i = 40) : ∃ c, gy_C W m i c := by
  have hm := gy_dpm hV
  obtain ⟨y, ⟨h1, h2, h3⟩, h4⟩ := bf_least (fun y => i < y ∧ y ≤ m ∧ gr_dp W y ≤ gr_dp W i) ⟨m, hi, Nat.le_refl _, by omega⟩
  have hi1 : gr_dp W (i + 1) = gr_dp W i + 1 := by rw [gr_dp1, if_pos h]
  have hyi : y ≠ i + 1 := by intro e; subst e; omega
  obtain ⟨c, rfl⟩ : ∃ c, y = c + 1 := ⟨y - 1, by omega⟩
  have hc : gr_dp W i < gr_dp W c := by
    by_cases e : gr_dp W c ≤ gr_dp W i
    · exact absurd ⟨by omega, by omega, e⟩ (h4 c (by omega))
    · omega
  have h41 : W c = 41 := by
    by_cases e : W c = 41
    · exact e
    · rw [gr_dp1] at h3
      split at h3
      · omega
      · omega
  have hd : gr_dp W (c + 1) = gr_dp W c - 1 := by rw [gr_dp1, if_neg (by omega), if_pos h41]
  refine ⟨c, by omega, by omega, h41, by omega, fun x q1 q2 => ?_⟩
  by_cases e : gr_dp W x ≤ gr_dp W i
  · exact absurd ⟨q1, by omega, e⟩ (h4 x (by omega))
  · omega
/-- who is open at depth dp i from i on -/
theorem gy_skc {i x : Nat} (h : W i = 40) (hx : i < x) (hd : ∀ y, i < y → y ≤ x → gr_dp W i < gr_dp W y) : gr_sk W x (gr_dp W i) = i := by
  have e := gr_skK (W := W) (j := gr_dp W i) (x - (i + 1)) (i + 1) (fun y h1 h2 => hd y (by omega) (by omega))
  rw [show i + 1 + (x - (i + 1)) = x from by omega] at e
  rw [e, gr_sk1, if_pos ⟨h, rfl⟩]
theorem gy_enc {i c : Nat} (h : W i = 40) (hC : gy_C W m i c) : gr_en W c = i := by
  obtain ⟨h1, h2, h3, h4, h5⟩ := hC
  unfold gr_en
  rw [h4, Nat.add_sub_cancel]
  exact gy_skc h h1 h5
theorem gy_bar {i c p : Nat} (h : W i = 40) (hC : gy_C W m i c) (h1 : i < p) (h2 : p < c) : gr_dp W p = gr_dp W i + 1 ↔ gr_en W p = i := by
  obtain ⟨g1, g2, g3, g4, g5⟩ := hC
  have hp := g5 p h1 (by omega)
  constructor
  · intro e
    unfold gr_en
    rw [e, Nat.add_sub_cancel]
    exact gy_skc h h1 (fun y q1 q2 => g5 y q1 (by omega))
  · intro e
    have := (gr_enP (W := W) (x := p) (by omega)).2.2.1
    rw [e] at this; omega
theorem gy_barc {i c p : Nat} (h : W i = 40) (hC : gy_C W m i c) (hB : gr_Ba W i p) (hp : 1 ≤ gr_dp W p) : p < c := by
  obtain ⟨g1, g2, g3, g4, g5⟩ := hC
  obtain ⟨b1, b2, b3⟩ := hB
  have q := gr_enP (W := W) hp
  rw [b2] at q
  by_cases c1 : p < c
  · exact c1
  · exfalso
    by_cases c2 : p = c
    · subst c2; omega
    · have := q.2.2.2 (c + 1) (by omega) (by omega)
      rw [gr_dp1, if_neg (by omega), if_pos g3] at this
      omega
theorem gy_Cu {i c c' : Nat} (hC : gy_C W m i c) (hC' : gy_C W m i c') : c = c' := by
  have A : ∀ {c c'}, gy_C W m i c → gy_C W m i c' → c < c' → False := by
    intro c c' ⟨g1, g2, g3, g4, g5⟩ ⟨_, _, _, _, g5'⟩ hlt
    have := g5' (c + 1) (by omega) (by omega)
    rw [gr_dp1, if_neg (by omega), if_pos g3] at this
    omega
  rcases Nat.lt_trichotomy c c' with h | h | h
  · exact (A hC hC' h).elim
  · exact h
  · exact (A hC' hC h).elim
theorem gy_Cen (hV : gr_V W m) {x : Nat} (hx : x < m) (h : W x = 41) : gy_C W m (gr_en W x) x ∧ W (gr_en W x) = 40 := by
  obtain ⟨w1, w2, w3, w4, w5, w6, _⟩ := hV
  have hx1 : 1 ≤ x := by
    by_cases c : x = 0
    · subst c; omega
    · omega
  have hd := w6 x hx1 hx
  obtain ⟨e1, e2, e3, e4⟩ := gr_enP (W := W) hd
  exact ⟨⟨e1, hx, h, by omega, fun y q1 q2 => by have := e4 y q1 q2; omega⟩, e2⟩
theorem gy_iff (hV : gr_V W m) (a b : Nat) : (∃ s, s < m ∧ gy_E W m s a b) ↔ ∃ x, x < m ∧ gr_E W x a b 0 := by
  have hV' := hV
  obtain ⟨w1, w2, w3, w4, w5, w6, _⟩ := hV
  constructor
  · rintro ⟨s, hs, ⟨h, ⟨rfl, rfl⟩ | ⟨p, c, hB, hC, hpc, ⟨rfl, rfl⟩ | ⟨rfl, rfl⟩⟩⟩ | ⟨h, rfl, rfl⟩ | ⟨h, h'⟩⟩
    · exact ⟨a, hs, (gs_E40 h).mpr ⟨rfl, rfl, rfl⟩⟩
    · exact ⟨p, by have := hC.2.1; omega, (gs_E124 hB.1).mpr ⟨hB.2.1.symm, rfl, rfl⟩⟩
    · refine ⟨b, hC.2.1, (gs_E41 hC.2.2.1).mpr ⟨rfl, Or.inl ⟨hB.1, ?_, ?_, hpc, rfl⟩⟩⟩
      · rw [gy_enc h hC, hB.2.1]
      · rw [hB.2.1]; exact hB.2.2
    · exact ⟨a, hs, (gs_E41 h).mpr ⟨rfl, Or.inr ⟨rfl, rfl⟩⟩⟩
    · exact ⟨s, hs, (gs_EO h).mpr ⟨rfl, h'⟩⟩
  · rintro ⟨x, hx, ⟨_, _, _, h⟩ | ⟨_, _, _, h⟩ | ⟨h, rfl, rfl, _⟩ | ⟨h, rfl, rfl, _⟩ | ⟨h, _, ⟨h1, h2, h3, h4, rfl⟩ | ⟨rfl, rfl⟩⟩ | ⟨h, _, h'⟩⟩
    · omega
    · omega
    · exact ⟨a, hx, Or.inl ⟨h, Or.inl ⟨rfl, rfl⟩⟩⟩
    · have hx1 : 1 ≤ x := by
        by_cases c : x = 0
        · subst c; omega
        · omega
      have hd := w6 x hx1 hx
      obtain ⟨e1, e2, e3, e4⟩ := gr_enP (W := W) hd
      obtain ⟨c, hC⟩ := gy_cl hV' (show gr_en W x < m from by omega) e2
      exact ⟨gr_en W x, by omega, Or.inl ⟨e2, Or.inr ⟨x, c, ⟨h, rfl, e1⟩, hC, gy_barc e2 hC ⟨h, rfl, e1⟩ hd, Or.inl ⟨rfl, rfl⟩⟩⟩⟩
    · obtain ⟨hC, e2⟩ := gy_Cen hV' hx h
      have e1 := hC.1
      exact ⟨gr_en W b, by omega, Or.inl ⟨e2, Or.inr ⟨a, b, ⟨h1, h2, by omega⟩, hC, h4, Or.inr ⟨rfl, rfl⟩⟩⟩⟩
    · exact ⟨a, hx, Or.inr (Or.inl ⟨h, rfl, rfl⟩)⟩
    · exact ⟨x, hx, Or.inr (Or.inr ⟨h, h'⟩)⟩
end
/-- bars before y that belong to an open parenthesis before s; bars of s before y; characters that are no bar -/
def gy_bc (W : Nat → Nat) (s : Nat) : Nat → Nat
  | 0 => 0
  | y + 1 => gy_bc W s y + (if W y = 124 ∧ gr_en W y < s then 1 else 0)
def gy_bb (W : Nat → Nat) (s : Nat) : Nat → Nat
  | 0 => 0
  | y + 1 => gy_bb W s y + (if W y = 124 ∧ gr_en W y = s then 1 else 0)
def gy_nb (W : Nat → Nat) : Nat → Nat
  | 0 => 0
  | y + 1 => gy_nb W y + (if W y = 124 then 0 else 1)
section
variable {W : Nat → Nat}
theorem gy_bcs (s : Nat) : ∀ y, gy_bc W (s + 1) y = gy_bc W s y + gy_bb W s y := by
  intro y
  induction y with
  | zero => rfl
  | succ y ih =>
    show gy_bc W (s + 1) y + (if W y = 124 ∧ gr_en W y < s + 1 then 1 else 0) = gy_bc W s y + (if W y = 124 ∧ gr_en W y < s then 1 else 0) + (gy_bb W s y + (if W y = 124 ∧ gr_en W y = s then 1 else 0))
    rw [ih]
    by_cases c : W y = 124
    · rcases Nat.lt_trichotomy (gr_en W y) s with h | h | h
      · rw [if_pos ⟨c, by omega⟩, if_pos ⟨c, h⟩, if_neg (by omega)]; omega
      · rw [if_pos ⟨c, by omega⟩, if_neg (by omega), if_pos ⟨c, h⟩]; omega
      · rw [if_neg (by omega), if_neg (by omega), if_neg (by omega)]; omega
    · rw [if_neg (by omega), if_neg (by omega), if_neg (by omega)]; omega
theorem gy_bcl (s : Nat) : ∀ y, gy_bc W s y + gy_nb W y ≤ y := by
  intro y
  induction y with
  | zero => exact Nat.le_refl _
  | succ y ih =>
    show gy_bc W s y + (if W y = 124 ∧ gr_en W y < s then 1 else 0) + (gy_nb W y + (if W y = 124 then 0 else 1)) ≤ y + 1
    by_cases c : W y = 124
    · rw [if_pos c]; split <;> omega
    · rw [if_neg (fun h => c h.1), if_neg c]; omega
theorem gy_bbm {s y : Nat} : ∀ d, gy_bb W s y ≤ gy_bb W s (y + d) := by
  intro d
  induction d with
  | zero => exact Nat.le_refl _
  | succ d ih => exact Nat.le_trans ih (Nat.le_add_right _ _)
theorem gy_nbm {y : Nat} : ∀ d, gy_nb W y ≤ gy_nb W (y + d) := by
  intro d
  induction d with
  | zero => exact Nat.le_refl _
  | succ d ih => exact Nat.le_trans ih (Nat.le_add_right _ _)
theorem gy_bb0 {s : Nat} (h : ∀ y, y < s → W y = 124 → gr_en W y < y) : ∀ y, y ≤ s + 1 → W s ≠ 124 → gy_bb W s y = 0 := by
  intro y
  induction y with
  | zero => intro _ _; rfl
  | succ y ih =>
    intro hy hs
    show gy_bb W s y + (if W y = 124 ∧ gr_en W y = s then 1 else 0) = 0
    rw [ih (by omega) hs, if_neg]
    rintro ⟨h1, h2⟩
    by_cases c : y = s
    · subst c; exact hs h1
    · have := h y (by omega) h1; omega
end
