/-! The pattern between two parentheses of its own, W 0 .. W (m-1), and the edges that its characters own. -/
abbrev gr_L (c : Nat) : Prop := 97 ≤ c ∧ c ≤ 122
abbrev gr_O (c : Nat) : Prop := c = 42 ∨ c = 43 ∨ c = 63
/-- within a class, before character i -/
def gr_ic (W : Nat → Nat) : Nat → Bool
  | 0 => false
  | i + 1 => (W i == 91) || (gr_ic W i && !(W i == 93))
/-- the open parentheses before character i -/
def gr_dp (W : Nat → Nat) : Nat → Nat
  | 0 => 0
  | i + 1 => if W i = 40 then gr_dp W i + 1 else if W i = 41 then gr_dp W i - 1 else gr_dp W i
/-- the place of the open parenthesis of depth j -/
def gr_sk (W : Nat → Nat) : Nat → Nat → Nat
  | 0, _ => 0
  | i + 1, j => if W i = 40 ∧ j = gr_dp W i then i else gr_sk W i j
def gr_en (W : Nat → Nat) (x : Nat) : Nat := gr_sk W x (gr_dp W x - 1)
/-- the last opening bracket before i -/
def gr_cs (W : Nat → Nat) : Nat → Nat
  | 0 => 0
  | i + 1 => if W i = 91 then i else gr_cs W i
/-- where the piece that ends before i begins -/
def gr_as (W : Nat → Nat) : Nat → Nat
  | 0 => 0
  | i + 1 => if gr_O (W i) then gr_as W i else if W i = 93 then gr_cs W i else if W i = 41 then gr_en W i else i
abbrev gr_S (W : Nat → Nat) (s : Nat) : Prop := W s = 46 ∨ W s = 91 ∨ (gr_L (W s) ∧ gr_ic W s = false)
/-- the positions before i -/
def gr_ct (W : Nat → Nat) : Nat → Nat
  | 0 => 0
  | i + 1 => if gr_S W i then gr_ct W i + 1 else gr_ct W i
def gr_ce (W : Nat → Nat) : Nat → Nat → Nat
  | 0, s => s
  | n + 1, s => if W s = 93 then s else gr_ce W n (s + 1)
def gr_tg (W : Nat → Nat) (m s : Nat) : Nat := if W s = 91 then gr_ce W m (s + 1) + 1 else s + 1
def gr_E (W : Nat → Nat) (x y z c : Nat) : Prop :=
  (((gr_L (W x) ∧ gr_ic W x = false) ∨ W x = 46) ∧ y = x ∧ z = x + 1 ∧ c = 1) ∨
  (W x = 93 ∧ y = gr_cs W x ∧ z = x + 1 ∧ c = 1) ∨
  (W x = 40 ∧ y = x ∧ z = x + 1 ∧ c = 0) ∨
  (W x = 124 ∧ y = gr_en W x ∧ z = x + 1 ∧ c = 0) ∨
  (W x = 41 ∧ c = 0 ∧ ((W y = 124 ∧ gr_en W y = gr_en W x ∧ gr_en W y < y ∧ y < x ∧ z = x) ∨ (y = x ∧ z = x + 1))) ∨
  (gr_O (W x) ∧ c = 0 ∧ ((W x ≠ 43 ∧ y = gr_as W x ∧ z = x) ∨ (W x ≠ 63 ∧ y = x ∧ z = gr_as W x) ∨ (y = x ∧ z = x + 1)))
abbrev gr_Ba (W : Nat → Nat) (o p : Nat) : Prop := W p = 124 ∧ gr_en W p = o ∧ o < p
/-- the pattern is valid -/
def gr_V (W : Nat → Nat) (m : Nat) : Prop :=
  2 < m ∧ W 0 = 40 ∧ W (m - 1) = 41 ∧ gr_ic W (m - 1) = false ∧ gr_dp W (m - 1) = 1 ∧
  (∀ i, 1 ≤ i → i < m → 1 ≤ gr_dp W i) ∧
  (∀ i, 1 ≤ i → i < m → gr_ic W i = true → gr_L (W i) ∨ W i = 93) ∧
  (∀ i, 1 ≤ i → i < m → gr_ic W i = false → (gr_L (W i) ∨ W i = 46 ∨ W i = 91) ∨ W i = 40 ∨
    ((W i = 124 ∨ W i = 41 ∨ gr_O (W i)) ∧ W (i - 1) ≠ 40 ∧ W (i - 1) ≠ 124))
section
variable {W : Nat → Nat}
theorem gr_ic1 {i : Nat} : gr_ic W (i + 1) = ((W i == 91) || (gr_ic W i && !(W i == 93))) := rfl
theorem gr_dp1 {i : Nat} : gr_dp W (i + 1) = if W i = 40 then gr_dp W i + 1 else if W i = 41 then gr_dp W i - 1 else gr_dp W i := rfl
theorem gr_sk1 {i j : Nat} : gr_sk W (i + 1) j = if W i = 40 ∧ j = gr_dp W i then i else gr_sk W i j := rfl
theorem gr_cs1 {i : Nat} : gr_cs W (i + 1) = if W i = 91 then i else gr_cs W i := rfl
theorem gr_as1 {i : Nat} : gr_as W (i + 1) = if gr_O (W i) then gr_as W i else if W i = 93 then gr_cs W i else if W i = 41 then gr_en W i else i := rfl
theorem gr_ct1 {i : Nat} : gr_ct W (i + 1) = if gr_S W i then gr_ct W i + 1 else gr_ct W i := rfl
theorem gr_skP : ∀ i j : Nat, j < gr_dp W i → gr_sk W i j < i ∧ W (gr_sk W i j) = 40 ∧ gr_dp W (gr_sk W i j) = j ∧ ∀ x, gr_sk W i j < x → x ≤ i → j < gr_dp W x := by
  intro i
  induction i with
  | zero => intro j h; exact absurd h (by simp [gr_dp])
  | succ i ih =>
    intro j h
    rw [gr_sk1]
    by_cases c : W i = 40 ∧ j = gr_dp W i
    · rw [if_pos c]
      refine ⟨by omega, c.1, c.2.symm, fun x h1 h2 => ?_⟩
      have : x = i + 1 := by omega
      subst this; exact h
    · rw [if_neg c]
      have hj : j < gr_dp W i := by
        rw [gr_dp1] at h
        by_cases c1 : W i = 40
        · rw [if_pos c1] at h
          by_cases e : j = gr_dp W i
          · exact absurd ⟨c1, e⟩ c
          · omega
        · rw [if_neg c1] at h
          by_cases c2 : W i = 41
          · rw [if_pos c2] at h; omega
          · rw [if_neg c2] at h; exact h
      obtain ⟨h1, h2, h3, h4⟩ := ih j hj
      refine ⟨by omega, h2, h3, fun x g1 g2 => ?_⟩
      by_cases e : x = i + 1
      · subst e; exact h
      · exact h4 x g1 (by omega)
theorem gr_skK {j : Nat} : ∀ (d i : Nat), (∀ x, i ≤ x → x < i + d → j < gr_dp W x) → gr_sk W (i + d) j = gr_sk W i j := by
  intro d
  induction d with
  | zero => intro i _; rfl
  | succ d ih =>
    intro i h
    have : i + (d + 1) = (i + d) + 1 := by omega
    rw [this, gr_sk1]
    have hj := h (i + d) (by omega) (by omega)
    rw [if_neg (by omega)]
    exact ih i (fun x h1 h2 => h x h1 (by omega))
theorem gr_enP {x : Nat} (h : 1 ≤ gr_dp W x) : gr_en W x < x ∧ W (gr_en W x) = 40 ∧ gr_dp W (gr_en W x) = gr_dp W x - 1 ∧ ∀ y, gr_en W x < y → y ≤ x → gr_dp W x - 1 < gr_dp W y :=
  gr_skP x (gr_dp W x - 1) (by omega)
theorem gr_icP {m : Nat} (hV : gr_V W m) : ∀ i, i < m → gr_ic W i = true → 1 ≤ gr_cs W i ∧ gr_cs W i < i ∧ W (gr_cs W i) = 91 ∧ gr_ic W (gr_cs W i) = false ∧ ∀ j, gr_cs W i < j → j < i → gr_L (W j) ∧ gr_ic W j = true ∧ gr_cs W j = gr_cs W i := by
  obtain ⟨_, v0, _, _, _, _, vc, _⟩ := hV
  intro i
  induction i with
  | zero => intro _ h; exact absurd h (by simp [gr_ic])
  | succ i ih =>
    intro hm h
    rw [gr_cs1]
    by_cases c : W i = 91
    · rw [if_pos c]
      have hi : 1 ≤ i := by
        by_cases e : i = 0
        · subst e; omega
        · omega
      have hic : gr_ic W i = false := by
        cases hc : gr_ic W i with
        | false => rfl
        | true => have := vc i hi (by omega) hc; omega
      exact ⟨hi, by omega, c, hic, fun j h1 h2 => by omega⟩
    · rw [if_neg c]
      rw [gr_ic1] at h
      have hb : (W i == 91) = false := by simp [c]
      rw [hb, Bool.false_or, Bool.and_eq_true] at h
      obtain ⟨h1, h2⟩ := h
      obtain ⟨g1, g2, g3, g4, g5⟩ := ih (by omega) h1
      refine ⟨g1, by omega, g3, g4, fun j q1 q2 => ?_⟩
      by_cases e : j = i
      · subst e
        have hn : W j ≠ 93 := by intro e; simp [e] at h2
        have := vc j (by omega) (by omega) h1
        exact ⟨by omega, h1, rfl⟩
      · exact g5 j q1 (by omega)
theorem gr_ceP : ∀ n s e : Nat, s ≤ e → e - s ≤ n → W e = 93 → (∀ j, s ≤ j → j < e → W j ≠ 93) → gr_ce W n s = e := by
  intro n
  induction n with
  | zero => intro s e h1 h2 _ _; show s = e; omega
  | succ n ih =>
    intro s e h1 h2 h3 h4
    show (if W s = 93 then s else gr_ce W n (s + 1)) = e
    by_cases c : s = e
    · subst c; rw [if_pos h3]
    · rw [if_neg (h4 s (Nat.le_refl _) (by omega))]
      exact ih (s + 1) e (by omega) (by omega) h3 (fun j q1 q2 => h4 j (by omega) q2)
theorem gr_tg1 {m s : Nat} (h : W s ≠ 91) : gr_tg W m s = s + 1 := by unfold gr_tg; rw [if_neg h]
theorem gr_tg2 {m s e : Nat} (h : W s = 91) (h1 : s < e) (h2 : e ≤ m) (h3 : W e = 93) (h4 : ∀ j, s < j → j < e → W j ≠ 93) : gr_tg W m s = e + 1 := by
  unfold gr_tg; rw [if_pos h, gr_ceP m (s + 1) e (by omega) (by omega) h3 (fun j q1 q2 => h4 j (by omega) q2)]
theorem gr_ctm : ∀ d i : Nat, gr_ct W i ≤ gr_ct W (i + d) := by
  intro d
  induction d with
  | zero => intro i; exact Nat.le_refl _
  | succ d ih =>
    intro i
    have h := ih i
    have : i + (d + 1) = (i + d) + 1 := by omega
    rw [this, gr_ct1]
    split <;> omega
theorem gr_ctM {i j : Nat} (h : i ≤ j) : gr_ct W i ≤ gr_ct W j := by
  have := gr_ctm (W := W) (j - i) i
  rw [show i + (j - i) = j from by omega] at this; exact this
theorem gr_ctI {s t : Nat} (hs : gr_S W s) (ht : gr_S W t) (h : gr_ct W s = gr_ct W t) : s = t := by
  have A : ∀ {a b : Nat}, gr_S W a → a < b → gr_ct W a < gr_ct W b := by
    intro a b ha hab
    have h1 : gr_ct W (a + 1) = gr_ct W a + 1 := by rw [gr_ct1, if_pos ha]
    have h2 := gr_ctM (W := W) (show a + 1 ≤ b from hab)
    omega
  rcases Nat.lt_trichotomy s t with h1 | h1 | h1
  · have := A hs h1; omega
  · exact h1
  · have := A ht h1; omega
end
