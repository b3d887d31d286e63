/-! Sets of positions in the bits of a long. -/
def bs_b (x : Int64) (i : Nat) : Bool := x.toBitVec.getLsbD i
theorem bs_or (x y : Int64) (i : Nat) : bs_b (x ||| y) i = (bs_b x i || bs_b y i) := by
  unfold bs_b; rw [Int64.toBitVec_or, BitVec.getLsbD_or]
theorem bs_and (x y : Int64) (i : Nat) : bs_b (x &&& y) i = (bs_b x i && bs_b y i) := by
  unfold bs_b; rw [Int64.toBitVec_and, BitVec.getLsbD_and]
theorem bs_0 (i : Nat) : bs_b 0 i = false := by
  unfold bs_b
  show (BitVec.ofNat 64 0).getLsbD i = false
  simp
theorem bs_p {π i : Nat} (h : π < 64) (hi : i < 64) : bs_b (lN (2 ^ π)) i = true ↔ i = π := by
  unfold bs_b
  have e : (lN (2 ^ π)).toBitVec = BitVec.ofNat 64 (2 ^ π) := rfl
  rw [e, BitVec.getLsbD_ofNat]
  simp [Nat.testBit_two_pow, hi]
  omega
theorem bs_ne0 (x : Int64) : ¬ x = 0 ↔ ∃ i, i < 64 ∧ bs_b x i = true := by
  constructor
  · intro h
    apply Classical.byContradiction
    intro hn
    apply h
    have : x.toBitVec = (0 : Int64).toBitVec := by
      apply BitVec.eq_of_getLsbD_eq
      intro i hi
      have h0 : bs_b 0 i = false := bs_0 i
      have hx : bs_b x i = false := by
        cases hc : bs_b x i with
        | false => rfl
        | true => exact absurd ⟨i, hi, hc⟩ hn
      unfold bs_b at h0 hx
      rw [hx, h0]
    exact Int64.toBitVec_inj.mp this
  · rintro ⟨i, _, h⟩ rfl
    rw [bs_0] at h; exact Bool.noConfusion h
/-- the bits of x are the numbers of the positions in F -/
def bs_B (W : Nat → Nat) (x : Int64) (F : Nat → Prop) : Prop := ∀ b, b < 64 → (bs_b x b = true ↔ ∃ s, F s ∧ gr_ct W s + 1 = b)
/-- the followers' bits -/
def bs_F (W : Nat → Nat) (f : Nat → Int64) (O : Nat → Nat → Prop) : Prop := ∀ p q, p < 64 → q < 64 → (bs_b (f p) q = true ↔ ∃ s t, O s t ∧ gr_ct W s + 1 = p ∧ gr_ct W t + 1 = q)
/-- what addFollowers makes of the followers -/
def bs_add (f : Nat → Int64) (st ad : Int64) : Nat → Int64 := fun s => if s < 64 ∧ bs_b st s = true then f s ||| ad else f s
section
variable {W : Nat → Nat}
theorem bs_B0 : bs_B W 0 (fun _ => False) := by
  intro b _
  rw [bs_0]
  exact ⟨fun h => Bool.noConfusion h, fun ⟨_, h, _⟩ => h.elim⟩
theorem bs_Bor {x y : Int64} {F H : Nat → Prop} (h1 : bs_B W x F) (h2 : bs_B W y H) : bs_B W (x ||| y) (fun s => F s ∨ H s) := by
  intro b hb
  rw [bs_or, Bool.or_eq_true, h1 b hb, h2 b hb]
  constructor
  · rintro (⟨s, h, e⟩ | ⟨s, h, e⟩)
    · exact ⟨s, Or.inl h, e⟩
    · exact ⟨s, Or.inr h, e⟩
  · rintro ⟨s, h | h, e⟩
    · exact Or.inl ⟨s, h, e⟩
    · exact Or.inr ⟨s, h, e⟩
theorem bs_Bc {x : Int64} {F H : Nat → Prop} (h1 : bs_B W x F) (h : ∀ s, F s ↔ H s) : bs_B W x H := by
  intro b hb
  rw [h1 b hb]
  exact ⟨fun ⟨s, a, e⟩ => ⟨s, (h s).mp a, e⟩, fun ⟨s, a, e⟩ => ⟨s, (h s).mpr a, e⟩⟩
theorem bs_B1 {s : Nat} (h : gr_ct W s + 1 < 64) : bs_B W (lN (2 ^ (gr_ct W s + 1))) (fun q => q = s) := by
  intro b hb
  rw [bs_p h hb]
  constructor
  · intro e; exact ⟨s, rfl, e.symm⟩
  · rintro ⟨q, rfl, e⟩; exact e.symm
theorem bs_Fadd {f : Nat → Int64} {O : Nat → Nat → Prop} {st ad : Int64} {L F : Nat → Prop} (h : bs_F W f O) (h1 : bs_B W st L) (h2 : bs_B W ad F) :
    bs_F W (bs_add f st ad) (fun s t => O s t ∨ (L s ∧ F t)) := by
  intro p q hp hq
  unfold bs_add
  by_cases c : bs_b st p = true
  · rw [if_pos ⟨hp, c⟩, bs_or, Bool.or_eq_true, h p q hp hq, h2 q hq]
    constructor
    · rintro (⟨s, t, e1, e2⟩ | ⟨t, e1, e2⟩)
      · exact ⟨s, t, Or.inl e1, e2⟩
      · obtain ⟨s, e3, e4⟩ := (h1 p hp).mp c
        exact ⟨s, t, Or.inr ⟨e3, e1⟩, e4, e2⟩
    · rintro ⟨s, t, e1 | ⟨_, e1⟩, e2, e3⟩
      · exact Or.inl ⟨s, t, e1, e2, e3⟩
      · exact Or.inr ⟨t, e1, e3⟩
  · rw [if_neg (fun h => c h.2), h p q hp hq]
    constructor
    · rintro ⟨s, t, e1, e2⟩; exact ⟨s, t, Or.inl e1, e2⟩
    · rintro ⟨s, t, e1 | ⟨e1, _⟩, e2, e3⟩
      · exact ⟨s, t, e1, e2, e3⟩
      · exact absurd ((h1 p hp).mpr ⟨s, e1, e2⟩) c
theorem bs_Fc {f : Nat → Int64} {O O' : Nat → Nat → Prop} (h : bs_F W f O) (e : ∀ s t, O s t ↔ O' s t) : bs_F W f O' := by
  intro p q hp hq
  rw [h p q hp hq]
  exact ⟨fun ⟨s, t, a, b⟩ => ⟨s, t, (e s t).mp a, b⟩, fun ⟨s, t, a, b⟩ => ⟨s, t, (e s t).mpr a, b⟩⟩
end
