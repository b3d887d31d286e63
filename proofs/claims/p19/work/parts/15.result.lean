/-! What compiling makes, as the search needs it. -/
/-- which letters take which positions in, up to character i -/
def xb_S (W : Nat → Nat) (i : Nat) (sl : Nat → Int64) : Prop := ∀ c b, gr_L c → b < 64 → (bs_b (sl (c - 97)) b = true ↔ ∃ j, j < i ∧ ft_x W c b j)
def xb_R (W : Nat → Nat) (m : Nat) (fo sl : Nat → Int64) (fin : Int64) (sh : Int32) : Prop :=
  ∃ n0, sh = nI n0 ∧ n0 ≤ 64 ∧ fg_P (gr_E W) 0 m 0 m n0 ∧ (∀ k, fg_P (gr_E W) 0 m 0 m k → n0 ≤ k) ∧ sm_A m (sm_G W m) (sm_R W m) (sm_S W m) (xr_FO fo) ∧
    (∀ p, p < 64 → (bs_b fin p = true ↔ sm_R W m p m)) ∧ xb_S W m sl ∧ gr_ct W m ≤ 63
section
variable {W : Nat → Nat} {m : Nat}
theorem xb_ct {s : Nat} (hm : gr_ct W m ≤ 63) (hS : gr_S W s) (hs : s < m) : gr_ct W s + 1 < 64 := by
  have h1 := xs_ctS hS
  have h2 := gr_ctM (W := W) (show s + 1 ≤ m from hs)
  omega
theorem xb_fo (hm : gr_ct W m ≤ 63) {F L : Nat → Prop} {n : Nat} {R : Nat → Nat → Prop} (hG : fg_G (gr_E W) (gr_tg W m) (gr_S W) 0 m F L n R) {first : Int64} {fo : Nat → Int64}
    (h1 : bs_B W first F) (h2 : bs_F W fo R) (p q : Nat) : xr_FO (vp_updL fo 0 first) p q ↔ ∃ t g, sm_S W m q t g ∧ sm_R W m p t := by
  obtain ⟨_, _, _, f, l, o, _, _⟩ := hG
  unfold xr_FO
  by_cases c : p = 0
  · subst c
    have e : vp_updL fo 0 first 0 = first := pk_uLs
    rw [e]
    constructor
    · rintro ⟨_, hq, hb⟩
      obtain ⟨s, hs, e⟩ := (h1 q hq).mp hb
      obtain ⟨g1, _, g3, g4⟩ := (f s).mp hs
      exact ⟨s, _, ⟨g1, g3, e, rfl⟩, Or.inl ⟨rfl, g4⟩⟩
    · rintro ⟨t, g, ⟨g1, g2, g3, _⟩, ⟨_, h⟩ | ⟨s, _, _, h, _⟩⟩
      · have hq := xb_ct hm g1 g2
        exact ⟨by omega, by omega, (h1 q (by omega)).mpr ⟨t, (f t).mpr ⟨g1, Nat.zero_le _, g2, h⟩, g3⟩⟩
      · omega
  · rw [pk_uLn c]
    constructor
    · rintro ⟨hp, hq, hb⟩
      obtain ⟨s, t, hR, e1, e2⟩ := (h2 p q hp hq).mp hb
      obtain ⟨g1, g2, _, g4, _, g6, g7⟩ := (o s t).mp hR
      exact ⟨t, _, ⟨g2, g6, e2, rfl⟩, Or.inr ⟨s, g1, g4, e1, g7⟩⟩
    · rintro ⟨t, g, ⟨g1, g2, g3, _⟩, ⟨h, _⟩ | ⟨s, k1, k2, k3, k4⟩⟩
      · exact absurd h c
      · have hq := xb_ct hm g1 g2
        have hp := xb_ct hm k1 k2
        exact ⟨by omega, by omega, (h2 p q (by omega) (by omega)).mpr ⟨s, t, (o s t).mpr ⟨k1, g1, Nat.zero_le _, k2, Nat.zero_le _, g2, k4⟩, k3, g3⟩⟩
theorem xb_fin {F L : Nat → Prop} {n : Nat} {R : Nat → Nat → Prop} (hG : fg_G (gr_E W) (gr_tg W m) (gr_S W) 0 m F L n R) {last fin : Int64} (h1 : bs_B W last L)
    (h2 : fin = if n = 0 then last ||| 1 else last) : ∀ p, p < 64 → (bs_b fin p = true ↔ sm_R W m p m) := by
  have hN := fg_null hG
  obtain ⟨_, _, _, f, l, o, _, _⟩ := hG
  intro p hp
  have hl : bs_b last p = true ↔ ∃ s, gr_S W s ∧ s < m ∧ gr_ct W s + 1 = p ∧ fg_P (gr_E W) 0 m (gr_tg W m s) m 0 := by
    rw [h1 p hp]
    constructor
    · rintro ⟨s, hs, e⟩
      obtain ⟨g1, _, g3, g4⟩ := (l s).mp hs
      exact ⟨s, g1, g3, e, g4⟩
    · rintro ⟨s, g1, g3, e, g4⟩
      exact ⟨s, (l s).mpr ⟨g1, Nat.zero_le _, g3, g4⟩, e⟩
  unfold sm_R
  by_cases c : n = 0
  · rw [h2, if_pos c, bs_or, Bool.or_eq_true, hl, xr_b1 hp]
    constructor
    · rintro (h | h)
      · exact Or.inr h
      · exact Or.inl ⟨h, hN.mp c⟩
    · rintro (⟨h, _⟩ | h)
      · exact Or.inr h
      · exact Or.inl h
  · rw [h2, if_neg c, hl]
    constructor
    · intro h; exact Or.inr h
    · rintro (⟨_, h⟩ | h)
      · exact absurd (hN.mpr h) c
      · exact h
/-- the start of reading -/
theorem xb_I0 (hV : gr_V W m) {uf ul : Nat → Int64} {us : Nat → Int32} {bf bl : Nat → Int64} {bs : Nat → Int32} {fo : Nat → Int64} (e1 : uf 0 = 0) (e2 : ul 0 = 0) (e3 : us 0 = nI 64) (e4 : bf 0 = 0) (e5 : bl 0 = 0) (e6 : bs 0 = 0)
    (e7 : ∀ p, p < 64 → fo p = 0) : xl_I W m 1 (nI 0) uf ul us bf bl bs 0 0 0 fo := by
  obtain ⟨w1, w2, _⟩ := hV
  have hd : gr_dp W 1 = 0 + 1 := by rw [gr_dp1, if_pos w2]; rfl
  have hsk : gr_sk W 1 0 = 0 := by rw [gr_sk1, if_pos ⟨w2, rfl⟩]
  have hic : gr_ic W 1 = false := by rw [gr_ic1]; simp [w2, gr_ic]
  refine ⟨1, fun _ _ => False, fun _ _ => False, ⟨0, fun _ => 1, fun _ => 1, fun _ _ _ => False, hd, rfl, ?_, fun j hj => absurd hj (by omega), rfl, fun j y _ h1 h2 => by omega, fun s t => by simp⟩, xs_pnil hic (Or.inl w2), ?_⟩
  · intro j hj
    have : j = 0 := by omega
    subst this
    rw [hsk, e1, e2, e3, e4, e5, e6]
    exact ⟨_, _, 64, _, _, _, 0, _, gs_open w2, fg_nil 1, bs_B0, bs_B0, rfl, Nat.le_refl _, bs_B0, bs_B0, nI_0.symm, by omega, fun s t => by simp⟩
  · intro p q hp hq
    rw [e7 p hp, bs_0]
    exact ⟨fun h => Bool.noConfusion h, fun ⟨_, _, h, _⟩ => by simp at h⟩
theorem xb_S0 (h0 : W 0 = 40) {sl : Nat → Int64} (h : ∀ c, c < 26 → sl c = 0) : xb_S W 1 sl := by
  intro c b hc hb
  rw [h (c - 97) (by omega), bs_0]
  refine ⟨fun h => Bool.noConfusion h, ?_⟩
  rintro ⟨j, hj, h⟩
  have : j = 0 := by omega
  subst this
  rcases h with ⟨h, _⟩ | ⟨h, _⟩ | ⟨h, _⟩
  · omega
  · omega
  · simp [gr_ic] at h
theorem xb_Sn {i : Nat} {sl : Nat → Int64} (h : xb_S W i sl) (hn : ∀ c b, gr_L c → ¬ ft_x W c b i) : xb_S W (i + 1) sl := by
  intro c b hc hb
  rw [h c b hc hb]
  constructor
  · rintro ⟨j, hj, e⟩; exact ⟨j, by omega, e⟩
  · rintro ⟨j, hj, e⟩
    by_cases c' : j = i
    · subst c'; exact absurd e (hn c b hc)
    · exact ⟨j, by omega, e⟩
/-- a letter is taken in at the position π -/
theorem xb_Sl {i π : Nat} {sl : Nat → Int64} (h : xb_S W i sl) (hi : gr_L (W i)) (hπ : π < 64) (e : ∀ b, ft_x W (W i) b i ↔ b = π) :
    xb_S W (i + 1) (vp_updL sl (W i - 97) (sl (W i - 97) ||| lN (2 ^ π))) := by
  intro c b hc hb
  by_cases c' : c = W i
  · subst c'
    rw [pk_uLs, bs_or, Bool.or_eq_true, h _ b hc hb, bs_p hπ hb]
    constructor
    · rintro (⟨j, hj, e'⟩ | e')
      · exact ⟨j, by omega, e'⟩
      · exact ⟨i, by omega, (e b).mpr e'⟩
    · rintro ⟨j, hj, e'⟩
      by_cases c'' : j = i
      · subst c''; exact Or.inr ((e b).mp e')
      · exact Or.inl ⟨j, by omega, e'⟩
  · rw [pk_uLn (by omega), h c b hc hb]
    constructor
    · rintro ⟨j, hj, e'⟩; exact ⟨j, by omega, e'⟩
    · rintro ⟨j, hj, e'⟩
      by_cases c'' : j = i
      · subst c''
        exfalso
        rcases e' with ⟨q, _⟩ | ⟨q, _⟩ | ⟨_, q, _⟩ <;> omega
      · exact ⟨j, by omega, e'⟩
theorem xb_Sd {i : Nat} {sl : Nat → Int64} (h : xb_S W i sl) (hi : W i = 46) (hic : gr_ic W i = false) (hπ : gr_ct W i + 1 < 64) :
    xb_S W (i + 1) (fun s => if s < 26 then sl s ||| lN (2 ^ (gr_ct W i + 1)) else sl s) := by
  intro c b hc hb
  dsimp only
  rw [if_pos (by omega), bs_or, Bool.or_eq_true, h _ b hc hb, bs_p hπ hb]
  constructor
  · rintro (⟨j, hj, e'⟩ | e')
    · exact ⟨j, by omega, e'⟩
    · exact ⟨i, by omega, Or.inr (Or.inl ⟨hi, e'.symm⟩)⟩
  · rintro ⟨j, hj, e'⟩
    by_cases c'' : j = i
    · subst c''
      right
      rcases e' with ⟨q, _⟩ | ⟨_, q⟩ | ⟨q, _⟩
      · omega
      · exact q.symm
      · rw [hic] at q; exact Bool.noConfusion q
    · exact Or.inl ⟨j, by omega, e'⟩
end
