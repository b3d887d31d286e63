section
/-! Rows pasted from kit/laws/BITS. -/
theorem s_l : ∀ n, n < 32 → ((nI n &&& 31).toBitVec.smod 32).toNat = n := by decide +kernel
theorem ts_nf {x : Bool} (h : ¬ x = false) : x = true := by cases x <;> first | rfl | exact absurd rfl h
theorem ts_nt {x : Bool} (h : ¬ x = true) : x = false := by cases x <;> first | rfl | exact absurd rfl h
theorem ts_bit {w : Int64} {s : UInt64} {j : Nat} (hj : j < 64) (hs : s.toNat = j) : ((w.toUInt64 >>> s).toInt64 &&& 1) = 0 ↔ w.toBitVec.getLsbD j = false := by
  have e : (w.toUInt64 >>> s).toInt64.toBitVec = w.toBitVec >>> j := by
    apply BitVec.eq_of_toNat_eq
    show (w.toUInt64 >>> s).toNat = _
    rw [UInt64.toNat_shiftRight, hs, Nat.mod_eq_of_lt hj, BitVec.toNat_ushiftRight]
    rfl
  rw [← Int64.toBitVec_inj, Int64.toBitVec_and, e]
  show w.toBitVec >>> j &&& 1#64 = 0#64 ↔ _
  constructor
  · intro h
    have t := congrArg (fun x => x.getLsbD 0) h
    simpa using t
  · intro h
    apply BitVec.eq_of_getLsbD_eq
    intro i hi
    cases i with
    | zero => simp [h]
    | succ i => simp
theorem wb_tb (n : Nat) : (lN n).toBitVec = BitVec.ofNat 64 n := rfl
theorem wb_inj {a b : Int64} (h : a.toBitVec = b.toBitVec) : a = b := Int64.toBitVec_inj.mp h
theorem wb_tn {n : Nat} (h : n < 2 ^ 64) : (lN n).toBitVec.toNat = n := by rw [wb_tb, BitVec.toNat_ofNat, Nat.mod_eq_of_lt h]
theorem wb_of (x : Int64) : ∃ n, n < 2 ^ 64 ∧ x = lN n := ⟨x.toBitVec.toNat, x.toBitVec.isLt, wb_inj (by rw [wb_tb]; simp)⟩
theorem wb_c : ∀ k, k < 64 → ((nI k).toInt64 &&& 63) = lN k := by decide +kernel
theorem wb_cu : ∀ k, k < 64 → ((nI k).toInt64.toUInt64 &&& Int64.toUInt64 63) = UInt64.ofNat k := by decide +kernel
theorem wb_sm : ∀ k, k < 64 → (BitVec.ofNat 64 k).smod 64 = BitVec.ofNat 64 k := by decide +kernel
theorem wb_pw {a b : Nat} (h : a ≤ b) : 2 ^ b = 2 ^ a * 2 ^ (b - a) := by rw [← Nat.pow_add]; congr 1; omega
theorem wb_lt2 {a b : Nat} (h : a < b) : 2 ^ a < 2 ^ b := Nat.pow_lt_pow_right (by decide) h
theorem wb_mod (n : Nat) : lN n = lN (n % 2 ^ 64) := wb_inj (by rw [wb_tb, wb_tb]; apply BitVec.eq_of_toNat_eq; rw [BitVec.toNat_ofNat, BitVec.toNat_ofNat, Nat.mod_mod])
theorem wb_shr {n k : Nat} (hn : n < 2 ^ 64) (hk : k < 64) : ((lN n).toUInt64 >>> ((nI k).toInt64.toUInt64 &&& Int64.toUInt64 63)).toInt64 = lN (n / 2 ^ k) := by
  rw [wb_cu k hk]
  apply wb_inj
  apply BitVec.eq_of_toNat_eq
  show ((lN n).toUInt64 >>> UInt64.ofNat k).toNat = (BitVec.ofNat 64 _).toNat
  have h1 : (UInt64.ofNat k).toNat = k := by
    show (BitVec.ofNat 64 k).toNat = k
    rw [BitVec.toNat_ofNat, Nat.mod_eq_of_lt (by omega)]
  have h2 : (lN n).toUInt64.toNat = n := wb_tn hn
  rw [UInt64.toNat_shiftRight, h1, h2, Nat.mod_eq_of_lt hk, Nat.shiftRight_eq_div_pow, BitVec.toNat_ofNat, Nat.mod_eq_of_lt (Nat.lt_of_le_of_lt (Nat.div_le_self _ _) hn)]
theorem wb_shl (n : Nat) {k : Nat} (hk : k < 64) : lN n <<< ((nI k).toInt64 &&& 63) = lN (n * 2 ^ k) := by
  rw [wb_c k hk]
  apply wb_inj
  rw [Int64.toBitVec_shiftLeft, wb_tb, wb_tb, wb_tb, wb_sm k hk]
  apply BitVec.eq_of_toNat_eq
  rw [BitVec.shiftLeft_eq', BitVec.toNat_shiftLeft, BitVec.toNat_ofNat, BitVec.toNat_ofNat, BitVec.toNat_ofNat, Nat.mod_eq_of_lt (show k < 2 ^ 64 by omega), Nat.shiftLeft_eq, Nat.mul_mod, Nat.mod_mod, ← Nat.mul_mod]
theorem wb_and {a b : Nat} (ha : a < 2 ^ 64) (hb : b < 2 ^ 64) : lN a &&& lN b = lN (a &&& b) := by
  apply wb_inj
  rw [Int64.toBitVec_and, wb_tb, wb_tb, wb_tb]
  apply BitVec.eq_of_toNat_eq
  rw [BitVec.toNat_and, BitVec.toNat_ofNat, BitVec.toNat_ofNat, BitVec.toNat_ofNat, Nat.mod_eq_of_lt ha, Nat.mod_eq_of_lt hb, Nat.mod_eq_of_lt (Nat.and_lt_two_pow _ hb)]
theorem wb_or {a b : Nat} (ha : a < 2 ^ 64) (hb : b < 2 ^ 64) : lN a ||| lN b = lN (a ||| b) := by
  apply wb_inj
  rw [Int64.toBitVec_or, wb_tb, wb_tb, wb_tb]
  apply BitVec.eq_of_toNat_eq
  rw [BitVec.toNat_or, BitVec.toNat_ofNat, BitVec.toNat_ofNat, BitVec.toNat_ofNat, Nat.mod_eq_of_lt ha, Nat.mod_eq_of_lt hb, Nat.mod_eq_of_lt (Nat.or_lt_two_pow ha hb)]
theorem wb_mask {n k : Nat} (hn : n < 2 ^ 64) (hk : k < 64) : lN n &&& lN (2 ^ k - 1) = lN (n % 2 ^ k) := by
  rw [wb_and hn (by have := wb_lt2 hk; omega), Nat.and_two_pow_sub_one_eq_mod]
theorem wb_a1 {n : Nat} (hn : n < 2 ^ 64) : lN n &&& 1 = lN (n % 2) := wb_mask (k := 1) hn (by decide)
theorem wb_bit {n k : Nat} (hn : n < 2 ^ 64) (hk : k < 64) : ((lN n).toUInt64 >>> ((nI k).toInt64.toUInt64 &&& Int64.toUInt64 63)).toInt64 &&& 1 = lN (n / 2 ^ k % 2) := by
  rw [wb_shr hn hk, wb_a1 (Nat.lt_of_le_of_lt (Nat.div_le_self _ _) hn)]
theorem u_tn {n : Nat} (h : n < 2 ^ 64) : (UInt64.ofNat n).toNat = n := Nat.mod_eq_of_lt h
theorem g_or {k p a b : Nat} (hp : 2 ^ k = p) (ha : a < p) (h : b * p + a < 2 ^ 64) : lN (b * p) ||| lN a = lN (b * p + a) := by
  subst hp
  have h1 : b * 2 ^ k ||| a = b * 2 ^ k + a := by rw [← Nat.shiftLeft_eq, Nat.shiftLeft_add_eq_or_of_lt ha]
  have h3 : UInt64.ofNat (b * 2 ^ k) ||| UInt64.ofNat a = UInt64.ofNat (b * 2 ^ k + a) := UInt64.toNat_inj.mp (by rw [UInt64.toNat_or, u_tn (by omega), u_tn (by omega), u_tn h, h1])
  have h2 := congrArg UInt64.toInt64 h3
  exact h2
theorem g_or' {k p a b : Nat} (hp : 2 ^ k = p) (ha : a < p) (h : a + b * p < 2 ^ 64) : lN a ||| lN (b * p) = lN (a + b * p) := by
  rw [Int64.or_comm, g_or hp ha (by omega), Nat.add_comm]
end
section
/-! Fragments of a graph whose edges have owners. Ed x y z c: the edge from y to z of cost c that character x owns. -/
section
variable (Ed : Nat → Nat → Nat → Nat → Prop)
/-- a path from u to v of cost k over edges owned by characters in lo .. hi-1 -/
def fg_P (lo hi u v k : Nat) : Prop :=
  ∀ S : Nat → Nat → Prop, S u 0 → (∀ x y z c j, lo ≤ x → x < hi → Ed x y z c → S y j → S z (j + c)) → S v k
end
section
variable {Ed : Nat → Nat → Nat → Nat → Prop}
theorem fg_P0 {lo hi u : Nat} : fg_P Ed lo hi u u 0 := fun _ h _ => h
theorem fg_Pe {lo hi u y j x z c : Nat} (h : fg_P Ed lo hi u y j) (h1 : lo ≤ x) (h2 : x < hi) (e : Ed x y z c) : fg_P Ed lo hi u z (j + c) :=
  fun S h0 hs => hs x y z c j h1 h2 e (h S h0 hs)
theorem fg_P1 {lo hi y x z c : Nat} (h1 : lo ≤ x) (h2 : x < hi) (e : Ed x y z c) : fg_P Ed lo hi y z c := by
  have h := fg_Pe (fg_P0 (Ed := Ed) (lo := lo) (hi := hi) (u := y)) h1 h2 e
  rw [Nat.zero_add] at h; exact h
theorem fg_Pm {lo hi lo' hi' u v k : Nat} (h : fg_P Ed lo hi u v k) (h1 : lo' ≤ lo) (h2 : hi ≤ hi') : fg_P Ed lo' hi' u v k :=
  fun S h0 hs => h S h0 (fun x y z c j a b e s => hs x y z c j (by omega) (by omega) e s)
theorem fg_Pt {lo hi u v w k j : Nat} (h : fg_P Ed lo hi u v k) (g : fg_P Ed lo hi v w j) : fg_P Ed lo hi u w (k + j) := by
  intro S h0 hs
  have hv := h S h0 hs
  refine g (fun z i => S z (k + i)) hv ?_
  intro x y z c i a b e s
  have := hs x y z c (k + i) a b e s
  rw [Nat.add_assoc] at this; exact this
theorem fg_Pt0 {lo hi u v w : Nat} (h : fg_P Ed lo hi u v 0) (g : fg_P Ed lo hi v w 0) : fg_P Ed lo hi u w 0 := fg_Pt h g
end
section
variable (Ed : Nat → Nat → Nat → Nat → Prop) (tg : Nat → Nat) (Sr : Nat → Prop)
/-- a fragment from state a to state b: its first and last positions, its least length, who follows whom -/
def fg_G (a b : Nat) (F L : Nat → Prop) (n : Nat) (O : Nat → Nat → Prop) : Prop :=
  a ≤ b ∧
  (∀ x y z c, a ≤ x → x < b → Ed x y z c → a ≤ y ∧ y < b ∧ a ≤ z ∧ z ≤ b) ∧
  (∀ s, Sr s → a ≤ s → s < b → a ≤ tg s ∧ tg s ≤ b) ∧
  (∀ s, F s ↔ Sr s ∧ a ≤ s ∧ s < b ∧ fg_P Ed a b a s 0) ∧
  (∀ s, L s ↔ Sr s ∧ a ≤ s ∧ s < b ∧ fg_P Ed a b (tg s) b 0) ∧
  (∀ s t, O s t ↔ Sr s ∧ Sr t ∧ a ≤ s ∧ s < b ∧ a ≤ t ∧ t < b ∧ fg_P Ed a b (tg s) t 0) ∧
  fg_P Ed a b a b n ∧ (∀ k, fg_P Ed a b a b k → n ≤ k)
/-- who comes back to the entry is a last one: holds for pieces -/
def fg_R (a b : Nat) (L : Nat → Prop) : Prop := ∀ s, Sr s → a ≤ s → s < b → fg_P Ed a b (tg s) a 0 → L s
variable (Ba : Nat → Nat → Prop)
/-- the finished branches behind the parenthesis o, up to the state b, where the next branch begins -/
def fg_U (o b : Nat) (F L : Nat → Prop) (n : Nat) (O : Nat → Nat → Prop) : Prop :=
  o < b ∧
  (∀ x y z c, o ≤ x → x < b → Ed x y z c → o ≤ y ∧ y < b ∧ o < z ∧ z ≤ b ∧ (z = b → y = o ∧ c = 0) ∧ ¬ Ba o y) ∧
  (∀ s, Sr s → o ≤ s → s < b → o < tg s ∧ tg s < b) ∧
  fg_P Ed o b o b 0 ∧
  (∀ s, F s ↔ Sr s ∧ o ≤ s ∧ s < b ∧ fg_P Ed o b o s 0) ∧
  (∀ s, L s ↔ Sr s ∧ o ≤ s ∧ s < b ∧ ∃ p, Ba o p ∧ p < b ∧ fg_P Ed o b (tg s) p 0) ∧
  (∀ s t, O s t ↔ Sr s ∧ Sr t ∧ o ≤ s ∧ s < b ∧ o ≤ t ∧ t < b ∧ fg_P Ed o b (tg s) t 0) ∧
  (n = 64 ∨ ∃ p, Ba o p ∧ p < b ∧ fg_P Ed o b o p n) ∧ (∀ p k, Ba o p → p < b → fg_P Ed o b o p k → n ≤ k)
end
section
variable {Ed : Nat → Nat → Nat → Nat → Prop} {tg : Nat → Nat} {Sr : Nat → Prop}
theorem fg_nil (a : Nat) : fg_G Ed tg Sr a a (fun _ => False) (fun _ => False) 0 (fun _ _ => False) := by
  refine ⟨Nat.le_refl a, fun x y z c h1 h2 => absurd h2 (by omega), fun s _ h1 h2 => absurd h2 (by omega), ?_, ?_, ?_, fg_P0, fun k _ => Nat.zero_le k⟩
  · intro s; refine ⟨False.elim, fun h => ?_⟩; have := h.2.1; have := h.2.2.1; omega
  · intro s; refine ⟨False.elim, fun h => ?_⟩; have := h.2.1; have := h.2.2.1; omega
  · intro s t; refine ⟨False.elim, fun h => ?_⟩; have := h.2.2.1; have := h.2.2.2.1; omega
/-- one position: characters s .. e-1 own together the single edge from s to e -/
theorem fg_one {s e : Nat} (hs : s < e) (ht : tg s = e) (hS : ∀ x, s ≤ x → x < e → (Sr x ↔ x = s))
    (hE : ∀ x y z c, s ≤ x → x < e → Ed x y z c → y = s ∧ z = e ∧ c = 1) (hX : ∃ x, s ≤ x ∧ x < e ∧ Ed x s e 1) :
    fg_G Ed tg Sr s e (fun q => q = s) (fun q => q = s) 1 (fun _ _ => False) ∧ fg_R Ed tg Sr s e (fun q => q = s) := by
  obtain ⟨x0, hx1, hx2, hx3⟩ := hX
  have Ss : Sr s := (hS s (Nat.le_refl s) hs).mpr rfl
  have A : ∀ v k, fg_P Ed s e s v k → (v = s ∧ k = 0) ∨ (v = e ∧ k = 1) := by
    intro v k h
    refine h (fun v k => (v = s ∧ k = 0) ∨ (v = e ∧ k = 1)) (Or.inl ⟨rfl, rfl⟩) ?_
    intro x y z c j h1 h2 hE' hj
    obtain ⟨rfl, rfl, rfl⟩ := hE x y z c h1 h2 hE'
    rcases hj with ⟨_, rfl⟩ | ⟨h, _⟩
    · exact Or.inr ⟨rfl, rfl⟩
    · omega
  have B : ∀ v k, fg_P Ed s e e v k → v = e := by
    intro v k h
    refine h (fun v _ => v = e) rfl ?_
    intro x y z c j h1 h2 hE' hj
    obtain ⟨rfl, rfl, rfl⟩ := hE x y z c h1 h2 hE'
    rfl
  refine ⟨⟨Nat.le_of_lt hs, ?_, ?_, ?_, ?_, ?_, fg_P1 hx1 hx2 hx3, ?_⟩, ?_⟩
  · intro x y z c h1 h2 h3
    obtain ⟨rfl, rfl, rfl⟩ := hE x y z c h1 h2 h3; omega
  · intro q hq h1 h2
    have := (hS q h1 h2).mp hq; subst this; omega
  · intro q
    refine ⟨fun h => by subst h; exact ⟨Ss, Nat.le_refl _, hs, fg_P0⟩, fun h => (hS q h.2.1 h.2.2.1).mp h.1⟩
  · intro q
    refine ⟨fun h => by subst h; refine ⟨Ss, Nat.le_refl _, hs, ?_⟩; rw [ht]; exact fg_P0, fun h => (hS q h.2.1 h.2.2.1).mp h.1⟩
  · intro q t
    refine ⟨False.elim, fun ⟨h1, h2, h3, h4, h5, h6, h7⟩ => ?_⟩
    have e1 := (hS q h3 h4).mp h1; have e2 := (hS t h5 h6).mp h2
    subst e1; rw [ht] at h7; have := B _ _ h7; omega
  · intro k h
    rcases A _ _ h with ⟨h, _⟩ | ⟨_, h⟩ <;> omega
  · intro q hq h1 h2 _; exact (hS q h1 h2).mp hq
/-- paths in two fragments in a row -/
theorem fg_catL {a b c : Nat} (hE1 : ∀ x y z w, a ≤ x → x < b → Ed x y z w → a ≤ y ∧ y < b ∧ a ≤ z ∧ z ≤ b)
    (hE2 : ∀ x y z w, b ≤ x → x < c → Ed x y z w → b ≤ y ∧ y < c ∧ b ≤ z ∧ z ≤ c) {u v k : Nat} (hu2 : u ≤ b) (h : fg_P Ed a c u v k) :
    (v ≤ b ∧ fg_P Ed a b u v k) ∨ (b ≤ v ∧ ∃ i j, k = i + j ∧ fg_P Ed a b u b i ∧ fg_P Ed b c b v j) := by
  refine h (fun v k => (v ≤ b ∧ fg_P Ed a b u v k) ∨ (b ≤ v ∧ ∃ i j, k = i + j ∧ fg_P Ed a b u b i ∧ fg_P Ed b c b v j)) (Or.inl ⟨hu2, fg_P0⟩) ?_
  intro x y z w i h1 h2 hE hS
  by_cases hx : x < b
  · obtain ⟨_, g2, _, g4⟩ := hE1 x y z w h1 hx hE
    rcases hS with ⟨_, hp⟩ | ⟨hb, _⟩
    · exact Or.inl ⟨g4, fg_Pe hp h1 hx hE⟩
    · omega
  · obtain ⟨g1, _, g3, _⟩ := hE2 x y z w (by omega) h2 hE
    rcases hS with ⟨hb, hp⟩ | ⟨hb, p, q, e, hp, hq⟩
    · have : y = b := by omega
      subst this
      exact Or.inr ⟨g3, i, w, rfl, hp, fg_P1 (by omega) h2 hE⟩
    · exact Or.inr ⟨g3, p, q + w, by omega, hp, fg_Pe hq (by omega) h2 hE⟩
theorem fg_catR {a b c : Nat} (hE1 : ∀ x y z w, a ≤ x → x < b → Ed x y z w → a ≤ y ∧ y < b ∧ a ≤ z ∧ z ≤ b)
    (hE2 : ∀ x y z w, b ≤ x → x < c → Ed x y z w → b ≤ y ∧ y < c ∧ b ≤ z ∧ z ≤ c) {u v k : Nat} (hu : b ≤ u) (h : fg_P Ed a c u v k) :
    b ≤ v ∧ fg_P Ed b c u v k := by
  refine h (fun v k => b ≤ v ∧ fg_P Ed b c u v k) ⟨hu, fg_P0⟩ ?_
  intro x y z w i h1 h2 hE hS
  by_cases hx : x < b
  · have := (hE1 x y z w h1 hx hE).2.1; omega
  · have g := hE2 x y z w (by omega) h2 hE
    exact ⟨g.2.2.1, fg_Pe hS.2 (by omega) h2 hE⟩
theorem fg_null {a b : Nat} {F L : Nat → Prop} {n : Nat} {O : Nat → Nat → Prop} (h : fg_G Ed tg Sr a b F L n O) : n = 0 ↔ fg_P Ed a b a b 0 := by
  obtain ⟨_, _, _, _, _, _, h1, h2⟩ := h
  constructor
  · intro e; subst e; exact h1
  · intro e; have := h2 0 e; omega
theorem fg_cat {a b c : Nat} {F1 L1 F2 L2 : Nat → Prop} {n1 n2 : Nat} {O1 O2 : Nat → Nat → Prop}
    (h1 : fg_G Ed tg Sr a b F1 L1 n1 O1) (h2 : fg_G Ed tg Sr b c F2 L2 n2 O2) :
    fg_G Ed tg Sr a c (fun s => F1 s ∨ (n1 = 0 ∧ F2 s)) (fun s => (n2 = 0 ∧ L1 s) ∨ L2 s) (n1 + n2) (fun s t => O1 s t ∨ O2 s t ∨ (L1 s ∧ F2 t)) := by
  have N1 := fg_null h1
  have N2 := fg_null h2
  obtain ⟨ab, E1, T1, f1, l1, o1, p1, m1⟩ := h1
  obtain ⟨bc, E2, T2, f2, l2, o2, p2, m2⟩ := h2
  have M1 : ∀ {u v k}, fg_P Ed a b u v k → fg_P Ed a c u v k := fun h => fg_Pm h (Nat.le_refl _) bc
  have M2 : ∀ {u v k}, fg_P Ed b c u v k → fg_P Ed a c u v k := fun h => fg_Pm h ab (Nat.le_refl _)
  refine ⟨by omega, ?_, ?_, ?_, ?_, ?_, fg_Pt (M1 p1) (M2 p2), ?_⟩
  · intro x y z w hx hx' hE
    by_cases h : x < b
    · have := E1 x y z w hx h hE; omega
    · have := E2 x y z w (by omega) hx' hE; omega
  · intro s hs h1 h2
    by_cases h : s < b
    · have := T1 s hs h1 h; omega
    · have := T2 s hs (by omega) h2; omega
  · intro s
    dsimp only
    rw [f1, f2, N1]
    constructor
    · rintro (⟨hs, q1, q2, q3⟩ | ⟨q0, hs, q1, q2, q3⟩)
      · exact ⟨hs, q1, by omega, M1 q3⟩
      · exact ⟨hs, by omega, q2, fg_Pt0 (M1 q0) (M2 q3)⟩
    · rintro ⟨hs, q1, q2, q3⟩
      rcases fg_catL E1 E2 ab q3 with ⟨g1, g2⟩ | ⟨g1, i, j, g2, g3, g4⟩
      · by_cases h : s < b
        · exact Or.inl ⟨hs, q1, h, g2⟩
        · have : s = b := by omega
          subst this
          exact Or.inr ⟨g2, hs, g1, q2, fg_P0⟩
      · have hi : i = 0 := by omega
        have hj : j = 0 := by omega
        subst hi; subst hj
        exact Or.inr ⟨g3, hs, g1, q2, g4⟩
  · intro s
    dsimp only
    rw [l1, l2, N2]
    constructor
    · rintro (⟨q0, hs, q1, q2, q3⟩ | ⟨hs, q1, q2, q3⟩)
      · exact ⟨hs, q1, by omega, fg_Pt0 (M1 q3) (M2 q0)⟩
      · exact ⟨hs, by omega, q2, M2 q3⟩
    · rintro ⟨hs, q1, q2, q3⟩
      by_cases h : s < b
      · have ht := T1 s hs q1 h
        rcases fg_catL E1 E2 ht.2 q3 with ⟨g1, g2⟩ | ⟨g1, i, j, g2, g3, g4⟩
        · have : b = c := by omega
          subst this
          exact Or.inl ⟨fg_P0, hs, q1, h, g2⟩
        · have hi : i = 0 := by omega
          have hj : j = 0 := by omega
          subst hi; subst hj
          exact Or.inl ⟨g4, hs, q1, h, g3⟩
      · have ht := T2 s hs (by omega) q2
        exact Or.inr ⟨hs, by omega, q2, (fg_catR E1 E2 ht.1 q3).2⟩
  · intro s t
    dsimp only
    rw [o1, o2, l1, f2]
    constructor
    · rintro (⟨hs, ht, q1, q2, q3, q4, q5⟩ | ⟨hs, ht, q1, q2, q3, q4, q5⟩ | ⟨⟨hs, q1, q2, q3⟩, ht, q4, q5, q6⟩)
      · exact ⟨hs, ht, q1, by omega, q3, by omega, M1 q5⟩
      · exact ⟨hs, ht, by omega, q2, by omega, q4, M2 q5⟩
      · exact ⟨hs, ht, q1, by omega, by omega, q5, fg_Pt0 (M1 q3) (M2 q6)⟩
    · rintro ⟨hs, ht, q1, q2, q3, q4, q5⟩
      by_cases h : s < b
      · have hT := T1 s hs q1 h
        rcases fg_catL E1 E2 hT.2 q5 with ⟨g1, g2⟩ | ⟨g1, i, j, g2, g3, g4⟩
        · by_cases h' : t < b
          · exact Or.inl ⟨hs, ht, q1, h, q3, h', g2⟩
          · have : t = b := by omega
            subst this
            exact Or.inr (Or.inr ⟨⟨hs, q1, h, g2⟩, ht, g1, q4, fg_P0⟩)
        · have hi : i = 0 := by omega
          have hj : j = 0 := by omega
          subst hi; subst hj
          exact Or.inr (Or.inr ⟨⟨hs, q1, h, g3⟩, ht, g1, q4, g4⟩)
      · have hT := T2 s hs (by omega) q2
        have g := fg_catR E1 E2 hT.1 q5
        exact Or.inr (Or.inl ⟨hs, ht, by omega, q2, g.1, q4, g.2⟩)
  · intro k h
    rcases fg_catL E1 E2 ab h with ⟨g1, g2⟩ | ⟨g1, i, j, g2, g3, g4⟩
    · have : b = c := by omega
      subst this
      have := m1 k g2
      have := m2 0 fg_P0
      omega
    · have := m1 i g3
      have := m2 j g4
      omega
/-- a postfix operator q behind the piece a .. q-1: st, it may repeat; sk, it may be left out -/
theorem fg_op {a q : Nat} {F L : Nat → Prop} {n : Nat} {O : Nat → Nat → Prop} {st sk : Prop} {n' : Nat}
    (h : fg_G Ed tg Sr a q F L n O) (hR : fg_R Ed tg Sr a q L) (haq : a < q) (hq : ¬ Sr q)
    (hE : ∀ y z c, Ed q y z c ↔ c = 0 ∧ ((sk ∧ y = a ∧ z = q) ∨ (st ∧ y = q ∧ z = a) ∨ (y = q ∧ z = q + 1)))
    (hn0 : sk → n' = 0) (hn1 : ¬ sk → n' = n) :
    fg_G Ed tg Sr a (q + 1) F L n' (fun s t => O s t ∨ (st ∧ L s ∧ F t)) ∧ fg_R Ed tg Sr a (q + 1) L := by
  obtain ⟨_, E, T, f, l, o, p, m⟩ := h
  have M : ∀ {u v k}, fg_P Ed a q u v k → fg_P Ed a (q + 1) u v k := fun h => fg_Pm h (Nat.le_refl _) (by omega)
  have eX : fg_P Ed a (q + 1) q (q + 1) 0 := fg_P1 (x := q) (by omega) (by omega) ((hE _ _ _).mpr ⟨rfl, Or.inr (Or.inr ⟨rfl, rfl⟩)⟩)
  have eB : st → fg_P Ed a (q + 1) q a 0 := fun h => fg_P1 (x := q) (by omega) (by omega) ((hE _ _ _).mpr ⟨rfl, Or.inr (Or.inl ⟨h, rfl, rfl⟩)⟩)
  have eS : sk → fg_P Ed a (q + 1) a q 0 := fun h => fg_P1 (x := q) (by omega) (by omega) ((hE _ _ _).mpr ⟨rfl, Or.inl ⟨h, rfl, rfl⟩⟩)
  have C : ∀ x y z w, a ≤ x → x < q + 1 → Ed x y z w → a ≤ y ∧ y < q + 1 ∧ a ≤ z ∧ z ≤ q + 1 := by
    intro x y z w h1 h2 h3
    by_cases hx : x < q
    · have := E x y z w h1 hx h3; omega
    · have : x = q := by omega
      subst this
      rcases (hE y z w).mp h3 with ⟨_, ⟨_, rfl, rfl⟩ | ⟨_, rfl, rfl⟩ | ⟨rfl, rfl⟩⟩ <;> omega
  -- from the entry
  have A : ∀ v k, fg_P Ed a (q + 1) a v k → (v ≤ q ∧ ((∃ k', k' ≤ k ∧ fg_P Ed a q a v k') ∨ (sk ∧ v = q))) ∨ (v = q + 1 ∧ ((∃ k', k' ≤ k ∧ fg_P Ed a q a q k') ∨ sk)) := by
    intro v k h
    refine h (fun v k => (v ≤ q ∧ ((∃ k', k' ≤ k ∧ fg_P Ed a q a v k') ∨ (sk ∧ v = q))) ∨ (v = q + 1 ∧ ((∃ k', k' ≤ k ∧ fg_P Ed a q a q k') ∨ sk))) (Or.inl ⟨by omega, Or.inl ⟨0, Nat.le_refl _, fg_P0⟩⟩) ?_
    intro x y z w j h1 h2 h3 hS
    by_cases hx : x < q
    · obtain ⟨_, g2, _, g4⟩ := E x y z w h1 hx h3
      rcases hS with ⟨_, ⟨k', hk, hp⟩ | ⟨_, e⟩⟩ | ⟨e, _⟩
      · exact Or.inl ⟨g4, Or.inl ⟨k' + w, by omega, fg_Pe hp h1 hx h3⟩⟩
      · omega
      · omega
    · have : x = q := by omega
      subst this
      rcases (hE y z w).mp h3 with ⟨rfl, ⟨hs, rfl, rfl⟩ | ⟨_, rfl, rfl⟩ | ⟨rfl, rfl⟩⟩
      · exact Or.inl ⟨Nat.le_refl _, Or.inr ⟨hs, rfl⟩⟩
      · exact Or.inl ⟨by omega, Or.inl ⟨0, Nat.zero_le _, fg_P0⟩⟩
      · rcases hS with ⟨_, ⟨k', hk, hp⟩ | ⟨hs, _⟩⟩ | ⟨e, _⟩
        · exact Or.inr ⟨rfl, Or.inl ⟨k', hk, hp⟩⟩
        · exact Or.inr ⟨rfl, Or.inr hs⟩
        · omega
  -- from behind a position
  have B : ∀ s, Sr s → a ≤ s → s < q → ∀ v k, fg_P Ed a (q + 1) (tg s) v k → k = 0 →
      (v ≤ q ∧ fg_P Ed a q (tg s) v 0) ∨ (v ≤ q ∧ L s ∧ st ∧ fg_P Ed a q a v 0) ∨ (v = q ∧ L s) ∨ (v = q + 1 ∧ L s) := by
    intro s hs s1 s2 v k h
    have hT := T s hs s1 s2
    refine h (fun v k => k = 0 → (v ≤ q ∧ fg_P Ed a q (tg s) v 0) ∨ (v ≤ q ∧ L s ∧ st ∧ fg_P Ed a q a v 0) ∨ (v = q ∧ L s) ∨ (v = q + 1 ∧ L s)) (fun _ => Or.inl ⟨hT.2, fg_P0⟩) ?_
    intro x y z w j h1 h2 h3 hS hjw
    have hj : j = 0 := by omega
    have hw : w = 0 := by omega
    subst hj; subst hw
    have hS := hS rfl
    by_cases hx : x < q
    · obtain ⟨_, g2, _, g4⟩ := E x y z 0 h1 hx h3
      rcases hS with ⟨_, hp⟩ | ⟨_, hL, hst, hp⟩ | ⟨e, _⟩ | ⟨e, _⟩
      · exact Or.inl ⟨g4, fg_Pe hp h1 hx h3⟩
      · exact Or.inr (Or.inl ⟨g4, hL, hst, fg_Pe hp h1 hx h3⟩)
      · omega
      · omega
    · have : x = q := by omega
      subst this
      have hL : y = a ∨ y = x → L s := by
        intro hy
        rcases hS with ⟨_, hp⟩ | ⟨_, hL, _, _⟩ | ⟨_, hL⟩ | ⟨_, hL⟩
        · rcases hy with rfl | rfl
          · exact hR s hs s1 s2 hp
          · exact (l s).mpr ⟨hs, s1, s2, hp⟩
        · exact hL
        · exact hL
        · exact hL
      rcases (hE y z 0).mp h3 with ⟨_, ⟨hs, rfl, rfl⟩ | ⟨hst, rfl, rfl⟩ | ⟨rfl, rfl⟩⟩
      · exact Or.inr (Or.inr (Or.inl ⟨rfl, hL (Or.inl rfl)⟩))
      · exact Or.inr (Or.inl ⟨by omega, hL (Or.inr rfl), hst, fg_P0⟩)
      · exact Or.inr (Or.inr (Or.inr ⟨rfl, hL (Or.inr rfl)⟩))
  have nq : ∀ s, Sr s → s < q + 1 → s < q := by
    intro s hs h
    by_cases e : s = q
    · subst e; exact absurd hs hq
    · omega
  refine ⟨⟨by omega, C, ?_, ?_, ?_, ?_, ?_, ?_⟩, ?_⟩
  · intro s hs h1 h2
    have := T s hs h1 (nq s hs h2); omega
  · intro s
    rw [f]
    constructor
    · rintro ⟨hs, q1, q2, q3⟩; exact ⟨hs, q1, by omega, M q3⟩
    · rintro ⟨hs, q1, q2, q3⟩
      have q2' := nq s hs q2
      rcases A _ _ q3 with ⟨_, ⟨k', hk, hp⟩ | ⟨_, e⟩⟩ | ⟨e, _⟩
      · have : k' = 0 := by omega
        subst this; exact ⟨hs, q1, q2', hp⟩
      · omega
      · omega
  · intro s
    constructor
    · intro hL
      obtain ⟨hs, q1, q2, q3⟩ := (l s).mp hL
      exact ⟨hs, q1, by omega, fg_Pt0 (M q3) eX⟩
    · rintro ⟨hs, q1, q2, q3⟩
      rcases B s hs q1 (nq s hs q2) _ _ q3 rfl with ⟨e, _⟩ | ⟨e, _⟩ | ⟨_, hL⟩ | ⟨_, hL⟩
      · omega
      · omega
      · exact hL
      · exact hL
  · intro s t
    constructor
    · rintro (h | ⟨hst, hL, hF⟩)
      · obtain ⟨hs, ht, q1, q2, q3, q4, q5⟩ := (o s t).mp h
        exact ⟨hs, ht, q1, by omega, q3, by omega, M q5⟩
      · obtain ⟨hs, q1, q2, q3⟩ := (l s).mp hL
        obtain ⟨ht, r1, r2, r3⟩ := (f t).mp hF
        exact ⟨hs, ht, q1, by omega, r1, by omega, fg_Pt0 (M q3) (fg_Pt0 (eB hst) (M r3))⟩
    · rintro ⟨hs, ht, q1, q2, q3, q4, q5⟩
      have q4' := nq t ht q4
      rcases B s hs q1 (nq s hs q2) _ _ q5 rfl with ⟨_, hp⟩ | ⟨_, hL, hst, hp⟩ | ⟨e, _⟩ | ⟨e, _⟩
      · exact Or.inl ((o s t).mpr ⟨hs, ht, q1, nq s hs q2, q3, q4', hp⟩)
      · exact Or.inr ⟨hst, hL, (f t).mpr ⟨ht, q3, q4', hp⟩⟩
      · omega
      · omega
  · by_cases hs : sk
    · rw [hn0 hs]; exact fg_Pt0 (eS hs) eX
    · rw [hn1 hs]; exact fg_Pt (M p) eX
  · intro k h
    by_cases hs : sk
    · rw [hn0 hs]; exact Nat.zero_le k
    · rw [hn1 hs]
      rcases A _ _ h with ⟨e, _⟩ | ⟨_, ⟨k', hk, hp⟩ | h'⟩
      · omega
      · have := m k' hp; omega
      · exact absurd h' hs
  · intro s hs q1 q2 q3
    rcases B s hs q1 (nq s hs q2) _ _ q3 rfl with ⟨_, hp⟩ | ⟨_, hL, _⟩ | ⟨_, hL⟩ | ⟨_, hL⟩
    · exact hR s hs q1 (nq s hs q2) hp
    · exact hL
    · exact hL
    · exact hL
end
end
section
/-! Unions: the branches behind a parenthesis. -/
section
variable {Ed : Nat → Nat → Nat → Nat → Prop} {tg : Nat → Nat} {Sr : Nat → Prop} {Ba : Nat → Nat → Prop}
theorem fg_open {o : Nat} (hS : ¬ Sr o) (hB : ∀ p, Ba o p → o < p) (hE : ∀ y z c, Ed o y z c ↔ y = o ∧ z = o + 1 ∧ c = 0) :
    fg_U Ed tg Sr Ba o (o + 1) (fun _ => False) (fun _ => False) 64 (fun _ _ => False) := by
  have ho : ∀ s, Sr s → o ≤ s → s < o + 1 → False := by
    intro s hs h1 h2
    have : s = o := by omega
    subst this; exact hS hs
  refine ⟨by omega, ?_, ?_, ?_, ?_, ?_, ?_, Or.inl rfl, ?_⟩
  · intro x y z c h1 h2 h3
    have : x = o := by omega
    subst this
    obtain ⟨rfl, rfl, rfl⟩ := (hE y z c).mp h3
    refine ⟨by omega, by omega, by omega, by omega, fun _ => ⟨rfl, rfl⟩, fun h => ?_⟩
    have := hB _ h; omega
  · intro s hs h1 h2; exact (ho s hs h1 h2).elim
  · exact fg_P1 (x := o) (by omega) (by omega) ((hE _ _ _).mpr ⟨rfl, rfl, rfl⟩)
  · intro s; exact ⟨False.elim, fun h => ho s h.1 h.2.1 h.2.2.1⟩
  · intro s; exact ⟨False.elim, fun h => ho s h.1 h.2.1 h.2.2.1⟩
  · intro s t; exact ⟨False.elim, fun h => ho s h.1 h.2.2.1 h.2.2.2.1⟩
  · intro p k h1 h2 _
    have := hB _ h1; omega
/-- what the bar p (or the end) adds: the branch b .. p-1 becomes finished -/
theorem fg_alt {o b p : Nat} {F1 L1 F2 L2 : Nat → Prop} {n1 n2 : Nat} {O1 O2 : Nat → Nat → Prop}
    (h1 : fg_U Ed tg Sr Ba o b F1 L1 n1 O1) (h2 : fg_G Ed tg Sr b p F2 L2 n2 O2) (hS : ¬ Sr p) (hBp : Ba o p)
    (hBn : ∀ y, b ≤ y → y < p → ¬ Ba o y) (hBo : ¬ Ba o o)
    (hE : ∀ y z c, Ed p y z c ↔ y = o ∧ z = p + 1 ∧ c = 0) (hn : n2 < 64) :
    fg_U Ed tg Sr Ba o (p + 1) (fun s => F1 s ∨ F2 s) (fun s => L1 s ∨ L2 s) (if n2 < n1 then n2 else n1) (fun s t => O1 s t ∨ O2 s t) := by
  obtain ⟨ob, E1, T1, r1, f1, l1, o1, q1, m1⟩ := h1
  obtain ⟨bp, E2, T2, f2, l2, o2, q2, m2⟩ := h2
  have M1 : ∀ {u v k}, fg_P Ed o b u v k → fg_P Ed o (p + 1) u v k := fun h => fg_Pm h (Nat.le_refl _) (by omega)
  have M2 : ∀ {u v k}, fg_P Ed b p u v k → fg_P Ed o (p + 1) u v k := fun h => fg_Pm h (by omega) (by omega)
  -- from the parenthesis
  have A : ∀ v k, fg_P Ed o (p + 1) o v k → (v < b ∧ fg_P Ed o b o v k ∧ (v = o → k = 0)) ∨ (b ≤ v ∧ v ≤ p ∧ fg_P Ed b p b v k) ∨ v = p + 1 := by
    intro v k h
    refine h (fun v k => (v < b ∧ fg_P Ed o b o v k ∧ (v = o → k = 0)) ∨ (b ≤ v ∧ v ≤ p ∧ fg_P Ed b p b v k) ∨ v = p + 1) (Or.inl ⟨ob, fg_P0, fun _ => rfl⟩) ?_
    intro x y z c j g1 g2 g3 hI
    by_cases hx : x < b
    · obtain ⟨e1, e2, e3, e4, e5, _⟩ := E1 x y z c g1 hx g3
      rcases hI with ⟨_, hp, hz⟩ | ⟨e, _⟩ | e
      · by_cases hzb : z = b
        · obtain ⟨rfl, rfl⟩ := e5 hzb
          have := hz rfl
          subst this; subst hzb
          exact Or.inr (Or.inl ⟨Nat.le_refl _, bp, fg_P0⟩)
        · exact Or.inl ⟨by omega, fg_Pe hp g1 hx g3, fun e => by omega⟩
      · omega
      · omega
    · by_cases hxp : x < p
      · obtain ⟨e1, e2, e3, e4⟩ := E2 x y z c (by omega) hxp g3
        rcases hI with ⟨e, _⟩ | ⟨_, _, hp⟩ | e
        · omega
        · exact Or.inr (Or.inl ⟨e3, e4, fg_Pe hp (by omega) hxp g3⟩)
        · omega
      · have : x = p := by omega
        subst this
        obtain ⟨rfl, rfl, rfl⟩ := (hE y z c).mp g3
        exact Or.inr (Or.inr rfl)
  have B : ∀ u, o < u → u < b → ∀ v k, fg_P Ed o (p + 1) u v k → o < v ∧ v < b ∧ fg_P Ed o b u v k := by
    intro u hu1 hu2 v k h
    refine h (fun v k => o < v ∧ v < b ∧ fg_P Ed o b u v k) ⟨hu1, hu2, fg_P0⟩ ?_
    intro x y z c j g1 g2 g3 ⟨i1, i2, i3⟩
    by_cases hx : x < b
    · obtain ⟨e1, e2, e3, e4, e5, _⟩ := E1 x y z c g1 hx g3
      refine ⟨e3, ?_, fg_Pe i3 g1 hx g3⟩
      by_cases hzb : z = b
      · have := (e5 hzb).1; omega
      · omega
    · by_cases hxp : x < p
      · have := (E2 x y z c (by omega) hxp g3).1; omega
      · have : x = p := by omega
        subst this
        have := ((hE y z c).mp g3).1; omega
  have C : ∀ u, b ≤ u → u ≤ p → ∀ v k, fg_P Ed o (p + 1) u v k → b ≤ v ∧ v ≤ p ∧ fg_P Ed b p u v k := by
    intro u hu1 hu2 v k h
    refine h (fun v k => b ≤ v ∧ v ≤ p ∧ fg_P Ed b p u v k) ⟨hu1, hu2, fg_P0⟩ ?_
    intro x y z c j g1 g2 g3 ⟨i1, i2, i3⟩
    by_cases hx : x < b
    · have := (E1 x y z c g1 hx g3).2.1; omega
    · by_cases hxp : x < p
      · have e := E2 x y z c (by omega) hxp g3
        exact ⟨e.2.2.1, e.2.2.2, fg_Pe i3 (by omega) hxp g3⟩
      · have : x = p := by omega
        subst this
        have := ((hE y z c).mp g3).1; omega
  have np : ∀ s, Sr s → s < p + 1 → s < p := by
    intro s hs h
    by_cases e : s = p
    · subst e; exact absurd hs hS
    · omega
  have rb : fg_P Ed o (p + 1) o b 0 := M1 r1
  refine ⟨by omega, ?_, ?_, ?_, ?_, ?_, ?_, ?_, ?_⟩
  · intro x y z c g1 g2 g3
    by_cases hx : x < b
    · obtain ⟨e1, e2, e3, e4, e5, e6⟩ := E1 x y z c g1 hx g3
      exact ⟨e1, by omega, e3, by omega, fun e => by omega, e6⟩
    · by_cases hxp : x < p
      · obtain ⟨e1, e2, e3, e4⟩ := E2 x y z c (by omega) hxp g3
        exact ⟨by omega, by omega, by omega, by omega, fun e => by omega, hBn y e1 e2⟩
      · have : x = p := by omega
        subst this
        obtain ⟨rfl, rfl, rfl⟩ := (hE y z c).mp g3
        exact ⟨by omega, by omega, by omega, by omega, fun _ => ⟨rfl, rfl⟩, hBo⟩
  · intro s hs g1 g2
    by_cases h : s < b
    · have := T1 s hs g1 h; omega
    · have := T2 s hs (by omega) (np s hs g2); omega
  · exact fg_P1 (x := p) (by omega) (by omega) ((hE _ _ _).mpr ⟨rfl, rfl, rfl⟩)
  · intro s
    dsimp only
    rw [f1, f2]
    constructor
    · rintro (⟨hs, g1, g2, g3⟩ | ⟨hs, g1, g2, g3⟩)
      · exact ⟨hs, g1, by omega, M1 g3⟩
      · exact ⟨hs, by omega, by omega, fg_Pt0 rb (M2 g3)⟩
    · rintro ⟨hs, g1, g2, g3⟩
      have g2' := np s hs g2
      rcases A _ _ g3 with ⟨i1, i2, _⟩ | ⟨i1, i2, i3⟩ | i1
      · exact Or.inl ⟨hs, g1, i1, i2⟩
      · exact Or.inr ⟨hs, i1, g2', i3⟩
      · omega
  · intro s
    dsimp only
    rw [l1, l2]
    constructor
    · rintro (⟨hs, g1, g2, p', i1, i2, i3⟩ | ⟨hs, g1, g2, g3⟩)
      · exact ⟨hs, g1, by omega, p', i1, by omega, M1 i3⟩
      · exact ⟨hs, by omega, by omega, p, hBp, by omega, M2 g3⟩
    · rintro ⟨hs, g1, g2, p', i1, i2, i3⟩
      by_cases h : s < b
      · have hT := T1 s hs g1 h
        have := B _ hT.1 hT.2 _ _ i3
        exact Or.inl ⟨hs, g1, h, p', i1, this.2.1, this.2.2⟩
      · have hT := T2 s hs (by omega) (np s hs g2)
        have k := C _ hT.1 hT.2 _ _ i3
        have : p' = p := by
          by_cases e : p' < p
          · exact absurd i1 (hBn p' k.1 e)
          · omega
        subst this
        exact Or.inr ⟨hs, by omega, np s hs g2, k.2.2⟩
  · intro s t
    dsimp only
    rw [o1, o2]
    constructor
    · rintro (⟨hs, ht, g1, g2, g3, g4, g5⟩ | ⟨hs, ht, g1, g2, g3, g4, g5⟩)
      · exact ⟨hs, ht, g1, by omega, g3, by omega, M1 g5⟩
      · exact ⟨hs, ht, by omega, by omega, by omega, by omega, M2 g5⟩
    · rintro ⟨hs, ht, g1, g2, g3, g4, g5⟩
      by_cases h : s < b
      · have hT := T1 s hs g1 h
        have k := B _ hT.1 hT.2 _ _ g5
        exact Or.inl ⟨hs, ht, g1, h, g3, k.2.1, k.2.2⟩
      · have hT := T2 s hs (by omega) (np s hs g2)
        have k := C _ hT.1 hT.2 _ _ g5
        exact Or.inr ⟨hs, ht, by omega, np s hs g2, k.1, np t ht g4, k.2.2⟩
  · by_cases h : n2 < n1
    · rw [if_pos h]; exact Or.inr ⟨p, hBp, by omega, by have := fg_Pt rb (M2 q2); rw [Nat.zero_add] at this; exact this⟩
    · rw [if_neg h]
      rcases q1 with e | ⟨p', i1, i2, i3⟩
      · omega
      · exact Or.inr ⟨p', i1, by omega, M1 i3⟩
  · intro p' k i1 i2 i3
    have hk : n1 ≤ k ∨ n2 ≤ k := by
      rcases A _ _ i3 with ⟨j1, j2, _⟩ | ⟨j1, j2, j3⟩ | j1
      · exact Or.inl (m1 p' k i1 j1 j2)
      · have : p' = p := by
          by_cases e : p' < p
          · exact absurd i1 (hBn p' j1 e)
          · omega
        subst this
        exact Or.inr (m2 k j3)
      · omega
    split <;> omega
/-- the closing parenthesis c -/
theorem fg_close {o b c : Nat} {F1 L1 F2 L2 : Nat → Prop} {n1 n2 : Nat} {O1 O2 : Nat → Nat → Prop}
    (h1 : fg_U Ed tg Sr Ba o b F1 L1 n1 O1) (h2 : fg_G Ed tg Sr b c F2 L2 n2 O2) (hS : ¬ Sr c) (hBo : ¬ Ba o o)
    (hE : ∀ y z w, Ed c y z w ↔ w = 0 ∧ ((Ba o y ∧ y < b ∧ z = c) ∨ (y = c ∧ z = c + 1))) (hn : n2 < 64) (hBl : ∀ y, Ba o y → o < y) :
    fg_G Ed tg Sr o (c + 1) (fun s => F1 s ∨ F2 s) (fun s => L1 s ∨ L2 s) (if n2 < n1 then n2 else n1) (fun s t => O1 s t ∨ O2 s t)
      ∧ fg_R Ed tg Sr o (c + 1) (fun s => L1 s ∨ L2 s) := by
  obtain ⟨ob, E1, T1, r1, f1, l1, o1, q1, m1⟩ := h1
  obtain ⟨bc, E2, T2, f2, l2, o2, q2, m2⟩ := h2
  have M1 : ∀ {u v k}, fg_P Ed o b u v k → fg_P Ed o (c + 1) u v k := fun h => fg_Pm h (Nat.le_refl _) (by omega)
  have M2 : ∀ {u v k}, fg_P Ed b c u v k → fg_P Ed o (c + 1) u v k := fun h => fg_Pm h (by omega) (by omega)
  have eX : fg_P Ed o (c + 1) c (c + 1) 0 := fg_P1 (x := c) (by omega) (by omega) ((hE _ _ _).mpr ⟨rfl, Or.inr ⟨rfl, rfl⟩⟩)
  have eB : ∀ y, Ba o y → y < b → fg_P Ed o (c + 1) y c 0 := fun y h h' => fg_P1 (x := c) (by omega) (by omega) ((hE _ _ _).mpr ⟨rfl, Or.inl ⟨h, h', rfl⟩⟩)
  have A : ∀ v k, fg_P Ed o (c + 1) o v k → (v < b ∧ fg_P Ed o b o v k ∧ (v = o → k = 0)) ∨
      (b ≤ v ∧ v ≤ c ∧ fg_P Ed b c b v k) ∨ ((v = c ∨ v = c + 1) ∧ (fg_P Ed b c b c k ∨ ∃ y, Ba o y ∧ y < b ∧ fg_P Ed o b o y k)) := by
    intro v k h
    refine h (fun v k => (v < b ∧ fg_P Ed o b o v k ∧ (v = o → k = 0)) ∨
      (b ≤ v ∧ v ≤ c ∧ fg_P Ed b c b v k) ∨ ((v = c ∨ v = c + 1) ∧ (fg_P Ed b c b c k ∨ ∃ y, Ba o y ∧ y < b ∧ fg_P Ed o b o y k))) (Or.inl ⟨ob, fg_P0, fun _ => rfl⟩) ?_
    intro x y z w j g1 g2 g3 hI
    by_cases hx : x < b
    · obtain ⟨e1, e2, e3, e4, e5, _⟩ := E1 x y z w g1 hx g3
      rcases hI with ⟨_, hp, hz⟩ | ⟨e, _⟩ | ⟨e, _⟩
      · by_cases hzb : z = b
        · obtain ⟨rfl, rfl⟩ := e5 hzb
          have := hz rfl
          subst this; subst hzb
          exact Or.inr (Or.inl ⟨Nat.le_refl _, bc, fg_P0⟩)
        · exact Or.inl ⟨by omega, fg_Pe hp g1 hx g3, fun e => by omega⟩
      · omega
      · omega
    · by_cases hxc : x < c
      · obtain ⟨e1, e2, e3, e4⟩ := E2 x y z w (by omega) hxc g3
        rcases hI with ⟨e, _⟩ | ⟨_, _, hp⟩ | ⟨e, _⟩
        · omega
        · exact Or.inr (Or.inl ⟨e3, e4, fg_Pe hp (by omega) hxc g3⟩)
        · omega
      · have : x = c := by omega
        subst this
        rcases (hE y z w).mp g3 with ⟨rfl, ⟨i1, i2, rfl⟩ | ⟨rfl, rfl⟩⟩
        · rcases hI with ⟨_, hp, _⟩ | ⟨e, _⟩ | ⟨e, _⟩
          · exact Or.inr (Or.inr ⟨Or.inl rfl, Or.inr ⟨y, i1, i2, hp⟩⟩)
          · omega
          · omega
        · rcases hI with ⟨e, _⟩ | ⟨_, _, hp⟩ | ⟨_, hp⟩
          · omega
          · exact Or.inr (Or.inr ⟨Or.inr rfl, Or.inl hp⟩)
          · exact Or.inr (Or.inr ⟨Or.inr rfl, hp⟩)
  have B : ∀ u, o < u → u < b → ∀ v k, fg_P Ed o (c + 1) u v k → (o < v ∧ v < b ∧ fg_P Ed o b u v k) ∨ ((v = c ∨ v = c + 1) ∧ ∃ y, Ba o y ∧ y < b ∧ fg_P Ed o b u y k) := by
    intro u hu1 hu2 v k h
    refine h (fun v k => (o < v ∧ v < b ∧ fg_P Ed o b u v k) ∨ ((v = c ∨ v = c + 1) ∧ ∃ y, Ba o y ∧ y < b ∧ fg_P Ed o b u y k)) (Or.inl ⟨hu1, hu2, fg_P0⟩) ?_
    intro x y z w j g1 g2 g3 hI
    by_cases hx : x < b
    · obtain ⟨e1, e2, e3, e4, e5, _⟩ := E1 x y z w g1 hx g3
      rcases hI with ⟨i1, i2, i3⟩ | ⟨e, _⟩
      · refine Or.inl ⟨e3, ?_, fg_Pe i3 g1 hx g3⟩
        by_cases hzb : z = b
        · have := (e5 hzb).1; omega
        · omega
      · omega
    · by_cases hxc : x < c
      · have g := E2 x y z w (by omega) hxc g3
        rcases hI with ⟨i1, i2, i3⟩ | ⟨e, _⟩ <;> omega
      · have : x = c := by omega
        subst this
        rcases (hE y z w).mp g3 with ⟨rfl, ⟨i1, i2, rfl⟩ | ⟨rfl, rfl⟩⟩
        · rcases hI with ⟨_, _, hp⟩ | ⟨e, _⟩
          · exact Or.inr ⟨Or.inl rfl, y, i1, i2, hp⟩
          · omega
        · rcases hI with ⟨_, e, _⟩ | ⟨_, hp⟩
          · omega
          · exact Or.inr ⟨Or.inr rfl, hp⟩
  have C : ∀ u, b ≤ u → u ≤ c → ∀ v k, fg_P Ed o (c + 1) u v k → (b ≤ v ∧ v ≤ c ∧ fg_P Ed b c u v k) ∨ (v = c + 1 ∧ fg_P Ed b c u c k) := by
    intro u hu1 hu2 v k h
    refine h (fun v k => (b ≤ v ∧ v ≤ c ∧ fg_P Ed b c u v k) ∨ (v = c + 1 ∧ fg_P Ed b c u c k)) (Or.inl ⟨hu1, hu2, fg_P0⟩) ?_
    intro x y z w j g1 g2 g3 hI
    by_cases hx : x < b
    · have := (E1 x y z w g1 hx g3).2.1
      rcases hI with ⟨e, _⟩ | ⟨e, _⟩ <;> omega
    · by_cases hxc : x < c
      · have e := E2 x y z w (by omega) hxc g3
        rcases hI with ⟨_, _, hp⟩ | ⟨e, _⟩
        · exact Or.inl ⟨e.2.2.1, e.2.2.2, fg_Pe hp (by omega) hxc g3⟩
        · omega
      · have : x = c := by omega
        subst this
        rcases (hE y z w).mp g3 with ⟨rfl, ⟨i1, i2, rfl⟩ | ⟨rfl, rfl⟩⟩
        · rcases hI with ⟨e, _⟩ | ⟨e, _⟩ <;> omega
        · rcases hI with ⟨_, _, hp⟩ | ⟨e, _⟩
          · exact Or.inr ⟨rfl, hp⟩
          · omega
  have nc : ∀ s, Sr s → s < c + 1 → s < c := by
    intro s hs h
    by_cases e : s = c
    · subst e; exact absurd hs hS
    · omega
  have rb : fg_P Ed o (c + 1) o b 0 := M1 r1
  refine ⟨⟨by omega, ?_, ?_, ?_, ?_, ?_, ?_, ?_⟩, ?_⟩
  · intro x y z w g1 g2 g3
    by_cases hx : x < b
    · have := E1 x y z w g1 hx g3; omega
    · by_cases hxc : x < c
      · have := E2 x y z w (by omega) hxc g3; omega
      · have : x = c := by omega
        subst this
        rcases (hE y z w).mp g3 with ⟨rfl, ⟨i1, i2, rfl⟩ | ⟨rfl, rfl⟩⟩
        · have := hBl y i1; omega
        · omega
  · intro s hs g1 g2
    by_cases h : s < b
    · have := T1 s hs g1 h; omega
    · have := T2 s hs (by omega) (nc s hs g2); omega
  · intro s
    dsimp only
    rw [f1, f2]
    constructor
    · rintro (⟨hs, g1, g2, g3⟩ | ⟨hs, g1, g2, g3⟩)
      · exact ⟨hs, g1, by omega, M1 g3⟩
      · exact ⟨hs, by omega, by omega, fg_Pt0 rb (M2 g3)⟩
    · rintro ⟨hs, g1, g2, g3⟩
      have g2' := nc s hs g2
      rcases A _ _ g3 with ⟨i1, i2, _⟩ | ⟨i1, i2, i3⟩ | ⟨i1, _⟩
      · exact Or.inl ⟨hs, g1, i1, i2⟩
      · exact Or.inr ⟨hs, i1, g2', i3⟩
      · omega
  · intro s
    dsimp only
    rw [l1, l2]
    constructor
    · rintro (⟨hs, g1, g2, p', i1, i2, i3⟩ | ⟨hs, g1, g2, g3⟩)
      · exact ⟨hs, g1, by omega, fg_Pt0 (M1 i3) (fg_Pt0 (eB p' i1 i2) eX)⟩
      · exact ⟨hs, by omega, by omega, fg_Pt0 (M2 g3) eX⟩
    · rintro ⟨hs, g1, g2, g3⟩
      by_cases h : s < b
      · have hT := T1 s hs g1 h
        rcases B _ hT.1 hT.2 _ _ g3 with ⟨_, e, _⟩ | ⟨_, hp⟩
        · omega
        · exact Or.inl ⟨hs, g1, h, hp⟩
      · have hT := T2 s hs (by omega) (nc s hs g2)
        rcases C _ hT.1 hT.2 _ _ g3 with ⟨_, e, _⟩ | ⟨_, hp⟩
        · omega
        · exact Or.inr ⟨hs, by omega, nc s hs g2, hp⟩
  · intro s t
    dsimp only
    rw [o1, o2]
    constructor
    · rintro (⟨hs, ht, g1, g2, g3, g4, g5⟩ | ⟨hs, ht, g1, g2, g3, g4, g5⟩)
      · exact ⟨hs, ht, g1, by omega, g3, by omega, M1 g5⟩
      · exact ⟨hs, ht, by omega, by omega, by omega, by omega, M2 g5⟩
    · rintro ⟨hs, ht, g1, g2, g3, g4, g5⟩
      have g4' := nc t ht g4
      by_cases h : s < b
      · have hT := T1 s hs g1 h
        rcases B _ hT.1 hT.2 _ _ g5 with ⟨_, e, hp⟩ | ⟨e, _⟩
        · exact Or.inl ⟨hs, ht, g1, h, g3, e, hp⟩
        · omega
      · have hT := T2 s hs (by omega) (nc s hs g2)
        rcases C _ hT.1 hT.2 _ _ g5 with ⟨e, _, hp⟩ | ⟨e, _⟩
        · exact Or.inr ⟨hs, ht, by omega, nc s hs g2, e, g4', hp⟩
        · omega
  · by_cases h : n2 < n1
    · rw [if_pos h]
      have := fg_Pt (fg_Pt rb (M2 q2)) eX
      rw [Nat.zero_add, Nat.add_zero] at this; exact this
    · rw [if_neg h]
      rcases q1 with e | ⟨p', i1, i2, i3⟩
      · omega
      · have := fg_Pt (fg_Pt (M1 i3) (eB p' i1 i2)) eX
        rw [Nat.add_zero, Nat.add_zero] at this; exact this
  · intro k hk
    have h : n1 ≤ k ∨ n2 ≤ k := by
      rcases A _ _ hk with ⟨e, _⟩ | ⟨_, e, _⟩ | ⟨_, hp | ⟨y, i1, i2, i3⟩⟩
      · omega
      · omega
      · exact Or.inr (m2 k hp)
      · exact Or.inl (m1 y k i1 i2 i3)
    split <;> omega
  · intro s hs g1 g2 g3
    by_cases h : s < b
    · have hT := T1 s hs g1 h
      rcases B _ hT.1 hT.2 _ _ g3 with ⟨e, _⟩ | ⟨e, _⟩ <;> omega
    · have hT := T2 s hs (by omega) (nc s hs g2)
      rcases C _ hT.1 hT.2 _ _ g3 with ⟨e, _⟩ | ⟨e, _⟩ <;> omega
end
end
section
/-! The pattern between two parentheses of its own, W 0 .. W (m-1), and the edges that its characters own. -/
abbrev gr_L (c : Nat) : Prop := 97 ≤ c ∧ c ≤ 122
abbrev gr_O (c : Nat) : Prop := c = 42 ∨ c = 43 ∨ c = 63
/-- within a class, before character i -/
def gr_ic (W : Nat → Nat) : Nat → Bool
  | 0 => false
  | i + 1 => (W i == 91) || (gr_ic W i && !(W i == 93))
/-- the open parentheses before character i -/
def gr_dp (W : Nat → Nat) : Nat → Nat
  | 0 => 0
  | i + 1 => if W i = 40 then gr_dp W i + 1 else if W i = 41 then gr_dp W i - 1 else gr_dp W i
/-- the place of the open parenthesis of depth j -/
def gr_sk (W : Nat → Nat) : Nat → Nat → Nat
  | 0, _ => 0
  | i + 1, j => if W i = 40 ∧ j = gr_dp W i then i else gr_sk W i j
def gr_en (W : Nat → Nat) (x : Nat) : Nat := gr_sk W x (gr_dp W x - 1)
/-- the last opening bracket before i -/
def gr_cs (W : Nat → Nat) : Nat → Nat
  | 0 => 0
  | i + 1 => if W i = 91 then i else gr_cs W i
/-- where the piece that ends before i begins -/
def gr_as (W : Nat → Nat) : Nat → Nat
  | 0 => 0
  | i + 1 => if gr_O (W i) then gr_as W i else if W i = 93 then gr_cs W i else if W i = 41 then gr_en W i else i
abbrev gr_S (W : Nat → Nat) (s : Nat) : Prop := W s = 46 ∨ W s = 91 ∨ (gr_L (W s) ∧ gr_ic W s = false)
/-- the positions before i -/
def gr_ct (W : Nat → Nat) : Nat → Nat
  | 0 => 0
  | i + 1 => if gr_S W i then gr_ct W i + 1 else gr_ct W i
def gr_ce (W : Nat → Nat) : Nat → Nat → Nat
  | 0, s => s
  | n + 1, s => if W s = 93 then s else gr_ce W n (s + 1)
def gr_tg (W : Nat → Nat) (m s : Nat) : Nat := if W s = 91 then gr_ce W m (s + 1) + 1 else s + 1
def gr_E (W : Nat → Nat) (x y z c : Nat) : Prop :=
  (((gr_L (W x) ∧ gr_ic W x = false) ∨ W x = 46) ∧ y = x ∧ z = x + 1 ∧ c = 1) ∨
  (W x = 93 ∧ y = gr_cs W x ∧ z = x + 1 ∧ c = 1) ∨
  (W x = 40 ∧ y = x ∧ z = x + 1 ∧ c = 0) ∨
  (W x = 124 ∧ y = gr_en W x ∧ z = x + 1 ∧ c = 0) ∨
  (W x = 41 ∧ c = 0 ∧ ((W y = 124 ∧ gr_en W y = gr_en W x ∧ gr_en W y < y ∧ y < x ∧ z = x) ∨ (y = x ∧ z = x + 1))) ∨
  (gr_O (W x) ∧ c = 0 ∧ ((W x ≠ 43 ∧ y = gr_as W x ∧ z = x) ∨ (W x ≠ 63 ∧ y = x ∧ z = gr_as W x) ∨ (y = x ∧ z = x + 1)))
abbrev gr_Ba (W : Nat → Nat) (o p : Nat) : Prop := W p = 124 ∧ gr_en W p = o ∧ o < p
/-- the pattern is valid -/
def gr_V (W : Nat → Nat) (m : Nat) : Prop :=
  2 < m ∧ W 0 = 40 ∧ W (m - 1) = 41 ∧ gr_ic W (m - 1) = false ∧ gr_dp W (m - 1) = 1 ∧
  (∀ i, 1 ≤ i → i < m → 1 ≤ gr_dp W i) ∧
  (∀ i, 1 ≤ i → i < m → gr_ic W i = true → gr_L (W i) ∨ W i = 93) ∧
  (∀ i, 1 ≤ i → i < m → gr_ic W i = false → (gr_L (W i) ∨ W i = 46 ∨ W i = 91) ∨ W i = 40 ∨
    ((W i = 124 ∨ W i = 41 ∨ gr_O (W i)) ∧ W (i - 1) ≠ 40 ∧ W (i - 1) ≠ 124))
section
variable {W : Nat → Nat}
theorem gr_ic1 {i : Nat} : gr_ic W (i + 1) = ((W i == 91) || (gr_ic W i && !(W i == 93))) := rfl
theorem gr_dp1 {i : Nat} : gr_dp W (i + 1) = if W i = 40 then gr_dp W i + 1 else if W i = 41 then gr_dp W i - 1 else gr_dp W i := rfl
theorem gr_sk1 {i j : Nat} : gr_sk W (i + 1) j = if W i = 40 ∧ j = gr_dp W i then i else gr_sk W i j := rfl
theorem gr_cs1 {i : Nat} : gr_cs W (i + 1) = if W i = 91 then i else gr_cs W i := rfl
theorem gr_as1 {i : Nat} : gr_as W (i + 1) = if gr_O (W i) then gr_as W i else if W i = 93 then gr_cs W i else if W i = 41 then gr_en W i else i := rfl
theorem gr_ct1 {i : Nat} : gr_ct W (i + 1) = if gr_S W i then gr_ct W i + 1 else gr_ct W i := rfl
theorem gr_skP : ∀ i j : Nat, j < gr_dp W i → gr_sk W i j < i ∧ W (gr_sk W i j) = 40 ∧ gr_dp W (gr_sk W i j) = j ∧ ∀ x, gr_sk W i j < x → x ≤ i → j < gr_dp W x := by
  intro i
  induction i with
  | zero => intro j h; exact absurd h (by simp [gr_dp])
  | succ i ih =>
    intro j h
    rw [gr_sk1]
    by_cases c : W i = 40 ∧ j = gr_dp W i
    · rw [if_pos c]
      refine ⟨by omega, c.1, c.2.symm, fun x h1 h2 => ?_⟩
      have : x = i + 1 := by omega
      subst this; exact h
    · rw [if_neg c]
      have hj : j < gr_dp W i := by
        rw [gr_dp1] at h
        by_cases c1 : W i = 40
        · rw [if_pos c1] at h
          by_cases e : j = gr_dp W i
          · exact absurd ⟨c1, e⟩ c
          · omega
        · rw [if_neg c1] at h
          by_cases c2 : W i = 41
          · rw [if_pos c2] at h; omega
          · rw [if_neg c2] at h; exact h
      obtain ⟨h1, h2, h3, h4⟩ := ih j hj
      refine ⟨by omega, h2, h3, fun x g1 g2 => ?_⟩
      by_cases e : x = i + 1
      · subst e; exact h
      · exact h4 x g1 (by omega)
theorem gr_skK {j : Nat} : ∀ (d i : Nat), (∀ x, i ≤ x → x < i + d → j < gr_dp W x) → gr_sk W (i + d) j = gr_sk W i j := by
  intro d
  induction d with
  | zero => intro i _; rfl
  | succ d ih =>
    intro i h
    have : i + (d + 1) = (i + d) + 1 := by omega
    rw [this, gr_sk1]
    have hj := h (i + d) (by omega) (by omega)
    rw [if_neg (by omega)]
    exact ih i (fun x h1 h2 => h x h1 (by omega))
theorem gr_enP {x : Nat} (h : 1 ≤ gr_dp W x) : gr_en W x < x ∧ W (gr_en W x) = 40 ∧ gr_dp W (gr_en W x) = gr_dp W x - 1 ∧ ∀ y, gr_en W x < y → y ≤ x → gr_dp W x - 1 < gr_dp W y :=
  gr_skP x (gr_dp W x - 1) (by omega)
theorem gr_icP {m : Nat} (hV : gr_V W m) : ∀ i, i < m → gr_ic W i = true → 1 ≤ gr_cs W i ∧ gr_cs W i < i ∧ W (gr_cs W i) = 91 ∧ gr_ic W (gr_cs W i) = false ∧ ∀ j, gr_cs W i < j → j < i → gr_L (W j) ∧ gr_ic W j = true ∧ gr_cs W j = gr_cs W i := by
  obtain ⟨_, v0, _, _, _, _, vc, _⟩ := hV
  intro i
  induction i with
  | zero => intro _ h; exact absurd h (by simp [gr_ic])
  | succ i ih =>
    intro hm h
    rw [gr_cs1]
    by_cases c : W i = 91
    · rw [if_pos c]
      have hi : 1 ≤ i := by
        by_cases e : i = 0
        · subst e; omega
        · omega
      have hic : gr_ic W i = false := by
        cases hc : gr_ic W i with
        | false => rfl
        | true => have := vc i hi (by omega) hc; omega
      exact ⟨hi, by omega, c, hic, fun j h1 h2 => by omega⟩
    · rw [if_neg c]
      rw [gr_ic1] at h
      have hb : (W i == 91) = false := by simp [c]
      rw [hb, Bool.false_or, Bool.and_eq_true] at h
      obtain ⟨h1, h2⟩ := h
      obtain ⟨g1, g2, g3, g4, g5⟩ := ih (by omega) h1
      refine ⟨g1, by omega, g3, g4, fun j q1 q2 => ?_⟩
      by_cases e : j = i
      · subst e
        have hn : W j ≠ 93 := by intro e; simp [e] at h2
        have := vc j (by omega) (by omega) h1
        exact ⟨by omega, h1, rfl⟩
      · exact g5 j q1 (by omega)
theorem gr_ceP : ∀ n s e : Nat, s ≤ e → e - s ≤ n → W e = 93 → (∀ j, s ≤ j → j < e → W j ≠ 93) → gr_ce W n s = e := by
  intro n
  induction n with
  | zero => intro s e h1 h2 _ _; show s = e; omega
  | succ n ih =>
    intro s e h1 h2 h3 h4
    show (if W s = 93 then s else gr_ce W n (s + 1)) = e
    by_cases c : s = e
    · subst c; rw [if_pos h3]
    · rw [if_neg (h4 s (Nat.le_refl _) (by omega))]
      exact ih (s + 1) e (by omega) (by omega) h3 (fun j q1 q2 => h4 j (by omega) q2)
theorem gr_tg1 {m s : Nat} (h : W s ≠ 91) : gr_tg W m s = s + 1 := by unfold gr_tg; rw [if_neg h]
theorem gr_tg2 {m s e : Nat} (h : W s = 91) (h1 : s < e) (h2 : e ≤ m) (h3 : W e = 93) (h4 : ∀ j, s < j → j < e → W j ≠ 93) : gr_tg W m s = e + 1 := by
  unfold gr_tg; rw [if_pos h, gr_ceP m (s + 1) e (by omega) (by omega) h3 (fun j q1 q2 => h4 j (by omega) q2)]
theorem gr_ctm : ∀ d i : Nat, gr_ct W i ≤ gr_ct W (i + d) := by
  intro d
  induction d with
  | zero => intro i; exact Nat.le_refl _
  | succ d ih =>
    intro i
    have h := ih i
    have : i + (d + 1) = (i + d) + 1 := by omega
    rw [this, gr_ct1]
    split <;> omega
theorem gr_ctM {i j : Nat} (h : i ≤ j) : gr_ct W i ≤ gr_ct W j := by
  have := gr_ctm (W := W) (j - i) i
  rw [show i + (j - i) = j from by omega] at this; exact this
theorem gr_ctI {s t : Nat} (hs : gr_S W s) (ht : gr_S W t) (h : gr_ct W s = gr_ct W t) : s = t := by
  have A : ∀ {a b : Nat}, gr_S W a → a < b → gr_ct W a < gr_ct W b := by
    intro a b ha hab
    have h1 : gr_ct W (a + 1) = gr_ct W a + 1 := by rw [gr_ct1, if_pos ha]
    have h2 := gr_ctM (W := W) (show a + 1 ≤ b from hab)
    omega
  rcases Nat.lt_trichotomy s t with h1 | h1 | h1
  · have := A hs h1; omega
  · exact h1
  · have := A ht h1; omega
end
end
section
/-! What each character owns, and the fragments that it makes. -/
section
variable {W : Nat → Nat}
theorem gs_E40 {x y z c : Nat} (h : W x = 40) : gr_E W x y z c ↔ y = x ∧ z = x + 1 ∧ c = 0 := by
  simp [gr_E, gr_L, gr_O, h]
theorem gs_E124 {x y z c : Nat} (h : W x = 124) : gr_E W x y z c ↔ y = gr_en W x ∧ z = x + 1 ∧ c = 0 := by
  simp [gr_E, gr_L, gr_O, h]
theorem gs_E41 {x y z c : Nat} (h : W x = 41) : gr_E W x y z c ↔ c = 0 ∧ ((W y = 124 ∧ gr_en W y = gr_en W x ∧ gr_en W y < y ∧ y < x ∧ z = x) ∨ (y = x ∧ z = x + 1)) := by
  simp [gr_E, gr_L, gr_O, h]
theorem gs_E91 {x y z c : Nat} (h : W x = 91) : ¬ gr_E W x y z c := by
  simp [gr_E, gr_L, gr_O, h]
theorem gs_E93 {x y z c : Nat} (h : W x = 93) : gr_E W x y z c ↔ y = gr_cs W x ∧ z = x + 1 ∧ c = 1 := by
  simp [gr_E, gr_L, gr_O, h]
theorem gs_E46 {x y z c : Nat} (h : W x = 46) : gr_E W x y z c ↔ y = x ∧ z = x + 1 ∧ c = 1 := by
  simp [gr_E, gr_L, gr_O, h]
theorem gs_EL {x y z c : Nat} (h : gr_L (W x)) (hi : gr_ic W x = false) : gr_E W x y z c ↔ y = x ∧ z = x + 1 ∧ c = 1 := by
  unfold gr_E
  constructor
  · rintro (⟨_, h1⟩ | ⟨h1, _⟩ | ⟨h1, _⟩ | ⟨h1, _⟩ | ⟨h1, _⟩ | ⟨h1, _⟩)
    · exact h1
    all_goals omega
  · intro h1; exact Or.inl ⟨Or.inl ⟨h, hi⟩, h1⟩
theorem gs_ELi {x y z c : Nat} (h : gr_L (W x)) (hi : gr_ic W x = true) : ¬ gr_E W x y z c := by
  unfold gr_E
  rintro (⟨⟨_, h1⟩ | h1, _⟩ | ⟨h1, _⟩ | ⟨h1, _⟩ | ⟨h1, _⟩ | ⟨h1, _⟩ | ⟨h1, _⟩)
  · rw [hi] at h1; exact Bool.noConfusion h1
  all_goals omega
theorem gs_EO {x y z c : Nat} (h : gr_O (W x)) : gr_E W x y z c ↔ c = 0 ∧ ((W x ≠ 43 ∧ y = gr_as W x ∧ z = x) ∨ (W x ≠ 63 ∧ y = x ∧ z = gr_as W x) ∨ (y = x ∧ z = x + 1)) := by
  unfold gr_E
  constructor
  · rintro (⟨⟨h1, _⟩ | h1, _⟩ | ⟨h1, _⟩ | ⟨h1, _⟩ | ⟨h1, _⟩ | ⟨h1, _⟩ | ⟨_, h1⟩)
    · omega
    · omega
    · omega
    · omega
    · omega
    · omega
    · exact h1
  · intro h1; exact Or.inr (Or.inr (Or.inr (Or.inr (Or.inr ⟨h, h1⟩))))
theorem gs_nS {x : Nat} (h : W x = 40 ∨ W x = 41 ∨ W x = 124 ∨ W x = 93 ∨ gr_O (W x)) : ¬ gr_S W x := by
  rintro (h1 | h1 | ⟨h1, _⟩) <;> omega
theorem gs_letter {m x : Nat} (h : (gr_L (W x) ∧ gr_ic W x = false) ∨ W x = 46) :
    fg_G (gr_E W) (gr_tg W m) (gr_S W) x (x + 1) (fun q => q = x) (fun q => q = x) 1 (fun _ _ => False) ∧ fg_R (gr_E W) (gr_tg W m) (gr_S W) x (x + 1) (fun q => q = x) := by
  have hE : ∀ y z c, gr_E W x y z c ↔ y = x ∧ z = x + 1 ∧ c = 1 := by
    intro y z c
    rcases h with ⟨h, hi⟩ | h
    · exact gs_EL h hi
    · exact gs_E46 h
  refine fg_one (by omega) (gr_tg1 (by omega)) ?_ ?_ ⟨x, by omega, by omega, (hE _ _ _).mpr ⟨rfl, rfl, rfl⟩⟩
  · intro y h1 h2
    have : y = x := by omega
    subst this
    refine ⟨fun _ => rfl, fun _ => ?_⟩
    rcases h with h | h
    · exact Or.inr (Or.inr h)
    · exact Or.inl h
  · intro x' y z c h1 h2 h3
    have : x' = x := by omega
    subst this
    exact (hE y z c).mp h3
theorem gs_class {m e : Nat} (hV : gr_V W m) (he : e < m) (hi : gr_ic W e = true) (h93 : W e = 93) :
    fg_G (gr_E W) (gr_tg W m) (gr_S W) (gr_cs W e) (e + 1) (fun q => q = gr_cs W e) (fun q => q = gr_cs W e) 1 (fun _ _ => False) ∧ fg_R (gr_E W) (gr_tg W m) (gr_S W) (gr_cs W e) (e + 1) (fun q => q = gr_cs W e) := by
  obtain ⟨g1, g2, g3, g4, g5⟩ := gr_icP hV e he hi
  have hN : ∀ j, gr_cs W e < j → j < e → W j ≠ 93 := fun j h1 h2 => by have := (g5 j h1 h2).1; omega
  refine fg_one (by omega) (gr_tg2 g3 g2 (by omega) h93 hN) ?_ ?_ ⟨e, by omega, by omega, (gs_E93 h93).mpr ⟨rfl, rfl, rfl⟩⟩
  · intro y h1 h2
    refine ⟨fun hy => ?_, fun hy => hy ▸ Or.inr (Or.inl g3)⟩
    by_cases c1 : y = gr_cs W e
    · exact c1
    · by_cases c2 : y = e
      · subst c2; exact absurd hy (gs_nS (by omega))
      · obtain ⟨q1, q2, _⟩ := g5 y (by omega) (by omega)
        rcases hy with hy | hy | ⟨_, hy⟩
        · omega
        · omega
        · rw [q2] at hy; exact Bool.noConfusion hy
  · intro x y z c h1 h2 h3
    by_cases c1 : x = gr_cs W e
    · rw [c1] at h3; exact absurd h3 (gs_E91 g3)
    · by_cases c2 : x = e
      · subst c2
        have := (gs_E93 h93).mp h3
        exact this
      · obtain ⟨q1, q2, _⟩ := g5 x (by omega) (by omega)
        exact absurd h3 (gs_ELi q1 q2)
theorem gs_open {m o : Nat} (h : W o = 40) : fg_U (gr_E W) (gr_tg W m) (gr_S W) (gr_Ba W) o (o + 1) (fun _ => False) (fun _ => False) 64 (fun _ _ => False) :=
  fg_open (gs_nS (Or.inl h)) (fun _ hp => hp.2.2) (fun _ _ _ => gs_E40 h)
theorem gs_alt {m o b p : Nat} {F1 L1 F2 L2 : Nat → Prop} {n1 n2 : Nat} {O1 O2 : Nat → Nat → Prop}
    (h1 : fg_U (gr_E W) (gr_tg W m) (gr_S W) (gr_Ba W) o b F1 L1 n1 O1) (h2 : fg_G (gr_E W) (gr_tg W m) (gr_S W) b p F2 L2 n2 O2)
    (hp : W p = 124) (ho : gr_en W p = o) (hBn : ∀ y, b ≤ y → y < p → ¬ gr_Ba W o y) (hn : n2 < 64) :
    fg_U (gr_E W) (gr_tg W m) (gr_S W) (gr_Ba W) o (p + 1) (fun s => F1 s ∨ F2 s) (fun s => L1 s ∨ L2 s) (if n2 < n1 then n2 else n1) (fun s t => O1 s t ∨ O2 s t) := by
  have hob := h1.1
  have hbp := h2.1
  exact fg_alt h1 h2 (gs_nS (by omega)) ⟨hp, ho, by omega⟩ hBn (fun h => Nat.lt_irrefl _ h.2.2) (fun y z c => by rw [gs_E124 hp, ho]) hn
theorem gs_close {m o b p : Nat} {F1 L1 F2 L2 : Nat → Prop} {n1 n2 : Nat} {O1 O2 : Nat → Nat → Prop}
    (h1 : fg_U (gr_E W) (gr_tg W m) (gr_S W) (gr_Ba W) o b F1 L1 n1 O1) (h2 : fg_G (gr_E W) (gr_tg W m) (gr_S W) b p F2 L2 n2 O2)
    (hp : W p = 41) (ho : gr_en W p = o) (hBn : ∀ y, b ≤ y → y < p → ¬ gr_Ba W o y) (hn : n2 < 64) :
    fg_G (gr_E W) (gr_tg W m) (gr_S W) o (p + 1) (fun s => F1 s ∨ F2 s) (fun s => L1 s ∨ L2 s) (if n2 < n1 then n2 else n1) (fun s t => O1 s t ∨ O2 s t)
      ∧ fg_R (gr_E W) (gr_tg W m) (gr_S W) o (p + 1) (fun s => L1 s ∨ L2 s) := by
  have hob := h1.1
  have hbp := h2.1
  refine fg_close h1 h2 (gs_nS (by omega)) (fun h => Nat.lt_irrefl _ h.2.2) (fun y z c => ?_) hn (fun y h => h.2.2)
  rw [gs_E41 hp, ho]
  constructor
  · rintro ⟨rfl, ⟨q1, q2, q3, q4, q5⟩ | q⟩
    · refine ⟨rfl, Or.inl ⟨⟨q1, q2, by omega⟩, ?_, q5⟩⟩
      by_cases c : y < b
      · exact c
      · exact absurd ⟨q1, q2, by omega⟩ (hBn y (by omega) q4)
    · exact ⟨rfl, Or.inr q⟩
  · rintro ⟨rfl, ⟨⟨q1, q2, q3⟩, q4, q5⟩ | q⟩
    · exact ⟨rfl, Or.inl ⟨q1, q2, by omega, by omega, q5⟩⟩
    · exact ⟨rfl, Or.inr q⟩
theorem gs_op {m a q : Nat} {F L : Nat → Prop} {n : Nat} {O : Nat → Nat → Prop} (h : fg_G (gr_E W) (gr_tg W m) (gr_S W) a q F L n O)
    (hR : fg_R (gr_E W) (gr_tg W m) (gr_S W) a q L) (haq : a < q) (ha : gr_as W q = a) (hq : gr_O (W q)) :
    fg_G (gr_E W) (gr_tg W m) (gr_S W) a (q + 1) F L (if W q = 43 then n else 0) (fun s t => O s t ∨ (W q ≠ 63 ∧ L s ∧ F t)) ∧ fg_R (gr_E W) (gr_tg W m) (gr_S W) a (q + 1) L :=
  fg_op (sk := W q ≠ 43) (st := W q ≠ 63) h hR haq (gs_nS (by omega)) (fun y z c => by rw [gs_EO hq, ha]) (fun c => by rw [if_neg c]) (fun c => by rw [if_pos (by omega)])
end
end
section
/-! Relaxing: m + 1 rounds over a graph of m + 1 states reach the fixed point. -/
section
variable (G : Nat → Nat → Nat → Prop) (v0 : Nat → Nat)
/-- s is reached at value k by at most h edges from the first column -/
def bf_H : Nat → Nat → Nat → Prop
  | 0, s, k => k = v0 s
  | h + 1, s, k => bf_H h s k ∨ ∃ a c j, G a s c ∧ bf_H h a j ∧ k = j + c
end
def bf_cn (P : Nat → Bool) : Nat → Nat
  | 0 => 0
  | n + 1 => bf_cn P n + (if P n = true then 1 else 0)
theorem bf_cnm {P Q : Nat → Bool} : ∀ n : Nat, (∀ s, s < n → P s = true → Q s = true) → bf_cn P n ≤ bf_cn Q n := by
  intro n
  induction n with
  | zero => intro _; exact Nat.le_refl _
  | succ n ih =>
    intro h
    have h1 := ih (fun s hs => h s (by omega))
    have h2 := h n (by omega)
    show bf_cn P n + (if P n = true then 1 else 0) ≤ bf_cn Q n + (if Q n = true then 1 else 0)
    by_cases c : P n = true
    · rw [if_pos c, if_pos (h2 c)]; omega
    · rw [if_neg c]; omega
theorem bf_cns {P Q : Nat → Bool} : ∀ n : Nat, (∀ s, s < n → P s = true → Q s = true) → (∃ s, s < n ∧ Q s = true ∧ ¬ P s = true) → bf_cn P n < bf_cn Q n := by
  intro n
  induction n with
  | zero => intro _ ⟨s, h, _⟩; omega
  | succ n ih =>
    intro h ⟨s, h1, h2, h3⟩
    show bf_cn P n + (if P n = true then 1 else 0) < bf_cn Q n + (if Q n = true then 1 else 0)
    have hm := bf_cnm (P := P) (Q := Q) n (fun s hs => h s (by omega))
    by_cases e : s = n
    · subst e; rw [if_neg h3, if_pos h2]; omega
    · have := ih (fun s hs => h s (by omega)) ⟨s, by omega, h2, h3⟩
      by_cases c : P n = true
      · rw [if_pos c, if_pos (h n (by omega) c)]; omega
      · rw [if_neg c]; omega
theorem bf_cnl {P : Nat → Bool} : ∀ n : Nat, bf_cn P n ≤ n := by
  intro n
  induction n with
  | zero => exact Nat.le_refl _
  | succ n ih =>
    show bf_cn P n + (if P n = true then 1 else 0) ≤ n + 1
    split <;> omega
theorem bf_cna {P : Nat → Bool} : ∀ n : Nat, n ≤ bf_cn P n → ∀ s, s < n → P s = true := by
  intro n
  induction n with
  | zero => intro _ s h; omega
  | succ n ih =>
    intro h s hs
    have hl := bf_cnl (P := P) n
    have h' : n + 1 ≤ bf_cn P n + (if P n = true then 1 else 0) := h
    by_cases c : P n = true
    · rw [if_pos c] at h'
      by_cases e : s = n
      · subst e; exact c
      · exact ih (by omega) s (by omega)
    · rw [if_neg c] at h'; omega
theorem bf_least (P : Nat → Prop) (h : ∃ k, P k) : ∃ k, P k ∧ ∀ j, j < k → ¬ P j := by
  obtain ⟨k, hk⟩ := h
  induction k using Nat.strongRecOn with
  | ind k ih =>
    by_cases c : ∃ j, j < k ∧ P j
    · obtain ⟨j, h1, h2⟩ := c; exact ih j h1 h2
    · exact ⟨k, hk, fun j h1 h2 => c ⟨j, h1, h2⟩⟩
section
variable {G : Nat → Nat → Nat → Prop} {v0 : Nat → Nat}
theorem bf_Hs {h s k : Nat} (H : bf_H G v0 h s k) : bf_H G v0 (h + 1) s k := Or.inl H
theorem bf_Hm {s k : Nat} : ∀ (d h : Nat), bf_H G v0 h s k → bf_H G v0 (h + d) s k := by
  intro d
  induction d with
  | zero => intro h H; exact H
  | succ d ih => intro h H; exact Or.inl (ih h H)
theorem bf_HM {h h' s k : Nat} (H : bf_H G v0 h s k) (hh : h ≤ h') : bf_H G v0 h' s k := by
  have := bf_Hm (h' - h) h H
  rw [show h + (h' - h) = h' from by omega] at this; exact this
theorem bf_HQ {Q : Nat → Nat → Prop} {m : Nat} (hG : ∀ a b c, G a b c → a ≤ m ∧ b ≤ m) (h0 : ∀ s, s ≤ m → Q s (v0 s)) (hc : ∀ a b c k, G a b c → Q a k → Q b (k + c)) :
    ∀ h s k, s ≤ m → bf_H G v0 h s k → Q s k := by
  intro h
  induction h with
  | zero => intro s k hs H; have : k = v0 s := H; subst this; exact h0 s hs
  | succ h ih =>
    intro s k hs H
    rcases H with H | ⟨a, c, j, h1, h2, rfl⟩
    · exact ih s k hs H
    · exact hc a s c j h1 (ih a j (hG a s c h1).1 h2)
theorem bf_closed {m : Nat} (hG : ∀ a b c, G a b c → a ≤ m ∧ b ≤ m) {u : Nat → Nat}
    (hb : ∀ s k, s ≤ m → bf_H G v0 (m + 1) s k → u s ≤ k) (hs' : ∀ s, s ≤ m → ∃ h, bf_H G v0 h s (u s)) :
    ∀ a b c, G a b c → u b ≤ u a + c := by
  have hL : ∀ s, ∃ k, (∃ h, bf_H G v0 h s k) ∧ ∀ j, j < k → ¬ ∃ h, bf_H G v0 h s j := fun s => bf_least _ ⟨v0 s, 0, rfl⟩
  let D : Nat → Nat := fun s => Classical.choose (hL s)
  have hD : ∀ s, (∃ h, bf_H G v0 h s (D s)) ∧ ∀ j, j < D s → ¬ ∃ h, bf_H G v0 h s j := fun s => Classical.choose_spec (hL s)
  have hDl : ∀ s k h, bf_H G v0 h s k → D s ≤ k := by
    intro s k h H
    by_cases c : k < D s
    · exact absurd ⟨h, H⟩ ((hD s).2 k c)
    · omega
  have hDc : ∀ a b c, G a b c → D b ≤ D a + c := by
    intro a b c h
    obtain ⟨h', H⟩ := (hD a).1
    exact hDl b _ (h' + 1) (Or.inr ⟨a, c, D a, h, H, rfl⟩)
  -- settled states grow
  have hgrow : ∀ h, (∀ s, s ≤ m → bf_H G v0 h s (D s)) ∨ ∃ s, s ≤ m ∧ bf_H G v0 (h + 1) s (D s) ∧ ¬ bf_H G v0 h s (D s) := by
    intro h
    by_cases c : ∀ s, s ≤ m → bf_H G v0 h s (D s)
    · exact Or.inl c
    · right
      have : ∃ H, ∃ s, s ≤ m ∧ bf_H G v0 H s (D s) ∧ ¬ bf_H G v0 h s (D s) := by
        have : ∃ s, ¬ (s ≤ m → bf_H G v0 h s (D s)) := Classical.not_forall.mp c
        obtain ⟨s, hs⟩ := this
        have h1 : s ≤ m := Classical.byContradiction fun h' => hs (fun h'' => absurd h'' h')
        obtain ⟨H, hH⟩ := (hD s).1
        exact ⟨H, s, h1, hH, fun h' => hs (fun _ => h')⟩
      obtain ⟨H, ⟨s, h1, h2, h3⟩, hmin⟩ := bf_least _ this
      have hlt : h < H := by
        by_cases c : h < H
        · exact c
        · exact absurd (bf_HM h2 (by omega)) h3
      obtain ⟨K, rfl⟩ : ∃ K, H = K + 1 := ⟨H - 1, by omega⟩
      rcases h2 with h2 | ⟨a, c, j, e1, e2, e3⟩
      · exact absurd ⟨s, h1, h2, h3⟩ (hmin K (by omega))
      · have q1 := hDl a j K e2
        have q2 := hDc a s c e1
        have q3 : j = D a := by omega
        subst q3
        have q4 : bf_H G v0 h a (D a) := Classical.byContradiction fun h' => hmin K (by omega) ⟨a, (hG a s c e1).1, e2, h'⟩
        exact ⟨s, h1, Or.inr ⟨a, c, D a, e1, q4, e3⟩, h3⟩
  let P : Nat → Nat → Bool := fun h s => @decide (bf_H G v0 h s (D s)) (Classical.propDecidable _)
  have hP : ∀ h s, P h s = true ↔ bf_H G v0 h s (D s) := fun h s => @decide_eq_true_iff _ (Classical.propDecidable _)
  have hcnt : ∀ h, (∀ s, s ≤ m → bf_H G v0 h s (D s)) ∨ h ≤ bf_cn (P h) (m + 1) := by
    intro h
    induction h with
    | zero => right; exact Nat.zero_le _
    | succ h ih =>
      rcases ih with ih | ih
      · left; intro s hs; exact bf_Hs (ih s hs)
      · rcases hgrow h with g | ⟨s, g1, g2, g3⟩
        · left; intro s hs; exact bf_Hs (g s hs)
        · right
          have := bf_cns (P := P h) (Q := P (h + 1)) (m + 1) (fun s _ hp => (hP (h + 1) s).mpr (bf_Hs ((hP h s).mp hp))) ⟨s, by omega, (hP (h + 1) s).mpr g2, fun hp => g3 ((hP h s).mp hp)⟩
          omega
  have hall : ∀ s, s ≤ m → bf_H G v0 (m + 1) s (D s) := by
    rcases hcnt (m + 1) with h | h
    · exact h
    · intro s hs
      exact (hP (m + 1) s).mp (bf_cna (m + 1) h s (by omega))
  have hu : ∀ s, s ≤ m → u s = D s := by
    intro s hs
    have h1 := hb s (D s) hs (hall s hs)
    obtain ⟨h, H⟩ := hs' s hs
    have h2 := hDl s _ h H
    omega
  intro a b c h
  have hab := hG a b c h
  rw [hu a hab.1, hu b hab.2]
  exact hDc a b c h
theorem bf_step {m h : Nat} {u u' : Nat → Nat} (hG : ∀ a b c, G a b c → a ≤ m ∧ b ≤ m) (hb : ∀ s k, s ≤ m → bf_H G v0 h s k → u s ≤ k)
    (h1 : ∀ s, s ≤ m → u' s ≤ u s) (h2 : ∀ a b c, G a b c → u' b ≤ u a + c) : ∀ s k, s ≤ m → bf_H G v0 (h + 1) s k → u' s ≤ k := by
  intro s k hs H
  rcases H with H | ⟨a, c, j, e1, e2, rfl⟩
  · have := hb s k hs H; have := h1 s hs; omega
  · have := hb a j (hG a s c e1).1 e2; have := h2 a s c e1; omega
end
/-- what relaxing makes of the column v0: below it, closed, and each value reached -/
def bf_C (G : Nat → Nat → Nat → Prop) (m : Nat) (v0 u : Nat → Nat) : Prop :=
  (∀ s, s ≤ m → ∃ h, bf_H G v0 h s (u s)) ∧ (∀ s, s ≤ m → u s ≤ v0 s) ∧ (∀ a b c, G a b c → u b ≤ u a + c)
theorem bf_CQ {G : Nat → Nat → Nat → Prop} {m : Nat} {v0 u : Nat → Nat} (hG : ∀ a b c, G a b c → a ≤ m ∧ b ≤ m) (h : bf_C G m v0 u) {Q : Nat → Nat → Prop}
    (h0 : ∀ s, s ≤ m → Q s (v0 s)) (hc : ∀ a b c k, G a b c → Q a k → Q b (k + c)) {s : Nat} (hs : s ≤ m) : Q s (u s) := by
  obtain ⟨h', H⟩ := h.1 s hs
  exact bf_HQ hG h0 hc h' s _ hs H
end
section
/-! The sets of positions reached with at most d errors against the columns of least errors. -/
section
variable (m K : Nat) (G : Nat → Nat → Nat → Prop) (Rp : Nat → Nat → Prop) (Sc : Nat → Nat → Nat → Prop) (FO : Nat → Nat → Prop)
/-- how the states of the sets (0 the start, q a position from t to g) lie in the graph -/
def sm_A : Prop :=
  (∀ p a b, Rp p a → G a b 0 → Rp p b) ∧
  (∀ q t g, Sc q t g → Rp q g ∧ t ≤ m ∧ g ≤ m ∧ G t g 1) ∧
  (∀ p q, FO p q ↔ ∃ t g, Sc q t g ∧ Rp p t) ∧
  (∀ a b c, G a b c → a ≤ m ∧ b ≤ m ∧ (c = 0 ∨ (c = 1 ∧ ∃ q, Sc q a b))) ∧
  (∀ (u : Nat → Nat), (∀ a b c, G a b c → u b ≤ u a + c) → (∀ v, Rp 0 v → u v ≤ u 0) ∧ (∀ q t g v, Sc q t g → Rp q v → u v ≤ u g)) ∧
  Rp 0 0 ∧ (∀ p v, Rp p v → v ≤ m)
/-- the column c holds the least errors of the sets -/
def sm_C (XS : Nat → Nat → Prop) (c : Nat → Nat) : Prop :=
  ∀ s, s ≤ m → c s ≤ K + 1 ∧ ∀ d, d ≤ K → (c s ≤ d ↔ ∃ p, XS d p ∧ Rp p s)
/-- the sets at the start of the text -/
def sm_X0 : Nat → Nat → Prop
  | 0, p => p = 0
  | d + 1, p => sm_X0 d p ∨ ∃ p', sm_X0 d p' ∧ FO p' p
/-- the sets behind one more letter: M the positions that it matches, en whether a match may begin here -/
def sm_X1 (XS : Nat → Nat → Prop) (M : Nat → Prop) (en : Prop) : Nat → Nat → Prop
  | 0, q => (en ∧ q = 0) ∨ (M q ∧ ∃ p, XS 0 p ∧ FO p q)
  | d + 1, q => (en ∧ q = 0) ∨ XS d q ∨ (M q ∧ ∃ p, XS (d + 1) p ∧ FO p q) ∨ ∃ p, (XS d p ∨ sm_X1 XS M en d p) ∧ FO p q
end
section
variable {m K : Nat} {G : Nat → Nat → Nat → Prop} {Rp : Nat → Nat → Prop} {Sc : Nat → Nat → Nat → Prop} {FO : Nat → Nat → Prop}
theorem sm_X00 : ∀ d, sm_X0 FO d 0 := by
  intro d
  induction d with
  | zero => exact rfl
  | succ d ih => exact Or.inl ih
theorem sm_init (A : sm_A m G Rp Sc FO) {v0 u : Nat → Nat} (h0 : v0 0 = 0) (h1 : ∀ s, s ≤ m → s ≠ 0 → v0 s = K + 1) (hC : bf_C G m v0 u) :
    sm_C m K Rp (sm_X0 FO) u := by
  obtain ⟨a1, a2, a3, a4, a5, a7, a8⟩ := A
  have hG : ∀ a b c, G a b c → a ≤ m ∧ b ≤ m := fun a b c h => ⟨(a4 a b c h).1, (a4 a b c h).2.1⟩
  obtain ⟨a5a, a5b⟩ := a5 u hC.2.2
  have back : ∀ d p, sm_X0 FO d p → ∀ v, Rp p v → u v ≤ d := by
    intro d
    induction d with
    | zero =>
      intro p hp v hv
      have : p = 0 := hp
      subst this
      have := a5a v hv
      have := hC.2.1 0 (Nat.zero_le _)
      omega
    | succ d ih =>
      intro p hp v hv
      rcases hp with hp | ⟨p', hp, hf⟩
      · have := ih p hp v hv; omega
      · obtain ⟨t, g, hs, ht⟩ := (a3 p' p).mp hf
        have e1 := ih p' hp t ht
        have e2 := hC.2.2 t g 1 (a2 p t g hs).2.2.2
        have e3 := a5b p t g v hs hv
        omega
  intro s hs
  have hup : u s ≤ K + 1 := by
    have := hC.2.1 s hs
    by_cases c : s = 0
    · subst c; omega
    · have := h1 s hs c; omega
  refine ⟨hup, fun d hd => ⟨fun h => ?_, fun ⟨p, hp, hr⟩ => back d p hp s hr⟩⟩
  refine bf_CQ hG hC (Q := fun s k => ∀ d, d ≤ K → k ≤ d → ∃ p, sm_X0 FO d p ∧ Rp p s) ?_ ?_ hs d hd h
  · intro s hs d hd h
    by_cases c : s = 0
    · subst c; exact ⟨0, sm_X00 d, a7⟩
    · have := h1 s hs c; omega
  · intro a b c k hg hq d hd h
    rcases (a4 a b c hg).2.2 with rfl | ⟨rfl, q, hsc⟩
    · obtain ⟨p, hp, hr⟩ := hq d hd h
      exact ⟨p, hp, a1 p a b hr hg⟩
    · obtain ⟨e, rfl⟩ : ∃ e, d = e + 1 := ⟨d - 1, by omega⟩
      obtain ⟨p, hp, hr⟩ := hq e (by omega) (by omega)
      exact ⟨q, Or.inr ⟨p, hp, (a3 p q).mpr ⟨a, b, hsc, hr⟩⟩, (a2 q a b hsc).1⟩
theorem sm_X1e {XS : Nat → Nat → Prop} {M : Nat → Prop} {en : Prop} (h : en) : ∀ d, sm_X1 FO XS M en d 0 := by
  intro d
  cases d with
  | zero => exact Or.inl ⟨h, rfl⟩
  | succ d => exact Or.inl ⟨h, rfl⟩
theorem sm_X1m {XS : Nat → Nat → Prop} {M : Nat → Prop} {en : Prop} {d p q : Nat} (hM : M q) (h : XS d p) (hf : FO p q) : sm_X1 FO XS M en d q := by
  cases d with
  | zero => exact Or.inr ⟨hM, p, h, hf⟩
  | succ d => exact Or.inr (Or.inr (Or.inl ⟨hM, p, h, hf⟩))
theorem sm_step (A : sm_A m G Rp Sc FO) {XS : Nat → Nat → Prop} {M : Nat → Prop} {en : Prop} {c v0 u : Nat → Nat} (hX : sm_C m K Rp XS c)
    (w1 : ∀ s, s ≤ m → v0 s ≤ c s + 1 ∧ v0 s ≤ K + 1) (w2 : en → v0 0 = 0)
    (w3 : ∀ q t g, Sc q t g → (M q → v0 g ≤ c t) ∧ v0 g ≤ c t + 1)
    (w4 : ∀ s, s ≤ m → (v0 s = c s + 1 ∨ v0 s = K + 1) ∨ (en ∧ s = 0) ∨ (∃ q t, Sc q t s ∧ ((M q ∧ v0 s = c t) ∨ v0 s = c t + 1)))
    (hC : bf_C G m v0 u) : sm_C m K Rp (sm_X1 FO XS M en) u := by
  obtain ⟨a1, a2, a3, a4, a5, a7, a8⟩ := A
  have hG : ∀ a b c, G a b c → a ≤ m ∧ b ≤ m := fun a b c h => ⟨(a4 a b c h).1, (a4 a b c h).2.1⟩
  obtain ⟨a5a, a5b⟩ := a5 u hC.2.2
  have back : ∀ d, d ≤ K → ∀ p, sm_X1 FO XS M en d p → ∀ v, Rp p v → u v ≤ d := by
    have mt : ∀ d, d ≤ K → ∀ p, M p → (∃ p', XS d p' ∧ FO p' p) → ∀ v, Rp p v → u v ≤ d := by
      intro d hd p hM ⟨p', hp, hf⟩ v hv
      obtain ⟨t, g, hs, ht⟩ := (a3 p' p).mp hf
      have q := a2 p t g hs
      have e1 := ((hX t q.2.1).2 d hd).mpr ⟨p', hp, ht⟩
      have e2 := (w3 p t g hs).1 hM
      have e3 := hC.2.1 g q.2.2.1
      have e4 := a5b p t g v hs hv
      omega
    have en0 : ∀ d p v, en ∧ p = 0 → Rp p v → u v ≤ d := by
      rintro d p v ⟨he, rfl⟩ hv
      have := a5a v hv
      have := hC.2.1 0 (Nat.zero_le _)
      have := w2 he
      omega
    intro d
    induction d with
    | zero =>
      intro hd p hp v hv
      rcases hp with h | ⟨hM, h⟩
      · exact en0 0 p v h hv
      · exact mt 0 hd p hM h v hv
    | succ d ih =>
      intro hd p hp v hv
      rcases hp with h | h | ⟨hM, h⟩ | ⟨p', h, hf⟩
      · exact en0 _ p v h hv
      · have hvm := a8 p v hv
        have e1 := ((hX v hvm).2 d (by omega)).mpr ⟨p, h, hv⟩
        have e2 := (w1 v hvm).1
        have e3 := hC.2.1 v hvm
        omega
      · exact mt _ hd p hM h v hv
      · obtain ⟨t, g, hs, ht⟩ := (a3 p' p).mp hf
        have q := a2 p t g hs
        have e4 := a5b p t g v hs hv
        rcases h with h | h
        · have e1 := ((hX t q.2.1).2 d (by omega)).mpr ⟨p', h, ht⟩
          have e2 := (w3 p t g hs).2
          have e3 := hC.2.1 g q.2.2.1
          omega
        · have e1 := ih (by omega) p' h t ht
          have e2 := hC.2.2 t g 1 q.2.2.2
          omega
  intro s hs
  have hup : u s ≤ K + 1 := by
    have := hC.2.1 s hs
    have := (w1 s hs).2
    omega
  refine ⟨hup, fun d hd => ⟨fun h => ?_, fun ⟨p, hp, hr⟩ => back d hd p hp s hr⟩⟩
  refine bf_CQ hG hC (Q := fun s k => ∀ d, d ≤ K → k ≤ d → ∃ p, sm_X1 FO XS M en d p ∧ Rp p s) ?_ ?_ hs d hd h
  · intro s hs d hd h
    have sub : ∀ t q, Sc q t s → c t + 1 ≤ d → ∃ p, sm_X1 FO XS M en d p ∧ Rp p s := by
      intro t q hsc hle
      obtain ⟨e, rfl⟩ : ∃ e, d = e + 1 := ⟨d - 1, by omega⟩
      have z := a2 q t s hsc
      obtain ⟨p, hp, hr⟩ := ((hX t z.2.1).2 e (by omega)).mp (by omega)
      exact ⟨q, Or.inr (Or.inr (Or.inr ⟨p, Or.inl hp, (a3 p q).mpr ⟨t, s, hsc, hr⟩⟩)), z.1⟩
    rcases w4 s hs with (e | e) | ⟨he, rfl⟩ | ⟨q, t, hsc, ⟨hM, e⟩ | e⟩
    · obtain ⟨f, rfl⟩ : ∃ e, d = e + 1 := ⟨d - 1, by omega⟩
      obtain ⟨p, hp, hr⟩ := ((hX s hs).2 f (by omega)).mp (by omega)
      exact ⟨p, Or.inr (Or.inl hp), hr⟩
    · omega
    · exact ⟨0, sm_X1e he d, a7⟩
    · have z := a2 q t s hsc
      obtain ⟨p, hp, hr⟩ := ((hX t z.2.1).2 d hd).mp (by omega)
      exact ⟨q, sm_X1m hM hp ((a3 p q).mpr ⟨t, s, hsc, hr⟩), z.1⟩
    · exact sub t q hsc (by omega)
  · intro a b c k hg hq d hd h
    rcases (a4 a b c hg).2.2 with rfl | ⟨rfl, q, hsc⟩
    · obtain ⟨p, hp, hr⟩ := hq d hd h
      exact ⟨p, hp, a1 p a b hr hg⟩
    · obtain ⟨e, rfl⟩ : ∃ e, d = e + 1 := ⟨d - 1, by omega⟩
      obtain ⟨p, hp, hr⟩ := hq e (by omega) (by omega)
      exact ⟨q, Or.inr (Or.inr (Or.inr ⟨p, Or.inr hp, (a3 p q).mpr ⟨a, b, hsc, hr⟩⟩)), (a2 q a b hsc).1⟩
end
section
variable {W : Nat → Nat} {m : Nat}
abbrev sm_G (W : Nat → Nat) (m : Nat) (a b c : Nat) : Prop := ∃ x, x < m ∧ gr_E W x a b c
/-- what the state p of the sets reaches without a letter -/
def sm_R (W : Nat → Nat) (m : Nat) (p v : Nat) : Prop :=
  (p = 0 ∧ fg_P (gr_E W) 0 m 0 v 0) ∨ ∃ s, gr_S W s ∧ s < m ∧ gr_ct W s + 1 = p ∧ fg_P (gr_E W) 0 m (gr_tg W m s) v 0
def sm_S (W : Nat → Nat) (m : Nat) (q t g : Nat) : Prop := gr_S W t ∧ t < m ∧ gr_ct W t + 1 = q ∧ g = gr_tg W m t
theorem sm_path {u : Nat → Nat} (h : ∀ a b c, sm_G W m a b c → u b ≤ u a + c) {a b k : Nat} (hp : fg_P (gr_E W) 0 m a b k) : u b ≤ u a + k := by
  refine hp (fun v j => u v ≤ u a + j) (by simp) ?_
  intro x y z c j _ h2 h3 h4
  have := h y z c ⟨x, h2, h3⟩
  omega
/-- shortest: the least cost of a way through is what relaxing from the start finds -/
theorem sm_min {n : Nat} {v0 u : Nat → Nat} (hG : ∀ a b c, sm_G W m a b c → a ≤ m ∧ b ≤ m) (h0 : v0 0 = 0) (h1 : ∀ s, s ≤ m → s ≠ 0 → v0 s = 1000) (hC : bf_C (sm_G W m) m v0 u)
    (hp : fg_P (gr_E W) 0 m 0 m n) (hm : ∀ k, fg_P (gr_E W) 0 m 0 m k → n ≤ k) (hn : n < 1000) : u m = n := by
  have e1 : u m ≤ n := by
    have := sm_path hC.2.2 hp
    have := hC.2.1 0 (Nat.zero_le _)
    omega
  have e2 : 1000 ≤ u m ∨ fg_P (gr_E W) 0 m 0 m (u m) := by
    refine bf_CQ hG hC (Q := fun s k => 1000 ≤ k ∨ fg_P (gr_E W) 0 m 0 s k) ?_ ?_ (Nat.le_refl m)
    · intro s hs
      by_cases c : s = 0
      · subst c; rw [h0]; exact Or.inr fg_P0
      · rw [h1 s hs c]; exact Or.inl (Nat.le_refl _)
    · intro a b c k ⟨x, hx, hE⟩ hq
      rcases hq with hq | hq
      · exact Or.inl (by omega)
      · exact Or.inr (fg_Pe hq (Nat.zero_le _) hx hE)
  rcases e2 with e2 | e2
  · omega
  · have := hm _ e2; omega
end
end
section
/-! The whole graph of a valid pattern. -/
section
variable {W : Nat → Nat} {m : Nat}
theorem gv_cls (hV : gr_V W m) {t : Nat} (ht : t < m) (h91 : W t = 91) : ∃ e, t < e ∧ e < m ∧ W e = 93 ∧ gr_ic W e = true ∧ gr_cs W e = t := by
  have hV' := hV
  obtain ⟨v1, v0, vm, vi, _, _, vc, _⟩ := hV
  have A : ∀ d, t + 1 + d < m → (gr_ic W (t + 1 + d) = true ∧ gr_cs W (t + 1 + d) = t) ∨ ∃ e, t < e ∧ e < t + 1 + d ∧ W e = 93 ∧ gr_ic W e = true ∧ gr_cs W e = t := by
    intro d
    induction d with
    | zero =>
      intro _
      left
      show gr_ic W (t + 1) = true ∧ gr_cs W (t + 1) = t
      rw [gr_ic1, gr_cs1, if_pos h91]
      simp [h91]
    | succ d ih =>
      intro hd
      rcases ih (by omega) with ⟨h1, h2⟩ | ⟨e, h1, h2, h3⟩
      · by_cases c : W (t + 1 + d) = 93
        · right; exact ⟨t + 1 + d, by omega, by omega, c, h1, h2⟩
        · left
          have hn : W (t + 1 + d) ≠ 91 := by
            have := vc (t + 1 + d) (by omega) (by omega) h1; omega
          rw [show t + 1 + (d + 1) = (t + 1 + d) + 1 from by omega, gr_ic1, gr_cs1, if_neg hn]
          refine ⟨?_, h2⟩
          rw [h1]; simp [c]
      · right; exact ⟨e, h1, by omega, h3⟩
  have hlt : t < m - 1 := by
    by_cases c : t = m - 1
    · rw [c] at h91; omega
    · omega
  rcases A (m - 1 - (t + 1)) (by omega) with ⟨h1, _⟩ | ⟨e, h1, h2, h3⟩
  · rw [show t + 1 + (m - 1 - (t + 1)) = m - 1 from by omega, vi] at h1
    exact Bool.noConfusion h1
  · exact ⟨e, h1, by omega, h3⟩
theorem gv_93 (hV : gr_V W m) {x : Nat} (hx : x < m) (h : W x = 93) : gr_ic W x = true := by
  obtain ⟨v1, v0, vm, vi, _, _, vc, vn⟩ := hV
  have hx1 : 1 ≤ x := by
    by_cases c : x = 0
    · subst c; omega
    · omega
  cases hc : gr_ic W x with
  | true => rfl
  | false => have := vn x hx1 hx hc; omega
theorem gv_tgc (hV : gr_V W m) {e : Nat} (he : e < m) (hi : gr_ic W e = true) (h : W e = 93) : gr_tg W m (gr_cs W e) = e + 1 := by
  obtain ⟨g1, g2, g3, g4, g5⟩ := gr_icP hV e he hi
  exact gr_tg2 g3 g2 (by omega) h (fun j h1 h2 => by have := (g5 j h1 h2).1; omega)
theorem gv_ctc (hV : gr_V W m) : ∀ j, j < m → gr_ic W j = true → gr_ct W j = gr_ct W (gr_cs W j) + 1 := by
  intro j hj hi
  obtain ⟨g1, g2, g3, g4, g5⟩ := gr_icP hV j hj hi
  have A : ∀ d, gr_cs W j + 1 + d ≤ j → gr_ct W (gr_cs W j + 1 + d) = gr_ct W (gr_cs W j) + 1 := by
    intro d
    induction d with
    | zero =>
      intro _
      show gr_ct W (gr_cs W j + 1) = _
      rw [gr_ct1, if_pos (Or.inr (Or.inl g3))]
    | succ d ih =>
      intro hd
      have q := g5 (gr_cs W j + 1 + d) (by omega) (by omega)
      rw [show gr_cs W j + 1 + (d + 1) = (gr_cs W j + 1 + d) + 1 from by omega, gr_ct1, if_neg, ih (by omega)]
      rintro (h | h | ⟨_, h⟩)
      · have := q.1; omega
      · have := q.1; omega
      · rw [q.2.1] at h; exact Bool.noConfusion h
  have := A (j - (gr_cs W j + 1)) (by omega)
  rw [show gr_cs W j + 1 + (j - (gr_cs W j + 1)) = j from by omega] at this
  exact this
/-- the states of the sets lie in the graph as the simulation asks -/
theorem gv_A (hV : gr_V W m) {F L : Nat → Prop} {n : Nat} {O : Nat → Nat → Prop} (hG : fg_G (gr_E W) (gr_tg W m) (gr_S W) 0 m F L n O) {FO : Nat → Nat → Prop}
    (hF : ∀ p q, FO p q ↔ ∃ t g, sm_S W m q t g ∧ sm_R W m p t) : sm_A m (sm_G W m) (sm_R W m) (sm_S W m) FO := by
  obtain ⟨_, E, T, _, _, _, _, _⟩ := hG
  have hE : ∀ a b c, sm_G W m a b c → a ≤ m ∧ b ≤ m := by
    intro a b c ⟨x, hx, h⟩
    have := E x a b c (Nat.zero_le _) hx h
    omega
  have hP : ∀ u v k, u ≤ m → fg_P (gr_E W) 0 m u v k → v ≤ m := by
    intro u v k hu hp
    refine hp (fun v _ => v ≤ m) hu ?_
    intro x y z c j _ h2 h3 _
    exact (E x y z c (Nat.zero_le _) h2 h3).2.2.2
  refine ⟨?_, ?_, hF, ?_, ?_, Or.inl ⟨rfl, fg_P0⟩, ?_⟩
  · rintro p a b (⟨h1, h2⟩ | ⟨s, h1, h2, h3, h4⟩) ⟨x, hx, hg⟩
    · exact Or.inl ⟨h1, fg_Pe h2 (Nat.zero_le _) hx hg⟩
    · exact Or.inr ⟨s, h1, h2, h3, fg_Pe h4 (Nat.zero_le _) hx hg⟩
  · rintro q t g ⟨h1, h2, h3, rfl⟩
    refine ⟨Or.inr ⟨t, h1, h2, h3, fg_P0⟩, by omega, (T t h1 (Nat.zero_le _) h2).2, ?_⟩
    rcases h1 with h | h | h
    · rw [gr_tg1 (by omega)]; exact ⟨t, h2, (gs_E46 h).mpr ⟨rfl, rfl, rfl⟩⟩
    · obtain ⟨e, e1, e2, e3, e4, e5⟩ := gv_cls hV h2 h
      have := gv_tgc hV e2 e4 e3
      rw [e5] at this
      rw [this]
      exact ⟨e, e2, (gs_E93 e3).mpr ⟨e5.symm, rfl, rfl⟩⟩
    · rw [gr_tg1 (by have := h.1; omega)]; exact ⟨t, h2, (gs_EL h.1 h.2).mpr ⟨rfl, rfl, rfl⟩⟩
  · intro a b c h
    refine ⟨(hE a b c h).1, (hE a b c h).2, ?_⟩
    obtain ⟨x, hx, hg⟩ := h
    rcases hg with ⟨h1, rfl, rfl, rfl⟩ | ⟨h1, rfl, rfl, rfl⟩ | ⟨_, _, _, h⟩ | ⟨_, _, _, h⟩ | ⟨_, h, _⟩ | ⟨_, h, _⟩
    · refine Or.inr ⟨rfl, gr_ct W a + 1, ?_, hx, rfl, ?_⟩
      · rcases h1 with h | h
        · exact Or.inr (Or.inr h)
        · exact Or.inl h
      · rw [gr_tg1 (by omega)]
    · have hi := gv_93 hV hx h1
      obtain ⟨g1, g2, g3, g4, g5⟩ := gr_icP hV x hx hi
      exact Or.inr ⟨rfl, _, Or.inr (Or.inl g3), by omega, rfl, (gv_tgc hV hx hi h1).symm⟩
    · exact Or.inl h
    · exact Or.inl h
    · exact Or.inl h
    · exact Or.inl h
  · intro u hu
    constructor
    · rintro v (⟨_, h⟩ | ⟨s, _, _, h, _⟩)
      · exact sm_path hu h
      · omega
    · rintro q t g v ⟨h1, h2, h3, rfl⟩ (⟨h, _⟩ | ⟨s, e1, e2, e3, e4⟩)
      · omega
      · have : s = t := gr_ctI e1 h1 (by omega)
        subst this
        exact sm_path hu e4
  · rintro p v (⟨_, h⟩ | ⟨s, e1, e2, e3, e4⟩)
    · exact hP 0 v 0 (Nat.zero_le _) h
    · exact hP _ v 0 (T s e1 (Nat.zero_le _) e2).2 e4
end
end
section
/-! Sets of positions in the bits of a long. -/
def bs_b (x : Int64) (i : Nat) : Bool := x.toBitVec.getLsbD i
theorem bs_or (x y : Int64) (i : Nat) : bs_b (x ||| y) i = (bs_b x i || bs_b y i) := by
  unfold bs_b; rw [Int64.toBitVec_or, BitVec.getLsbD_or]
theorem bs_and (x y : Int64) (i : Nat) : bs_b (x &&& y) i = (bs_b x i && bs_b y i) := by
  unfold bs_b; rw [Int64.toBitVec_and, BitVec.getLsbD_and]
theorem bs_0 (i : Nat) : bs_b 0 i = false := by
  unfold bs_b
  show (BitVec.ofNat 64 0).getLsbD i = false
  simp
theorem bs_p {π i : Nat} (h : π < 64) (hi : i < 64) : bs_b (lN (2 ^ π)) i = true ↔ i = π := by
  unfold bs_b
  have e : (lN (2 ^ π)).toBitVec = BitVec.ofNat 64 (2 ^ π) := rfl
  rw [e, BitVec.getLsbD_ofNat]
  simp [Nat.testBit_two_pow, hi]
  omega
theorem bs_ne0 (x : Int64) : ¬ x = 0 ↔ ∃ i, i < 64 ∧ bs_b x i = true := by
  constructor
  · intro h
    apply Classical.byContradiction
    intro hn
    apply h
    have : x.toBitVec = (0 : Int64).toBitVec := by
      apply BitVec.eq_of_getLsbD_eq
      intro i hi
      have h0 : bs_b 0 i = false := bs_0 i
      have hx : bs_b x i = false := by
        cases hc : bs_b x i with
        | false => rfl
        | true => exact absurd ⟨i, hi, hc⟩ hn
      unfold bs_b at h0 hx
      rw [hx, h0]
    exact Int64.toBitVec_inj.mp this
  · rintro ⟨i, _, h⟩ rfl
    rw [bs_0] at h; exact Bool.noConfusion h
/-- the bits of x are the numbers of the positions in F -/
def bs_B (W : Nat → Nat) (x : Int64) (F : Nat → Prop) : Prop := ∀ b, b < 64 → (bs_b x b = true ↔ ∃ s, F s ∧ gr_ct W s + 1 = b)
/-- the followers' bits -/
def bs_F (W : Nat → Nat) (f : Nat → Int64) (O : Nat → Nat → Prop) : Prop := ∀ p q, p < 64 → q < 64 → (bs_b (f p) q = true ↔ ∃ s t, O s t ∧ gr_ct W s + 1 = p ∧ gr_ct W t + 1 = q)
/-- what addFollowers makes of the followers -/
def bs_add (f : Nat → Int64) (st ad : Int64) : Nat → Int64 := fun s => if s < 64 ∧ bs_b st s = true then f s ||| ad else f s
section
variable {W : Nat → Nat}
theorem bs_B0 : bs_B W 0 (fun _ => False) := by
  intro b _
  rw [bs_0]
  exact ⟨fun h => Bool.noConfusion h, fun ⟨_, h, _⟩ => h.elim⟩
theorem bs_Bor {x y : Int64} {F H : Nat → Prop} (h1 : bs_B W x F) (h2 : bs_B W y H) : bs_B W (x ||| y) (fun s => F s ∨ H s) := by
  intro b hb
  rw [bs_or, Bool.or_eq_true, h1 b hb, h2 b hb]
  constructor
  · rintro (⟨s, h, e⟩ | ⟨s, h, e⟩)
    · exact ⟨s, Or.inl h, e⟩
    · exact ⟨s, Or.inr h, e⟩
  · rintro ⟨s, h | h, e⟩
    · exact Or.inl ⟨s, h, e⟩
    · exact Or.inr ⟨s, h, e⟩
theorem bs_Bc {x : Int64} {F H : Nat → Prop} (h1 : bs_B W x F) (h : ∀ s, F s ↔ H s) : bs_B W x H := by
  intro b hb
  rw [h1 b hb]
  exact ⟨fun ⟨s, a, e⟩ => ⟨s, (h s).mp a, e⟩, fun ⟨s, a, e⟩ => ⟨s, (h s).mpr a, e⟩⟩
theorem bs_B1 {s : Nat} (h : gr_ct W s + 1 < 64) : bs_B W (lN (2 ^ (gr_ct W s + 1))) (fun q => q = s) := by
  intro b hb
  rw [bs_p h hb]
  constructor
  · intro e; exact ⟨s, rfl, e.symm⟩
  · rintro ⟨q, rfl, e⟩; exact e.symm
theorem bs_Fadd {f : Nat → Int64} {O : Nat → Nat → Prop} {st ad : Int64} {L F : Nat → Prop} (h : bs_F W f O) (h1 : bs_B W st L) (h2 : bs_B W ad F) :
    bs_F W (bs_add f st ad) (fun s t => O s t ∨ (L s ∧ F t)) := by
  intro p q hp hq
  unfold bs_add
  by_cases c : bs_b st p = true
  · rw [if_pos ⟨hp, c⟩, bs_or, Bool.or_eq_true, h p q hp hq, h2 q hq]
    constructor
    · rintro (⟨s, t, e1, e2⟩ | ⟨t, e1, e2⟩)
      · exact ⟨s, t, Or.inl e1, e2⟩
      · obtain ⟨s, e3, e4⟩ := (h1 p hp).mp c
        exact ⟨s, t, Or.inr ⟨e3, e1⟩, e4, e2⟩
    · rintro ⟨s, t, e1 | ⟨_, e1⟩, e2, e3⟩
      · exact Or.inl ⟨s, t, e1, e2, e3⟩
      · exact Or.inr ⟨t, e1, e3⟩
  · rw [if_neg (fun h => c h.2), h p q hp hq]
    constructor
    · rintro ⟨s, t, e1, e2⟩; exact ⟨s, t, Or.inl e1, e2⟩
    · rintro ⟨s, t, e1 | ⟨e1, _⟩, e2, e3⟩
      · exact ⟨s, t, e1, e2, e3⟩
      · exact absurd ((h1 p hp).mpr ⟨s, e1, e2⟩) c
theorem bs_Fc {f : Nat → Int64} {O O' : Nat → Nat → Prop} (h : bs_F W f O) (e : ∀ s t, O s t ↔ O' s t) : bs_F W f O' := by
  intro p q hp hq
  rw [h p q hp hq]
  exact ⟨fun ⟨s, t, a, b⟩ => ⟨s, t, (e s t).mp a, b⟩, fun ⟨s, t, a, b⟩ => ⟨s, t, (e s t).mpr a, b⟩⟩
end
end
section
/-! What compile knows of each level while it reads the pattern. -/
section
variable (W : Nat → Nat) (m : Nat)
abbrev xl_G (a b : Nat) (F L : Nat → Prop) (n : Nat) (O : Nat → Nat → Prop) : Prop := fg_G (gr_E W) (gr_tg W m) (gr_S W) a b F L n O
abbrev xl_R (a b : Nat) (L : Nat → Prop) : Prop := fg_R (gr_E W) (gr_tg W m) (gr_S W) a b L
abbrev xl_U (o b : Nat) (F L : Nat → Prop) (n : Nat) (O : Nat → Nat → Prop) : Prop := fg_U (gr_E W) (gr_tg W m) (gr_S W) (gr_Ba W) o b F L n O
/-- a level: the parenthesis o, the branch from b to e -/
def xl_L (o b e : Nat) (uf ul : Int64) (us : Int32) (bf bl : Int64) (bs : Int32) (R : Nat → Nat → Prop) : Prop :=
  ∃ (uF uL : Nat → Prop) (un : Nat) (uO : Nat → Nat → Prop) (bF bL : Nat → Prop) (bn : Nat) (bO : Nat → Nat → Prop),
    xl_U W m o b uF uL un uO ∧ xl_G W m b e bF bL bn bO ∧
    bs_B W uf uF ∧ bs_B W ul uL ∧ us = nI un ∧ un ≤ 64 ∧ bs_B W bf bF ∧ bs_B W bl bL ∧ bs = nI bn ∧ bn + gr_ct W b ≤ gr_ct W e ∧
    (∀ s t, R s t ↔ uO s t ∨ bO s t)
/-- the newest piece, from ps to i -/
def xl_P (i ps : Nat) (pf pl : Int64) (pn : Int32) (R : Nat → Nat → Prop) : Prop :=
  ∃ (pF pL : Nat → Prop) (n : Nat), bs_B W pf pF ∧ bs_B W pl pL ∧ pn = nI n ∧
    ((gr_ic W i = false ∧ xl_G W m ps i pF pL n R ∧ n + gr_ct W ps ≤ gr_ct W i ∧
        ((ps = i ∧ (W (i - 1) = 40 ∨ W (i - 1) = 124)) ∨ (ps < i ∧ gr_as W i = ps ∧ xl_R W m ps i pL))) ∨
     (gr_ic W i = true ∧ ps = gr_cs W i ∧ (∀ s, pF s ↔ s = ps) ∧ (∀ s, pL s ↔ s = ps) ∧ n = 1 ∧ ∀ s t, ¬ R s t))
/-- all levels before character i; the branch of the newest one ends at ps -/
def xl_V (i ps : Nat) (lev : Int32) (uf ul : Nat → Int64) (us : Nat → Int32) (bf bl : Nat → Int64) (bs : Nat → Int32) (R : Nat → Nat → Prop) : Prop :=
  ∃ (l : Nat) (bS be : Nat → Nat) (Q : Nat → Nat → Nat → Prop), gr_dp W i = l + 1 ∧ lev = nI l ∧
    (∀ j, j ≤ l → xl_L W m (gr_sk W i j) (bS j) (be j) (uf j) (ul j) (us j) (bf j) (bl j) (bs j) (Q j)) ∧
    (∀ j, j < l → be j = gr_sk W i (j + 1)) ∧ be l = ps ∧
    (∀ j y, j ≤ l → bS j ≤ y → y < i → ¬ gr_Ba W (gr_sk W i j) y) ∧
    (∀ s t, R s t ↔ ∃ j, j ≤ l ∧ Q j s t)
/-- what holds before character i is read -/
def xl_I (i : Nat) (lev : Int32) (uf ul : Nat → Int64) (us : Nat → Int32) (bf bl : Nat → Int64) (bs : Nat → Int32) (pf pl : Int64) (pn : Int32) (fo : Nat → Int64) : Prop :=
  ∃ (ps : Nat) (R RP : Nat → Nat → Prop), xl_V W m i ps lev uf ul us bf bl bs R ∧ xl_P W m i ps pf pl pn RP ∧ bs_F W fo (fun s t => R s t ∨ RP s t)
end
section
variable {W : Nat → Nat} {m : Nat}
theorem xl_join {i o b e : Nat} {uf ul : Int64} {us : Int32} {bf bl : Int64} {bs : Int32} {R : Nat → Nat → Prop} {pf pl : Int64} {pn : Int32} {RP : Nat → Nat → Prop}
    (hm : gr_ct W i ≤ 63) (hi : gr_ic W i = false) (h : xl_L W m o b e uf ul us bf bl bs R) (hp : xl_P W m i e pf pl pn RP)
    {bf' bl' : Int64} (h1 : bf' = if bs = 0 then bf ||| pf else bf) (h2 : bl' = (if 0 < pn then 0 else bl) ||| pl) :
    ∃ A : Nat → Nat → Prop, xl_L W m o b i uf ul us bf' bl' (bs + pn) (fun s t => R s t ∨ RP s t ∨ A s t) ∧
      ∀ fo O, bs_F W fo O → bs_F W (bs_add fo bl pf) (fun s t => O s t ∨ A s t) := by
  obtain ⟨uF, uL, un, uO, bF, bL, bn, bO, l1, l2, l3, l4, l5, l6, l7, l8, l9, l10, l11⟩ := h
  obtain ⟨pF, pL, n, p1, p2, p3, hc⟩ := hp
  rcases hc with ⟨_, p4, p5, _⟩ | ⟨c, _⟩
  · refine ⟨fun s t => bL s ∧ pF t, ⟨uF, uL, un, uO, _, _, _, _, l1, fg_cat l2 p4, l3, l4, l5, l6, ?_, ?_, ?_, by omega, ?_⟩, fun fo O hf => bs_Fadd hf l8 p1⟩
    · rw [h1, l9]
      have hb : bn < 2 ^ 31 := by omega
      by_cases c : bn = 0
      · subst c
        rw [if_pos nI_0]
        exact bs_Bc (bs_Bor l7 p1) (fun s => by simp)
      · rw [if_neg (nI_ne0 (by omega) hb)]
        exact bs_Bc l7 (fun s => by simp [c])
    · rw [h2, p3]
      have hb : n < 2 ^ 31 := by omega
      by_cases c : n = 0
      · subst c
        rw [if_neg (by rw [nI_0]; decide)]
        exact bs_Bc (bs_Bor l8 p2) (fun s => by simp)
      · rw [if_pos (by rw [← nI_0]; exact nI_lt (by omega) hb)]
        exact bs_Bc (bs_Bor bs_B0 p2) (fun s => by simp [c])
    · rw [l9, p3, nI_add]
    · intro s t
      dsimp only
      rw [l11]
      constructor
      · rintro ((h | h) | h | h)
        · exact Or.inl h
        · exact Or.inr (Or.inl h)
        · exact Or.inr (Or.inr (Or.inl h))
        · exact Or.inr (Or.inr (Or.inr h))
      · rintro (h | h | h | h)
        · exact Or.inl (Or.inl h)
        · exact Or.inl (Or.inr h)
        · exact Or.inr (Or.inl h)
        · exact Or.inr (Or.inr h)
  · rw [hi] at c; exact Bool.noConfusion c
/-- joinPiece over all levels -/
theorem xl_stepJ {i : Nat} {lev : Int32} {uf ul : Nat → Int64} {us : Nat → Int32} {bf bl : Nat → Int64} {bs : Nat → Int32} {pf pl : Int64} {pn : Int32} {fo : Nat → Int64} {l : Nat}
    (hm : gr_ct W i ≤ 63) (hi : gr_ic W i = false) (h : xl_I W m i lev uf ul us bf bl bs pf pl pn fo) (hl : gr_dp W i = l + 1) {bf' bl' : Nat → Int64} {bs' : Nat → Int32} {fo' : Nat → Int64}
    (e1 : bf' = fun j => if j = l then (if bs l = 0 then bf l ||| pf else bf l) else bf j)
    (e2 : bl' = fun j => if j = l then (if 0 < pn then 0 else bl l) ||| pl else bl j)
    (e3 : bs' = fun j => if j = l then bs l + pn else bs j) (e4 : fo' = bs_add fo (bl l) pf) :
    lev = nI l ∧ ∃ R, xl_V W m i i lev uf ul us bf' bl' bs' R ∧ bs_F W fo' R := by
  obtain ⟨ps, R, RP, ⟨l', bS, be, Q, v1, v2, v3, v4, v5, v6, v7⟩, hP, hF⟩ := h
  have : l' = l := by omega
  subst this
  subst v5
  obtain ⟨A, hA1, hA2⟩ := xl_join hm hi (v3 l' (Nat.le_refl _)) hP (rfl) (rfl)
  refine ⟨v2, fun s t => (R s t ∨ RP s t) ∨ A s t, ⟨l', bS, fun j => if j = l' then i else be j, fun j => if j = l' then (fun s t => Q l' s t ∨ RP s t ∨ A s t) else Q j, v1, v2, ?_, ?_, ?_, v6, ?_⟩, by rw [e4]; exact hA2 fo _ hF⟩
  · intro j hj
    subst e1 e2 e3
    by_cases c : j = l'
    · subst c; simp only [if_true]; exact hA1
    · simp only [if_neg c]; exact v3 j hj
  · intro j hj
    dsimp only
    rw [if_neg (by omega)]; exact v4 j hj
  · simp
  · intro s t
    constructor
    · rintro ((h | h) | h)
      · obtain ⟨j, hj, hq⟩ := (v7 s t).mp h
        refine ⟨j, hj, ?_⟩
        by_cases c : j = l'
        · subst c; simp only [if_true]; exact Or.inl hq
        · simp only [if_neg c]; exact hq
      · exact ⟨l', Nat.le_refl _, by simp only [if_true]; exact Or.inr (Or.inl h)⟩
      · exact ⟨l', Nat.le_refl _, by simp only [if_true]; exact Or.inr (Or.inr h)⟩
    · rintro ⟨j, hj, hq⟩
      by_cases c : j = l'
      · subst c
        simp only [if_true] at hq
        rcases hq with h | h | h
        · exact Or.inl (Or.inl ((v7 s t).mpr ⟨j, hj, h⟩))
        · exact Or.inl (Or.inr h)
        · exact Or.inr h
      · simp only [if_neg c] at hq
        exact Or.inl (Or.inl ((v7 s t).mpr ⟨j, hj, hq⟩))
end
end
section
/-! One character more. -/
section
variable {W : Nat → Nat} {m : Nat}
theorem xs_skn {i j : Nat} (h : W i ≠ 40) : gr_sk W (i + 1) j = gr_sk W i j := by rw [gr_sk1, if_neg (fun c => h c.1)]
theorem xs_dpn {i : Nat} (h : W i ≠ 40) (h' : W i ≠ 41) : gr_dp W (i + 1) = gr_dp W i := by rw [gr_dp1, if_neg h, if_neg h']
theorem xs_Vn {i ps : Nat} {lev : Int32} {uf ul : Nat → Int64} {us : Nat → Int32} {bf bl : Nat → Int64} {bs : Nat → Int32} {R : Nat → Nat → Prop}
    (h1 : W i ≠ 40) (h2 : W i ≠ 41) (h3 : W i ≠ 124) (h : xl_V W m i ps lev uf ul us bf bl bs R) : xl_V W m (i + 1) ps lev uf ul us bf bl bs R := by
  obtain ⟨l, bS, be, Q, v1, v2, v3, v4, v5, v6, v7⟩ := h
  refine ⟨l, bS, be, Q, by rw [xs_dpn h1 h2, v1], v2, fun j hj => by rw [xs_skn h1]; exact v3 j hj, fun j hj => by rw [xs_skn h1]; exact v4 j hj, v5, ?_, v7⟩
  intro j y hj hy hyi
  rw [xs_skn h1]
  by_cases c : y = i
  · subst c; intro hb; exact h3 hb.1
  · exact v6 j y hj hy (by omega)
theorem xs_icL {i : Nat} (hi : gr_ic W i = false) (h : W i ≠ 91) : gr_ic W (i + 1) = false := by
  rw [gr_ic1, hi]; simp [h]
theorem xs_ctS {i : Nat} (h : gr_S W i) : gr_ct W (i + 1) = gr_ct W i + 1 := by rw [gr_ct1, if_pos h]
theorem xs_ctN {i : Nat} (h : ¬ gr_S W i) : gr_ct W (i + 1) = gr_ct W i := by rw [gr_ct1, if_neg h]
/-- a letter or a dot -/
theorem xs_letter {i : Nat} {lev : Int32} {uf ul : Nat → Int64} {us : Nat → Int32} {bf bl : Nat → Int64} {bs : Nat → Int32} {fo : Nat → Int64} {R : Nat → Nat → Prop}
    (hm : gr_ct W (i + 1) ≤ 63) (hi : gr_ic W i = false) (hc : gr_L (W i) ∨ W i = 46) (h : xl_V W m i i lev uf ul us bf bl bs R) (hF : bs_F W fo R) :
    xl_I W m (i + 1) lev uf ul us bf bl bs (lN (2 ^ (gr_ct W i + 1))) (lN (2 ^ (gr_ct W i + 1))) (nI 1) fo := by
  have hS : gr_S W i := by
    rcases hc with h | h
    · exact Or.inr (Or.inr ⟨h, hi⟩)
    · exact Or.inl h
  have hct := xs_ctS hS
  have hB : bs_B W (lN (2 ^ (gr_ct W i + 1))) (fun q => q = i) := bs_B1 (by omega)
  have g := gs_letter (W := W) (m := m) (x := i) (by rcases hc with h | h; exact Or.inl ⟨h, hi⟩; exact Or.inr h)
  refine ⟨i, R, fun _ _ => False, xs_Vn (by omega) (by omega) (by omega) h, ⟨_, _, 1, hB, hB, rfl, Or.inl ⟨xs_icL hi (by omega), g.1, by omega, Or.inr ⟨by omega, ?_, g.2⟩⟩⟩, bs_Fc hF (fun s t => by simp)⟩
  rw [gr_as1, if_neg (by omega), if_neg (by omega), if_neg (by omega)]
/-- the opening bracket -/
theorem xs_brack {i : Nat} {lev : Int32} {uf ul : Nat → Int64} {us : Nat → Int32} {bf bl : Nat → Int64} {bs : Nat → Int32} {fo : Nat → Int64} {R : Nat → Nat → Prop}
    (hm : gr_ct W (i + 1) ≤ 63) (hc : W i = 91) (h : xl_V W m i i lev uf ul us bf bl bs R) (hF : bs_F W fo R) :
    xl_I W m (i + 1) lev uf ul us bf bl bs (lN (2 ^ (gr_ct W i + 1))) (lN (2 ^ (gr_ct W i + 1))) (nI 1) fo := by
  have hct := xs_ctS (W := W) (i := i) (Or.inr (Or.inl hc))
  have hB : bs_B W (lN (2 ^ (gr_ct W i + 1))) (fun q => q = i) := bs_B1 (by omega)
  refine ⟨i, R, fun _ _ => False, xs_Vn (by omega) (by omega) (by omega) h, ⟨_, _, 1, hB, hB, rfl, Or.inr ⟨by rw [gr_ic1]; simp [hc], by rw [gr_cs1, if_pos hc], fun s => Iff.rfl, fun s => Iff.rfl, rfl, fun s t h => h⟩⟩, bs_Fc hF (fun s t => by simp)⟩
/-- within a class -/
theorem xs_class {i : Nat} {lev : Int32} {uf ul : Nat → Int64} {us : Nat → Int32} {bf bl : Nat → Int64} {bs : Nat → Int32} {pf pl : Int64} {pn : Int32} {fo : Nat → Int64}
    (hV : gr_V W m) (him : i < m) (hi : gr_ic W i = true) (hc : gr_L (W i) ∨ W i = 93) (h : xl_I W m i lev uf ul us bf bl bs pf pl pn fo) :
    xl_I W m (i + 1) lev uf ul us bf bl bs pf pl pn fo := by
  obtain ⟨ps, R, RP, hv, ⟨pF, pL, n, p1, p2, p3, hp⟩, hF⟩ := h
  refine ⟨ps, R, RP, xs_Vn (by omega) (by omega) (by omega) hv, ?_, hF⟩
  rcases hp with ⟨c, _⟩ | ⟨_, q1, q2, q3, q4, q5⟩
  · rw [hi] at c; exact Bool.noConfusion c
  · rcases hc with hc | hc
    · refine ⟨pF, pL, n, p1, p2, p3, Or.inr ⟨?_, ?_, q2, q3, q4, q5⟩⟩
      · rw [gr_ic1, hi]; simp; omega
      · rw [gr_cs1, if_neg (by omega)]; exact q1
    · have g := gs_class hV him hi hc
      have hct := gv_ctc hV i him hi
      have hN := xs_ctN (W := W) (i := i) (gs_nS (by omega))
      have hg := (gr_icP hV i him hi).2.1
      subst q1
      have eR : RP = fun _ _ => False := by funext s t; exact propext ⟨q5 s t, False.elim⟩
      subst eR
      refine ⟨_, _, n, bs_Bc p1 q2, bs_Bc p2 q3, p3, Or.inl ⟨?_, by rw [q4]; exact g.1, by omega, Or.inr ⟨by omega, ?_, g.2⟩⟩⟩
      · rw [gr_ic1, hi]; simp [hc]
      · rw [gr_as1, if_neg (by omega), if_pos hc]
/-- a postfix operator -/
theorem xs_op {i : Nat} {lev : Int32} {uf ul : Nat → Int64} {us : Nat → Int32} {bf bl : Nat → Int64} {bs : Nat → Int32} {pf pl : Int64} {pn pn' : Int32} {fo fo' : Nat → Int64}
    (hi : gr_ic W i = false) (hc : gr_O (W i)) (hp : W (i - 1) ≠ 40 ∧ W (i - 1) ≠ 124) (h : xl_I W m i lev uf ul us bf bl bs pf pl pn fo)
    (e1 : pn' = if W i = 43 then pn else 0) (e2 : fo' = if W i = 63 then fo else bs_add fo pl pf) :
    xl_I W m (i + 1) lev uf ul us bf bl bs pf pl pn' fo' := by
  obtain ⟨ps, R, RP, hv, ⟨pF, pL, n, p1, p2, p3, q⟩, hF⟩ := h
  rcases q with ⟨_, q1, q2, q3⟩ | ⟨c, _⟩
  · rcases q3 with ⟨_, c⟩ | ⟨r1, r2, r3⟩
    · omega
    · have g := gs_op q1 r3 r1 r2 hc
      have hN := xs_ctN (W := W) (i := i) (gs_nS (by omega))
      refine ⟨ps, R, _, xs_Vn (by omega) (by omega) (by omega) hv, ⟨pF, pL, if W i = 43 then n else 0, p1, p2, ?_, Or.inl ⟨xs_icL hi (by omega), g.1, ?_, Or.inr ⟨by omega, ?_, g.2⟩⟩⟩, ?_⟩
      · rw [e1, p3]; split
        · rfl
        · exact nI_0.symm
      · split <;> omega
      · rw [gr_as1, if_pos hc]; exact r2
      · rw [e2]
        by_cases c : W i = 63
        · rw [if_pos c]; exact bs_Fc hF (fun s t => by simp [c])
        · rw [if_neg c]
          refine bs_Fc (bs_Fadd hF p2 p1) (fun s t => ?_)
          constructor
          · rintro ((h | h) | h)
            · exact Or.inl h
            · exact Or.inr (Or.inl h)
            · exact Or.inr (Or.inr ⟨c, h⟩)
          · rintro (h | h | ⟨_, h⟩)
            · exact Or.inl (Or.inl h)
            · exact Or.inl (Or.inr h)
            · exact Or.inr h
  · rw [hi] at c; exact Bool.noConfusion c
theorem xs_pnil {i : Nat} (hi : gr_ic W i = false) (h : W (i - 1) = 40 ∨ W (i - 1) = 124) : xl_P W m i i 0 0 0 (fun _ _ => False) :=
  ⟨_, _, 0, bs_B0, bs_B0, nI_0.symm, Or.inl ⟨hi, fg_nil i, by omega, Or.inl ⟨rfl, h⟩⟩⟩
/-- the opening parenthesis -/
theorem xs_open {i l : Nat} {lev : Int32} {uf ul : Nat → Int64} {us : Nat → Int32} {bf bl : Nat → Int64} {bs : Nat → Int32} {uf' ul' : Nat → Int64} {us' : Nat → Int32} {bf' bl' : Nat → Int64} {bs' : Nat → Int32} {fo : Nat → Int64} {R : Nat → Nat → Prop}
    (hi : gr_ic W i = false) (hc : W i = 40) (hl : gr_dp W i = l + 1) (h : xl_V W m i i lev uf ul us bf bl bs R) (hF : bs_F W fo R)
    (e1 : uf' = fun j => if j = l + 1 then 0 else uf j) (e2 : ul' = fun j => if j = l + 1 then 0 else ul j) (e3 : us' = fun j => if j = l + 1 then nI 64 else us j)
    (e4 : bf' = fun j => if j = l + 1 then 0 else bf j) (e5 : bl' = fun j => if j = l + 1 then 0 else bl j) (e6 : bs' = fun j => if j = l + 1 then 0 else bs j) :
    xl_I W m (i + 1) (nI (l + 1)) uf' ul' us' bf' bl' bs' 0 0 0 fo := by
  obtain ⟨l', bS, be, Q, v1, v2, v3, v4, v5, v6, v7⟩ := h
  have : l' = l := by omega
  subst this
  have hd : gr_dp W (i + 1) = l' + 1 + 1 := by rw [gr_dp1, if_pos hc, v1]
  have sk1 : gr_sk W (i + 1) (l' + 1) = i := by rw [gr_sk1, if_pos ⟨hc, v1.symm⟩]
  have sk0 : ∀ j, j ≤ l' → gr_sk W (i + 1) j = gr_sk W i j := fun j hj => by rw [gr_sk1, if_neg (by omega)]
  refine ⟨i + 1, R, fun _ _ => False, ⟨l' + 1, fun j => if j = l' + 1 then i + 1 else bS j, fun j => if j = l' + 1 then i + 1 else be j, fun j => if j = l' + 1 then (fun _ _ => False) else Q j, hd, rfl, ?_, ?_, ?_, ?_, ?_⟩, xs_pnil (xs_icL hi (by omega)) (Or.inl hc), bs_Fc hF (fun s t => by simp)⟩
  · intro j hj
    subst e1 e2 e3 e4 e5 e6
    by_cases c : j = l' + 1
    · subst c
      simp only [if_true]
      rw [sk1]
      exact ⟨_, _, 64, _, _, _, 0, _, gs_open hc, fg_nil (i + 1), bs_B0, bs_B0, rfl, Nat.le_refl _, bs_B0, bs_B0, nI_0.symm, by omega, fun s t => by simp⟩
    · simp only [if_neg c]
      rw [sk0 j (by omega)]
      exact v3 j (by omega)
  · intro j hj
    dsimp only
    rw [if_neg (by omega)]
    by_cases c : j = l'
    · subst c; rw [sk1, v5]
    · rw [v4 j (by omega), sk0 (j + 1) (by omega)]
  · simp
  · intro j y hj hy hyi
    by_cases c : j = l' + 1
    · subst c; simp only [if_true] at hy; omega
    · simp only [if_neg c] at hy
      rw [sk0 j (by omega)]
      by_cases c' : y = i
      · subst c'; intro hb; have := hb.1; omega
      · exact v6 j y (by omega) hy (by omega)
  · intro s t
    rw [v7]
    constructor
    · rintro ⟨j, hj, hq⟩
      exact ⟨j, by omega, by dsimp only; rw [if_neg (by omega)]; exact hq⟩
    · rintro ⟨j, hj, hq⟩
      by_cases c : j = l' + 1
      · rw [if_pos c] at hq; exact hq.elim
      · rw [if_neg c] at hq; exact ⟨j, by omega, hq⟩
theorem xs_us {a b : Nat} (ha : a < 2 ^ 31) (hb : b < 2 ^ 31) : (if nI a < nI b then nI a else nI b) = nI (if a < b then a else b) := by
  by_cases c : a < b
  · rw [if_pos c, if_pos ((nI_ltI ha hb).mpr c)]
  · rw [if_neg c, if_neg (fun h => c ((nI_ltI ha hb).mp h))]
/-- the bar -/
theorem xs_bar {i l : Nat} {lev : Int32} {uf ul : Nat → Int64} {us : Nat → Int32} {bf bl : Nat → Int64} {bs : Nat → Int32} {uf' ul' : Nat → Int64} {us' : Nat → Int32} {bf' bl' : Nat → Int64} {bs' : Nat → Int32} {fo : Nat → Int64} {R : Nat → Nat → Prop}
    (hm : gr_ct W i ≤ 63) (hi : gr_ic W i = false) (hc : W i = 124) (hl : gr_dp W i = l + 1) (h : xl_V W m i i lev uf ul us bf bl bs R) (hF : bs_F W fo R)
    (e1 : uf' = fun j => if j = l then uf l ||| bf l else uf j) (e2 : ul' = fun j => if j = l then ul l ||| bl l else ul j) (e3 : us' = fun j => if j = l then (if bs l < us l then bs l else us l) else us j)
    (e4 : bf' = fun j => if j = l then 0 else bf j) (e5 : bl' = fun j => if j = l then 0 else bl j) (e6 : bs' = fun j => if j = l then 0 else bs j) :
    xl_I W m (i + 1) lev uf' ul' us' bf' bl' bs' 0 0 0 fo := by
  obtain ⟨l', bS, be, Q, v1, v2, v3, v4, v5, v6, v7⟩ := h
  have : l' = l := by omega
  subst this
  have hd : gr_dp W (i + 1) = l' + 1 := by rw [xs_dpn (by omega) (by omega), v1]
  have sk0 : ∀ j, gr_sk W (i + 1) j = gr_sk W i j := fun j => xs_skn (by omega)
  have hen : gr_en W i = gr_sk W i l' := by unfold gr_en; rw [v1, Nat.add_sub_cancel]
  have hinj : ∀ j, j ≤ l' → gr_sk W i j = gr_sk W i l' → j = l' := by
    intro j hj e
    have a := (gr_skP (W := W) i j (by omega)).2.2.1
    have b := (gr_skP (W := W) i l' (by omega)).2.2.1
    rw [e] at a; omega
  refine ⟨i + 1, R, fun _ _ => False, ⟨l', fun j => if j = l' then i + 1 else bS j, fun j => if j = l' then i + 1 else be j, Q, hd, v2, ?_, ?_, ?_, ?_, v7⟩, xs_pnil (xs_icL hi (by omega)) (Or.inr hc), bs_Fc hF (fun s t => by simp)⟩
  · intro j hj
    subst e1 e2 e3 e4 e5 e6
    rw [sk0]
    by_cases c : j = l'
    · subst c
      simp only [if_true]
      obtain ⟨uF, uL, un, uO, bF, bL, bn, bO, l1, l2, l3, l4, l5, l6, l7, l8, l9, l10, l11⟩ := v3 j hj
      rw [v5] at l2 l10
      have hbn : bn < 64 := by omega
      refine ⟨_, _, _, _, _, _, 0, _, gs_alt l1 l2 hc hen (fun y y1 y2 => v6 j y hj y1 y2) hbn, fg_nil (i + 1), bs_Bor l3 l7, bs_Bor l4 l8, ?_, ?_, bs_B0, bs_B0, nI_0.symm, by omega, fun s t => by rw [l11]; simp⟩
      · rw [l5, l9, xs_us (by omega) (by omega)]
      · split <;> omega
    · simp only [if_neg c]
      exact v3 j hj
  · intro j hj
    dsimp only
    rw [if_neg (by omega), v4 j hj, sk0]
  · simp
  · intro j y hj hy hyi
    rw [sk0]
    by_cases c : j = l'
    · subst c; simp only [if_true] at hy; omega
    · simp only [if_neg c] at hy
      by_cases c' : y = i
      · subst c'
        intro hb
        exact c (hinj j hj (by rw [← hb.2.1, hen]))
      · exact v6 j y hj hy (by omega)
/-- the closing parenthesis of an inner level -/
theorem xs_close {i l : Nat} {lev : Int32} {uf ul : Nat → Int64} {us : Nat → Int32} {bf bl : Nat → Int64} {bs : Nat → Int32} {uf' ul' : Nat → Int64} {us' : Nat → Int32} {bf' bl' : Nat → Int64} {bs' : Nat → Int32} {fo : Nat → Int64} {R : Nat → Nat → Prop}
    (hm : gr_ct W i ≤ 63) (hi : gr_ic W i = false) (hc : W i = 41) (hl : gr_dp W i = l + 1 + 1) (h : xl_V W m i i lev uf ul us bf bl bs R) (hF : bs_F W fo R)
    (e1 : ∀ j, j ≤ l → uf' j = uf j) (e2 : ∀ j, j ≤ l → ul' j = ul j) (e3 : ∀ j, j ≤ l → us' j = us j)
    (e4 : ∀ j, j ≤ l → bf' j = bf j) (e5 : ∀ j, j ≤ l → bl' j = bl j) (e6 : ∀ j, j ≤ l → bs' j = bs j) :
    xl_I W m (i + 1) (nI l) uf' ul' us' bf' bl' bs' (uf (l + 1) ||| bf (l + 1)) (ul (l + 1) ||| bl (l + 1)) (if bs (l + 1) < us (l + 1) then bs (l + 1) else us (l + 1)) fo := by
  obtain ⟨l', bS, be, Q, v1, v2, v3, v4, v5, v6, v7⟩ := h
  have : l' = l + 1 := by omega
  subst this
  have hd : gr_dp W (i + 1) = l + 1 := by rw [gr_dp1, if_neg (by omega), if_pos hc, v1]; rfl
  have sk0 : ∀ j, gr_sk W (i + 1) j = gr_sk W i j := fun j => xs_skn (by omega)
  have hen : gr_en W i = gr_sk W i (l + 1) := by unfold gr_en; rw [v1, Nat.add_sub_cancel]
  obtain ⟨uF, uL, un, uO, bF, bL, bn, bO, l1, l2, l3, l4, l5, l6, l7, l8, l9, l10, l11⟩ := v3 (l + 1) (Nat.le_refl _)
  rw [v5] at l2 l10
  have hbn : bn < 64 := by omega
  have g := gs_close l1 l2 hc hen (fun y y1 y2 => v6 (l + 1) y (Nat.le_refl _) y1 y2) hbn
  have hN := xs_ctN (W := W) (i := i) (gs_nS (by omega))
  have hlt := l1.1
  have hle := l2.1
  have hcm := gr_ctM (W := W) (show gr_sk W i (l + 1) ≤ bS (l + 1) from by omega)
  refine ⟨gr_sk W i (l + 1), fun s t => ∃ j, j ≤ l ∧ Q j s t, Q (l + 1), ⟨l, bS, be, Q, hd, rfl, ?_, ?_, ?_, ?_, fun s t => Iff.rfl⟩, ⟨_, _, (if bn < un then bn else un), bs_Bor l3 l7, bs_Bor l4 l8, by rw [l5, l9, xs_us (by omega) (by omega)], Or.inl ⟨xs_icL hi (by omega), ?_, ?_, Or.inr ⟨by omega, ?_, g.2⟩⟩⟩, ?_⟩
  · intro j hj
    rw [sk0, e1 j hj, e2 j hj, e3 j hj, e4 j hj, e5 j hj, e6 j hj]
    exact v3 j (by omega)
  · intro j hj
    rw [v4 j (by omega), sk0]
  · rw [v4 l (by omega)]
  · intro j y hj hy hyi
    rw [sk0]
    by_cases c' : y = i
    · subst c'; intro hb; have := hb.1; omega
    · exact v6 j y (by omega) hy (by omega)
  · have e : Q (l + 1) = fun s t => uO s t ∨ bO s t := by funext s t; exact propext (l11 s t)
    rw [e]; exact g.1
  · split <;> omega
  · rw [gr_as1, if_neg (by omega), if_neg (by omega), if_pos hc, hen]
  · refine bs_Fc hF (fun s t => ?_)
    rw [v7]
    constructor
    · rintro ⟨j, hj, hq⟩
      by_cases c : j = l + 1
      · subst c; exact Or.inr hq
      · exact Or.inl ⟨j, by omega, hq⟩
    · rintro (⟨j, hj, hq⟩ | hq)
      · exact ⟨j, by omega, hq⟩
      · exact ⟨l + 1, Nat.le_refl _, hq⟩
/-- the end of the pattern -/
theorem xs_end {lev : Int32} {uf ul : Nat → Int64} {us : Nat → Int32} {bf bl : Nat → Int64} {bs : Nat → Int32} {fo : Nat → Int64} {R : Nat → Nat → Prop}
    (hV : gr_V W m) (hm : gr_ct W m ≤ 63) (h : xl_V W m (m - 1) (m - 1) lev uf ul us bf bl bs R) (hF : bs_F W fo R) :
    ∃ F L n, fg_G (gr_E W) (gr_tg W m) (gr_S W) 0 m F L n R ∧ bs_B W (uf 0 ||| bf 0) F ∧ bs_B W (ul 0 ||| bl 0) L ∧ (if bs 0 < us 0 then bs 0 else us 0) = nI n ∧ n ≤ 64 := by
  obtain ⟨w1, w2, w3, w4, w5, w6, _, _⟩ := hV
  obtain ⟨l', bS, be, Q, v1, v2, v3, v4, v5, v6, v7⟩ := h
  have : l' = 0 := by omega
  subst this
  obtain ⟨uF, uL, un, uO, bF, bL, bn, bO, l1, l2, l3, l4, l5, l6, l7, l8, l9, l10, l11⟩ := v3 0 (Nat.le_refl _)
  rw [v5] at l2 l10
  have hcm := gr_ctM (W := W) (show m - 1 ≤ m from by omega)
  have hbn : bn < 64 := by omega
  have hen : gr_en W (m - 1) = gr_sk W (m - 1) 0 := by unfold gr_en; rw [v1]
  have hsk := (gr_skP (W := W) (m - 1) 0 (by omega))
  have hs0 : gr_sk W (m - 1) 0 = 0 := by
    by_cases c : gr_sk W (m - 1) 0 = 0
    · exact c
    · have := w6 (gr_sk W (m - 1) 0) (by omega) (by omega)
      have := hsk.2.2.1
      omega
  have g := (gs_close l1 l2 w3 hen (fun y y1 y2 => v6 0 y (Nat.le_refl _) y1 y2) hbn).1
  rw [hs0, show m - 1 + 1 = m from by omega] at g
  have e : R = fun s t => uO s t ∨ bO s t := by
    funext s t
    apply propext
    rw [v7, ← l11]
    constructor
    · rintro ⟨j, hj, hq⟩
      have : j = 0 := by omega
      subst this; exact hq
    · intro h; exact ⟨0, Nat.le_refl _, h⟩
  refine ⟨_, _, _, by rw [e]; exact g, bs_Bor l3 l7, bs_Bor l4 l8, by rw [l5, l9, xs_us (by omega) (by omega)], ?_⟩
  split <;> omega
end
end
section
/-! When a pattern is valid, character by character. -/
/-- the pattern V 0 .. V (n-1) between its own parentheses -/
def vd_W (V : Nat → Nat) (n : Nat) : Nat → Nat := fun i => if i = 0 then 40 else if i = n + 1 then 41 else V (i - 1)
abbrev vd_al (c : Nat) : Prop := gr_L c ∨ gr_O c ∨ c = 46 ∨ c = 124 ∨ c = 91 ∨ c = 93 ∨ c = 40 ∨ c = 41
def vd_c (W : Nat → Nat) (x : Nat) : Prop :=
  1 ≤ gr_dp W (x + 1) ∧ (gr_ic W x = true → gr_L (W x) ∨ (W x = 93 ∧ W (x - 1) ≠ 91)) ∧
  (gr_ic W x = false → (gr_L (W x) ∨ W x = 46 ∨ W x = 91) ∨ W x = 40 ∨ ((W x = 124 ∨ W x = 41 ∨ gr_O (W x)) ∧ W (x - 1) ≠ 40 ∧ W (x - 1) ≠ 124))
/-- the characters before i are as they may be -/
def vd_p (W : Nat → Nat) (i : Nat) : Prop := ∀ x, 1 ≤ x → x < i → vd_c W x
def vd_V (W : Nat → Nat) (n : Nat) : Prop := vd_p W (n + 1) ∧ gr_dp W (n + 1) = 1 ∧ gr_ic W (n + 1) = false ∧ W n ≠ 40 ∧ W n ≠ 124
section
variable {W : Nat → Nat}
theorem vd_p1 {i : Nat} (h : vd_p W i) (hc : vd_c W i) : vd_p W (i + 1) := by
  intro x h1 h2
  by_cases c : x = i
  · subst c; exact hc
  · exact h x h1 (by omega)
theorem vd_W0 {V : Nat → Nat} {n : Nat} : vd_W V n 0 = 40 := rfl
theorem vd_W1 {V : Nat → Nat} {n i : Nat} (h : i < n) : vd_W V n (i + 1) = V i := by
  unfold vd_W; rw [if_neg (by omega), if_neg (by omega)]; rfl
theorem vd_Wm {V : Nat → Nat} {n : Nat} : vd_W V n (n + 1) = 41 := by
  unfold vd_W; rw [if_neg (by omega), if_pos rfl]
theorem vd_gr {n : Nat} (hn : 0 < n) (h0 : W 0 = 40) (hm : W (n + 1) = 41) (h : vd_V W n) : gr_V W (n + 2) := by
  obtain ⟨h1, h2, h3, h4, h5⟩ := h
  refine ⟨by omega, h0, hm, h3, h2, ?_, ?_, ?_⟩
  · intro i q1 q2
    by_cases c : i = 1
    · subst c; rw [gr_dp1, if_pos h0]; omega
    · have := (h1 (i - 1) (by omega) (by omega)).1
      rw [show i - 1 + 1 = i from by omega] at this; exact this
  · intro i q1 q2 q3
    by_cases c : i = n + 1
    · subst c; rw [h3] at q3; exact Bool.noConfusion q3
    · rcases (h1 i q1 (by omega)).2.1 q3 with h | h
      · exact Or.inl h
      · exact Or.inr h.1
  · intro i q1 q2 q3
    by_cases c : i = n + 1
    · subst c
      exact Or.inr (Or.inr ⟨Or.inr (Or.inl hm), h4, h5⟩)
    · exact (h1 i q1 (by omega)).2.2 q3
end
end
section
/-! The component's sets, as it reckons them. -/
/-- followersOf, over the states below n -/
def xr_fo (f : Nat → Int64) (x : Int64) : Nat → Int64
  | 0 => 0
  | s + 1 => if bs_b x s = true then xr_fo f x s ||| f s else xr_fo f x s
/-- startText -/
def xr_rc (f : Nat → Int64) : Nat → Int64
  | 0 => 1
  | d + 1 => xr_rc f d ||| xr_fo f (xr_rc f d) 64
/-- readLetter -/
def xr_rl (f : Nat → Int64) (S : Nat → Int64) (M en : Int64) : Nat → Int64
  | 0 => ((en ||| 0) ||| (xr_fo f (S 0) 64 &&& M)) ||| xr_fo f (0 ||| 0) 64
  | d + 1 => ((en ||| S d) ||| (xr_fo f (S (d + 1)) 64 &&& M)) ||| xr_fo f (S d ||| xr_rl f S M en d) 64
def xr_FO (f : Nat → Int64) (p q : Nat) : Prop := p < 64 ∧ q < 64 ∧ bs_b (f p) q = true
def xr_XS (S : Nat → Int64) (d p : Nat) : Prop := p < 64 ∧ bs_b (S d) p = true
def xr_M (x : Int64) (q : Nat) : Prop := q < 64 ∧ bs_b x q = true
theorem xr_b1 {p : Nat} (h : p < 64) : bs_b 1 p = true ↔ p = 0 := bs_p (π := 0) (by omega) h
theorem xr_fob (f : Nat → Int64) (x : Int64) (q : Nat) : ∀ n, bs_b (xr_fo f x n) q = true ↔ ∃ s, s < n ∧ bs_b x s = true ∧ bs_b (f s) q = true := by
  intro n
  induction n with
  | zero =>
    show bs_b 0 q = true ↔ _
    rw [bs_0]
    exact ⟨fun h => Bool.noConfusion h, fun ⟨s, h, _⟩ => absurd h (by omega)⟩
  | succ n ih =>
    show bs_b (if bs_b x n = true then xr_fo f x n ||| f n else xr_fo f x n) q = true ↔ _
    by_cases c : bs_b x n = true
    · rw [if_pos c, bs_or, Bool.or_eq_true, ih]
      constructor
      · rintro (⟨s, h1, h2⟩ | h)
        · exact ⟨s, by omega, h2⟩
        · exact ⟨n, by omega, c, h⟩
      · rintro ⟨s, h1, h2, h3⟩
        by_cases e : s = n
        · subst e; exact Or.inr h3
        · exact Or.inl ⟨s, by omega, h2, h3⟩
    · rw [if_neg c, ih]
      constructor
      · rintro ⟨s, h1, h2⟩; exact ⟨s, by omega, h2⟩
      · rintro ⟨s, h1, h2, h3⟩
        by_cases e : s = n
        · subst e; exact absurd h2 c
        · exact ⟨s, by omega, h2, h3⟩
theorem xr_rcX (f : Nat → Int64) : ∀ d p, (p < 64 ∧ bs_b (xr_rc f d) p = true) ↔ sm_X0 (xr_FO f) d p := by
  intro d
  induction d with
  | zero =>
    intro p
    show (p < 64 ∧ bs_b 1 p = true) ↔ p = 0
    constructor
    · rintro ⟨h1, h2⟩; exact (xr_b1 h1).mp h2
    · rintro rfl; exact ⟨by omega, (xr_b1 (by omega)).mpr rfl⟩
  | succ d ih =>
    intro p
    show (p < 64 ∧ bs_b (xr_rc f d ||| xr_fo f (xr_rc f d) 64) p = true) ↔ sm_X0 (xr_FO f) d p ∨ ∃ p', sm_X0 (xr_FO f) d p' ∧ xr_FO f p' p
    rw [bs_or, Bool.or_eq_true, xr_fob]
    constructor
    · rintro ⟨h1, h2 | ⟨s, h2, h3, h4⟩⟩
      · exact Or.inl ((ih p).mp ⟨h1, h2⟩)
      · exact Or.inr ⟨s, (ih s).mp ⟨h2, h3⟩, h2, h1, h4⟩
    · rintro (h | ⟨s, h, h2, h1, h4⟩)
      · have := (ih p).mpr h; exact ⟨this.1, Or.inl this.2⟩
      · exact ⟨h1, Or.inr ⟨s, h2, ((ih s).mpr h).2, h4⟩⟩
theorem xr_rlX (f S : Nat → Int64) (M en : Int64) (EN : Prop) (hen : ∀ p, p < 64 → (bs_b en p = true ↔ EN ∧ p = 0)) :
    ∀ d p, (p < 64 ∧ bs_b (xr_rl f S M en d) p = true) ↔ sm_X1 (xr_FO f) (xr_XS S) (xr_M M) EN d p := by
  intro d
  induction d with
  | zero =>
    intro p
    show (p < 64 ∧ bs_b (((en ||| 0) ||| (xr_fo f (S 0) 64 &&& M)) ||| xr_fo f (0 ||| 0) 64) p = true) ↔ (EN ∧ p = 0) ∨ (xr_M M p ∧ ∃ p', xr_XS S 0 p' ∧ xr_FO f p' p)
    rw [bs_or, bs_or, bs_or, bs_and, Bool.or_eq_true, Bool.or_eq_true, Bool.or_eq_true, Bool.and_eq_true, xr_fob, xr_fob, bs_0]
    constructor
    · rintro ⟨h1, ((h | h) | ⟨⟨s, h2, h3, h4⟩, h5⟩) | ⟨s, h2, h3, h4⟩⟩
      · exact Or.inl ((hen p h1).mp h)
      · exact Bool.noConfusion h
      · exact Or.inr ⟨⟨h1, h5⟩, s, ⟨h2, h3⟩, h2, h1, h4⟩
      · rw [bs_or, bs_0] at h3; exact Bool.noConfusion h3
    · rintro (⟨h1, rfl⟩ | ⟨⟨h1, h5⟩, s, ⟨h2, h3⟩, _, _, h4⟩)
      · exact ⟨by omega, Or.inl (Or.inl (Or.inl ((hen 0 (by omega)).mpr ⟨h1, rfl⟩)))⟩
      · exact ⟨h1, Or.inl (Or.inr ⟨⟨s, h2, h3, h4⟩, h5⟩)⟩
  | succ d ih =>
    intro p
    show (p < 64 ∧ bs_b (((en ||| S d) ||| (xr_fo f (S (d + 1)) 64 &&& M)) ||| xr_fo f (S d ||| xr_rl f S M en d) 64) p = true) ↔
      (EN ∧ p = 0) ∨ xr_XS S d p ∨ (xr_M M p ∧ ∃ p', xr_XS S (d + 1) p' ∧ xr_FO f p' p) ∨ ∃ p', (xr_XS S d p' ∨ sm_X1 (xr_FO f) (xr_XS S) (xr_M M) EN d p') ∧ xr_FO f p' p
    rw [bs_or, bs_or, bs_or, bs_and, Bool.or_eq_true, Bool.or_eq_true, Bool.or_eq_true, Bool.and_eq_true, xr_fob, xr_fob]
    constructor
    · rintro ⟨h1, ((h | h) | ⟨⟨s, h2, h3, h4⟩, h5⟩) | ⟨s, h2, h3, h4⟩⟩
      · exact Or.inl ((hen p h1).mp h)
      · exact Or.inr (Or.inl ⟨h1, h⟩)
      · exact Or.inr (Or.inr (Or.inl ⟨⟨h1, h5⟩, s, ⟨h2, h3⟩, h2, h1, h4⟩))
      · rw [bs_or, Bool.or_eq_true] at h3
        rcases h3 with h3 | h3
        · exact Or.inr (Or.inr (Or.inr ⟨s, Or.inl ⟨h2, h3⟩, h2, h1, h4⟩))
        · exact Or.inr (Or.inr (Or.inr ⟨s, Or.inr ((ih s).mp ⟨h2, h3⟩), h2, h1, h4⟩))
    · rintro (⟨h1, rfl⟩ | ⟨h1, h⟩ | ⟨⟨h1, h5⟩, s, ⟨h2, h3⟩, _, _, h4⟩ | ⟨s, h, h2, h1, h4⟩)
      · exact ⟨by omega, Or.inl (Or.inl (Or.inl ((hen 0 (by omega)).mpr ⟨h1, rfl⟩)))⟩
      · exact ⟨h1, Or.inl (Or.inl (Or.inr h))⟩
      · exact ⟨h1, Or.inl (Or.inr ⟨⟨s, h2, h3, h4⟩, h5⟩)⟩
      · refine ⟨h1, Or.inr ⟨s, h2, ?_, h4⟩⟩
        rw [bs_or, Bool.or_eq_true]
        rcases h with ⟨_, h⟩ | h
        · exact Or.inl h
        · exact Or.inr ((ih s).mpr h).2
theorem xr_en1 : ∀ p, p < 64 → (bs_b 1 p = true ↔ True ∧ p = 0) := fun p h => by rw [xr_b1 h]; simp
theorem xr_en0 : ∀ p, p < 64 → (bs_b 0 p = true ↔ False ∧ p = 0) := fun p h => by rw [bs_0]; simp
section
variable {m K : Nat} {Rp : Nat → Nat → Prop}
theorem xr_Cc {XS XS' : Nat → Nat → Prop} {c : Nat → Nat} (h : sm_C m K Rp XS c) (e : ∀ d p, d ≤ K → (XS d p ↔ XS' d p)) : sm_C m K Rp XS' c := by
  intro s hs
  refine ⟨(h s hs).1, fun d hd => ?_⟩
  rw [(h s hs).2 d hd]
  exact ⟨fun ⟨p, a, b⟩ => ⟨p, (e d p hd).mp a, b⟩, fun ⟨p, a, b⟩ => ⟨p, (e d p hd).mpr a, b⟩⟩
theorem xr_X1c {FO : Nat → Nat → Prop} {XS XS' : Nat → Nat → Prop} {M : Nat → Prop} {en : Prop} (e : ∀ d p, d ≤ K → (XS d p ↔ XS' d p)) :
    ∀ d p, d ≤ K → (sm_X1 FO XS M en d p ↔ sm_X1 FO XS' M en d p) := by
  intro d
  induction d with
  | zero =>
    intro p hd
    show (en ∧ p = 0) ∨ (M p ∧ ∃ p', XS 0 p' ∧ FO p' p) ↔ (en ∧ p = 0) ∨ (M p ∧ ∃ p', XS' 0 p' ∧ FO p' p)
    simp only [e 0 _ hd]
  | succ d ih =>
    intro p hd
    show (en ∧ p = 0) ∨ XS d p ∨ (M p ∧ ∃ p', XS (d + 1) p' ∧ FO p' p) ∨ (∃ p', (XS d p' ∨ sm_X1 FO XS M en d p') ∧ FO p' p) ↔
      (en ∧ p = 0) ∨ XS' d p ∨ (M p ∧ ∃ p', XS' (d + 1) p' ∧ FO p' p) ∨ (∃ p', (XS' d p' ∨ sm_X1 FO XS' M en d p') ∧ FO p' p)
    simp only [e (d + 1) _ hd, e d _ (show d ≤ K by omega), ih _ (show d ≤ K by omega)]
theorem xr_least {S : Nat → Int64} {c : Nat → Nat} {fin : Int64} (h : sm_C m K Rp (xr_XS S) c) (hf : ∀ p, p < 64 → (bs_b fin p = true ↔ Rp p m)) {d : Nat} (hd : d ≤ K) :
    ¬ (S d &&& fin) = 0 ↔ c m ≤ d := by
  rw [bs_ne0, ((h m (Nat.le_refl _)).2 d hd)]
  constructor
  · rintro ⟨p, h1, h2⟩
    rw [bs_and, Bool.and_eq_true] at h2
    exact ⟨p, ⟨h1, h2.1⟩, (hf p h1).mp h2.2⟩
  · rintro ⟨p, ⟨h1, h2⟩, h3⟩
    exact ⟨p, h1, by rw [bs_and, Bool.and_eq_true]; exact ⟨h2, (hf p h1).mpr h3⟩⟩
end
end
section
/-! Which positions a letter matches. -/
/-- at character j the position b takes the letter c in -/
def ft_x (W : Nat → Nat) (c b j : Nat) : Prop := (W j = c ∧ gr_ic W j = false ∧ gr_ct W j + 1 = b) ∨ (W j = 46 ∧ gr_ct W j + 1 = b) ∨ (gr_ic W j = true ∧ W j = c ∧ gr_ct W j = b)
/-- the position that begins at s matches the letter c -/
def ft_y (W : Nat → Nat) (m c s : Nat) : Prop := W s = 46 ∨ (W s ≠ 91 ∧ W s = c) ∨ (W s = 91 ∧ ∃ j, j < m ∧ gr_ic W j = true ∧ gr_cs W j = s ∧ W j = c)
section
variable {W : Nat → Nat} {m : Nat}
theorem ft_iff (hV : gr_V W m) {c q t g : Nat} (hc : gr_L c) (hS : sm_S W m q t g) : (∃ j, j < m ∧ ft_x W c q j) ↔ ft_y W m c t := by
  obtain ⟨h1, h2, h3, _⟩ := hS
  constructor
  · rintro ⟨j, hj, ⟨e1, e2, e3⟩ | ⟨e1, e2⟩ | ⟨e1, e2, e3⟩⟩
    · have : j = t := gr_ctI (Or.inr (Or.inr ⟨by rw [e1]; exact hc, e2⟩)) h1 (by omega)
      subst this
      exact Or.inr (Or.inl ⟨by omega, e1⟩)
    · have : j = t := gr_ctI (Or.inl e1) h1 (by omega)
      subst this
      exact Or.inl e1
    · have hct := gv_ctc hV j hj e1
      have hp := gr_icP hV j hj e1
      have : gr_cs W j = t := gr_ctI (Or.inr (Or.inl hp.2.2.1)) h1 (by omega)
      exact Or.inr (Or.inr ⟨by rw [← this]; exact hp.2.2.1, j, hj, e1, this, e2⟩)
  · rintro (e | ⟨e1, e2⟩ | ⟨e1, j, hj, e2, e3, e4⟩)
    · exact ⟨t, h2, Or.inr (Or.inl ⟨e, h3⟩)⟩
    · refine ⟨t, h2, Or.inl ⟨e2, ?_, h3⟩⟩
      rcases h1 with h | h | h
      · omega
      · omega
      · exact h.2
    · have hct := gv_ctc hV j hj e2
      exact ⟨j, hj, Or.inr (Or.inr ⟨e2, e4, by rw [hct, e3]; exact h3⟩)⟩
end
end
section
/-! What compiling makes, as the search needs it. -/
/-- which letters take which positions in, up to character i -/
def xb_S (W : Nat → Nat) (i : Nat) (sl : Nat → Int64) : Prop := ∀ c b, gr_L c → b < 64 → (bs_b (sl (c - 97)) b = true ↔ ∃ j, j < i ∧ ft_x W c b j)
def xb_R (W : Nat → Nat) (m : Nat) (fo sl : Nat → Int64) (fin : Int64) (sh : Int32) : Prop :=
  ∃ n0, sh = nI n0 ∧ n0 ≤ 64 ∧ fg_P (gr_E W) 0 m 0 m n0 ∧ (∀ k, fg_P (gr_E W) 0 m 0 m k → n0 ≤ k) ∧ sm_A m (sm_G W m) (sm_R W m) (sm_S W m) (xr_FO fo) ∧
    (∀ p, p < 64 → (bs_b fin p = true ↔ sm_R W m p m)) ∧ xb_S W m sl ∧ gr_ct W m ≤ 63
section
variable {W : Nat → Nat} {m : Nat}
theorem xb_ct {s : Nat} (hm : gr_ct W m ≤ 63) (hS : gr_S W s) (hs : s < m) : gr_ct W s + 1 < 64 := by
  have h1 := xs_ctS hS
  have h2 := gr_ctM (W := W) (show s + 1 ≤ m from hs)
  omega
theorem xb_fo (hm : gr_ct W m ≤ 63) {F L : Nat → Prop} {n : Nat} {R : Nat → Nat → Prop} (hG : fg_G (gr_E W) (gr_tg W m) (gr_S W) 0 m F L n R) {first : Int64} {fo : Nat → Int64}
    (h1 : bs_B W first F) (h2 : bs_F W fo R) (p q : Nat) : xr_FO (vp_updL fo 0 first) p q ↔ ∃ t g, sm_S W m q t g ∧ sm_R W m p t := by
  obtain ⟨_, _, _, f, l, o, _, _⟩ := hG
  unfold xr_FO
  by_cases c : p = 0
  · subst c
    have e : vp_updL fo 0 first 0 = first := pk_uLs
    rw [e]
    constructor
    · rintro ⟨_, hq, hb⟩
      obtain ⟨s, hs, e⟩ := (h1 q hq).mp hb
      obtain ⟨g1, _, g3, g4⟩ := (f s).mp hs
      exact ⟨s, _, ⟨g1, g3, e, rfl⟩, Or.inl ⟨rfl, g4⟩⟩
    · rintro ⟨t, g, ⟨g1, g2, g3, _⟩, ⟨_, h⟩ | ⟨s, _, _, h, _⟩⟩
      · have hq := xb_ct hm g1 g2
        exact ⟨by omega, by omega, (h1 q (by omega)).mpr ⟨t, (f t).mpr ⟨g1, Nat.zero_le _, g2, h⟩, g3⟩⟩
      · omega
  · rw [pk_uLn c]
    constructor
    · rintro ⟨hp, hq, hb⟩
      obtain ⟨s, t, hR, e1, e2⟩ := (h2 p q hp hq).mp hb
      obtain ⟨g1, g2, _, g4, _, g6, g7⟩ := (o s t).mp hR
      exact ⟨t, _, ⟨g2, g6, e2, rfl⟩, Or.inr ⟨s, g1, g4, e1, g7⟩⟩
    · rintro ⟨t, g, ⟨g1, g2, g3, _⟩, ⟨h, _⟩ | ⟨s, k1, k2, k3, k4⟩⟩
      · exact absurd h c
      · have hq := xb_ct hm g1 g2
        have hp := xb_ct hm k1 k2
        exact ⟨by omega, by omega, (h2 p q (by omega) (by omega)).mpr ⟨s, t, (o s t).mpr ⟨k1, g1, Nat.zero_le _, k2, Nat.zero_le _, g2, k4⟩, k3, g3⟩⟩
theorem xb_fin {F L : Nat → Prop} {n : Nat} {R : Nat → Nat → Prop} (hG : fg_G (gr_E W) (gr_tg W m) (gr_S W) 0 m F L n R) {last fin : Int64} (h1 : bs_B W last L)
    (h2 : fin = if n = 0 then last ||| 1 else last) : ∀ p, p < 64 → (bs_b fin p = true ↔ sm_R W m p m) := by
  have hN := fg_null hG
  obtain ⟨_, _, _, f, l, o, _, _⟩ := hG
  intro p hp
  have hl : bs_b last p = true ↔ ∃ s, gr_S W s ∧ s < m ∧ gr_ct W s + 1 = p ∧ fg_P (gr_E W) 0 m (gr_tg W m s) m 0 := by
    rw [h1 p hp]
    constructor
    · rintro ⟨s, hs, e⟩
      obtain ⟨g1, _, g3, g4⟩ := (l s).mp hs
      exact ⟨s, g1, g3, e, g4⟩
    · rintro ⟨s, g1, g3, e, g4⟩
      exact ⟨s, (l s).mpr ⟨g1, Nat.zero_le _, g3, g4⟩, e⟩
  unfold sm_R
  by_cases c : n = 0
  · rw [h2, if_pos c, bs_or, Bool.or_eq_true, hl, xr_b1 hp]
    constructor
    · rintro (h | h)
      · exact Or.inr h
      · exact Or.inl ⟨h, hN.mp c⟩
    · rintro (⟨h, _⟩ | h)
      · exact Or.inr h
      · exact Or.inl h
  · rw [h2, if_neg c, hl]
    constructor
    · intro h; exact Or.inr h
    · rintro (⟨_, h⟩ | h)
      · exact absurd (hN.mpr h) c
      · exact h
/-- the start of reading -/
theorem xb_I0 (hV : gr_V W m) {uf ul : Nat → Int64} {us : Nat → Int32} {bf bl : Nat → Int64} {bs : Nat → Int32} {fo : Nat → Int64} (e1 : uf 0 = 0) (e2 : ul 0 = 0) (e3 : us 0 = nI 64) (e4 : bf 0 = 0) (e5 : bl 0 = 0) (e6 : bs 0 = 0)
    (e7 : ∀ p, p < 64 → fo p = 0) : xl_I W m 1 (nI 0) uf ul us bf bl bs 0 0 0 fo := by
  obtain ⟨w1, w2, _⟩ := hV
  have hd : gr_dp W 1 = 0 + 1 := by rw [gr_dp1, if_pos w2]; rfl
  have hsk : gr_sk W 1 0 = 0 := by rw [gr_sk1, if_pos ⟨w2, rfl⟩]
  have hic : gr_ic W 1 = false := by rw [gr_ic1]; simp [w2, gr_ic]
  refine ⟨1, fun _ _ => False, fun _ _ => False, ⟨0, fun _ => 1, fun _ => 1, fun _ _ _ => False, hd, rfl, ?_, fun j hj => absurd hj (by omega), rfl, fun j y _ h1 h2 => by omega, fun s t => by simp⟩, xs_pnil hic (Or.inl w2), ?_⟩
  · intro j hj
    have : j = 0 := by omega
    subst this
    rw [hsk, e1, e2, e3, e4, e5, e6]
    exact ⟨_, _, 64, _, _, _, 0, _, gs_open w2, fg_nil 1, bs_B0, bs_B0, rfl, Nat.le_refl _, bs_B0, bs_B0, nI_0.symm, by omega, fun s t => by simp⟩
  · intro p q hp hq
    rw [e7 p hp, bs_0]
    exact ⟨fun h => Bool.noConfusion h, fun ⟨_, _, h, _⟩ => by simp at h⟩
theorem xb_S0 (h0 : W 0 = 40) {sl : Nat → Int64} (h : ∀ c, c < 26 → sl c = 0) : xb_S W 1 sl := by
  intro c b hc hb
  rw [h (c - 97) (by omega), bs_0]
  refine ⟨fun h => Bool.noConfusion h, ?_⟩
  rintro ⟨j, hj, h⟩
  have : j = 0 := by omega
  subst this
  rcases h with ⟨h, _⟩ | ⟨h, _⟩ | ⟨h, _⟩
  · omega
  · omega
  · simp [gr_ic] at h
theorem xb_Sn {i : Nat} {sl : Nat → Int64} (h : xb_S W i sl) (hn : ∀ c b, gr_L c → ¬ ft_x W c b i) : xb_S W (i + 1) sl := by
  intro c b hc hb
  rw [h c b hc hb]
  constructor
  · rintro ⟨j, hj, e⟩; exact ⟨j, by omega, e⟩
  · rintro ⟨j, hj, e⟩
    by_cases c' : j = i
    · subst c'; exact absurd e (hn c b hc)
    · exact ⟨j, by omega, e⟩
/-- a letter is taken in at the position π -/
theorem xb_Sl {i π : Nat} {sl : Nat → Int64} (h : xb_S W i sl) (hi : gr_L (W i)) (hπ : π < 64) (e : ∀ b, ft_x W (W i) b i ↔ b = π) :
    xb_S W (i + 1) (vp_updL sl (W i - 97) (sl (W i - 97) ||| lN (2 ^ π))) := by
  intro c b hc hb
  by_cases c' : c = W i
  · subst c'
    rw [pk_uLs, bs_or, Bool.or_eq_true, h _ b hc hb, bs_p hπ hb]
    constructor
    · rintro (⟨j, hj, e'⟩ | e')
      · exact ⟨j, by omega, e'⟩
      · exact ⟨i, by omega, (e b).mpr e'⟩
    · rintro ⟨j, hj, e'⟩
      by_cases c'' : j = i
      · subst c''; exact Or.inr ((e b).mp e')
      · exact Or.inl ⟨j, by omega, e'⟩
  · rw [pk_uLn (by omega), h c b hc hb]
    constructor
    · rintro ⟨j, hj, e'⟩; exact ⟨j, by omega, e'⟩
    · rintro ⟨j, hj, e'⟩
      by_cases c'' : j = i
      · subst c''
        exfalso
        rcases e' with ⟨q, _⟩ | ⟨q, _⟩ | ⟨_, q, _⟩ <;> omega
      · exact ⟨j, by omega, e'⟩
theorem xb_Sd {i : Nat} {sl : Nat → Int64} (h : xb_S W i sl) (hi : W i = 46) (hic : gr_ic W i = false) (hπ : gr_ct W i + 1 < 64) :
    xb_S W (i + 1) (fun s => if s < 26 then sl s ||| lN (2 ^ (gr_ct W i + 1)) else sl s) := by
  intro c b hc hb
  dsimp only
  rw [if_pos (by omega), bs_or, Bool.or_eq_true, h _ b hc hb, bs_p hπ hb]
  constructor
  · rintro (⟨j, hj, e'⟩ | e')
    · exact ⟨j, by omega, e'⟩
    · exact ⟨i, by omega, Or.inr (Or.inl ⟨hi, e'.symm⟩)⟩
  · rintro ⟨j, hj, e'⟩
    by_cases c'' : j = i
    · subst c''
      right
      rcases e' with ⟨q, _⟩ | ⟨_, q⟩ | ⟨q, _⟩
      · omega
      · exact q.symm
      · rw [hic] at q; exact Bool.noConfusion q
    · exact Or.inl ⟨j, by omega, e'⟩
end
end
section
/-! The component's own methods over one state: compiling. -/
section
variable {xk xn xc xS xP xt xl xp3 : Int32} {xF xp1 xp2 xN : Int64} {xV xeb xus xbs : Nat → Int32} {xfo xsl xss xws xuf xul xbf xbl : Nat → Int64}
theorem xw_isL {post : Int32 → Prop} {c : Nat} (hc : c < 65536) (h1 : gr_L c → post 1) (h0 : ¬ gr_L c → post 0) : wpX_isLetter post () (nI c) := by
  unfold wpX_isLetter
  exact pk_lt c 97 (fun h => h0 (by omega)) (fun h => pk_lt 122 c (fun h' => h0 (by omega)) (fun h' => h1 ⟨h, h'⟩))
theorem xw_isO {post : Int32 → Prop} {c : Nat} (hc : c < 65536) (h1 : gr_O c → post 1) (h0 : ¬ gr_O c → post 0) : wpX_isPostfix post () (nI c) := by
  unfold wpX_isPostfix
  exact pk_eq c 42 (fun h => h1 (by omega)) (fun h => pk_eq c 43 (fun h' => h1 (by omega)) (fun h' => pk_eq c 63 (fun h'' => h1 (by omega)) (fun h'' => h0 (by omega))))
theorem xw_add {post : St2 → Prop} {st ad : Int64} (h : post (xk, xn, xc, xF, xS, xP, xt, xl, xp1, xp2, xp3, xN, xV, bs_add xfo st ad, xsl, xeb, xss, xws, xuf, xul, xus, xbf, xbl, xbs)) : wpX_addFollowers post (xk, xn, xc, xF, xS, xP, xt, xl, xp1, xp2, xp3, xN, xV, xfo, xsl, xeb, xss, xws, xuf, xul, xus, xbf, xbl, xbs) st ad := by
  unfold wpX_addFollowers
  dsimp only
  refine pk_loop (fun n i (f : Nat → Int64) => wX_addFollowers_3 post st ad xk xn xc xF xS xP xt xl xp1 xp2 xp3 xN n (nI i) xV f xsl xeb xss xws xuf xul xus xbf xbl xbs)
    (fun i f => f = fun s => if s < i ∧ bs_b st s = true then xfo s ||| ad else xfo s) 64 0 xfo (by omega) (by funext s; simp) ?_ ?_
  · intro n f hf
    rw [wX_addFollowers_3]
    exact br_t (nI_le (a := 64) (b := 64) (by omega) (by omega)) (by subst hf; exact h)
  · intro n i f hi hf hn
    rw [wX_addFollowers_3]
    refine br_f (nI_ge (a := i) (b := 64) hi (by omega)) ?_
    have hb : ((((st.toUInt64 >>> ((nI i).toInt64.toUInt64 &&& Int64.toUInt64 63)).toInt64) &&& 1) = 0) ↔ bs_b st i = false := by
      rw [wb_cu i hi]
      exact ts_bit hi (by rw [UInt64.toNat_ofNat', Nat.mod_eq_of_lt (by omega)])
    by_cases c : bs_b st i = false
    · refine br_t (hb.mpr c) (nm_r (nI_1 i) (hn _ ?_))
      subst hf
      funext s
      by_cases e : s = i
      · subst e; simp [c]
      · have : s < i + 1 ↔ s < i := by omega
        simp only [this]
    · have c' : bs_b st i = true := ts_nf c
      refine br_f (fun z => c (hb.mp z)) ⟨vp_in_nI hi (by omega), vp_in_nI hi (by omega), nm_e (nm_r (nI_1 i) (hn _ ?_))⟩
      rw [nI_clamp (by omega)]
      subst hf
      funext s
      by_cases e : s = i
      · subst e; simp [vp_updL, c']
      · have : s < i + 1 ↔ s < i := by omega
        simp only [vp_updL, if_neg e, this]
theorem xw_eP {post : St2 → Prop} (h : post (xk, xn, xc, xF, xS, xP, xt, xl, 0, 0, 0, xN, xV, xfo, xsl, xeb, xss, xws, xuf, xul, xus, xbf, xbl, xbs)) : wpX_emptyPiece post (xk, xn, xc, xF, xS, xP, xt, xl, xp1, xp2, xp3, xN, xV, xfo, xsl, xeb, xss, xws, xuf, xul, xus, xbf, xbl, xbs) := h
theorem xw_eB {post : St2 → Prop} {l : Nat} (hl : l < 65) (h : post (xk, xn, xc, xF, xS, xP, xt, nI l, xp1, xp2, xp3, xN, xV, xfo, xsl, xeb, xss, xws, xuf, xul, xus, vp_updL xbf l 0, vp_updL xbl l 0, upd xbs l 0)) : wpX_emptyBranch post (xk, xn, xc, xF, xS, xP, xt, nI l, xp1, xp2, xp3, xN, xV, xfo, xsl, xeb, xss, xws, xuf, xul, xus, xbf, xbl, xbs) := by
  unfold wpX_emptyBranch
  dsimp only
  have hv := vp_in_nI hl (N := 65) (by omega)
  rw [nI_clamp (by omega)]
  exact ⟨hv, nm_e ⟨hv, nm_e ⟨hv, nm_e h⟩⟩⟩
theorem xw_eU {post : St2 → Prop} {l : Nat} (hl : l < 65) (h : post (xk, xn, xc, xF, xS, xP, xt, nI l, xp1, xp2, xp3, xN, xV, xfo, xsl, xeb, xss, xws, vp_updL xuf l 0, vp_updL xul l 0, upd xus l 64, xbf, xbl, xbs)) : wpX_emptyUnion post (xk, xn, xc, xF, xS, xP, xt, nI l, xp1, xp2, xp3, xN, xV, xfo, xsl, xeb, xss, xws, xuf, xul, xus, xbf, xbl, xbs) := by
  unfold wpX_emptyUnion
  dsimp only
  have hv := vp_in_nI hl (N := 65) (by omega)
  rw [nI_clamp (by omega)]
  exact ⟨hv, nm_e ⟨hv, nm_e ⟨hv, nm_e h⟩⟩⟩
theorem xw_clear {post : St2 → Prop} (h : post (xk, xn, xc, xF, xS, xP, xt, nI 0, 0, 0, 0, 1, xV, fun s => if s < 64 then 0 else xfo s, fun s => if s < 26 then 0 else xsl s, xeb, xss, xws, vp_updL xuf 0 0, vp_updL xul 0 0, upd xus 0 64, vp_updL xbf 0 0, vp_updL xbl 0 0, upd xbs 0 0)) :
    wpX_clearAutomaton post (xk, xn, xc, xF, xS, xP, xt, xl, xp1, xp2, xp3, xN, xV, xfo, xsl, xeb, xss, xws, xuf, xul, xus, xbf, xbl, xbs) := by
  unfold wpX_clearAutomaton
  dsimp only
  refine pk_loop (fun n i (f : Nat → Int64) => wX_clearAutomaton_2 post xk xn xc xF xS xP xt xl xp1 xp2 xp3 xN n (nI i) xV f xsl xeb xss xws xuf xul xus xbf xbl xbs)
    (fun i f => f = fun s => if s < i then 0 else xfo s) 64 0 xfo (by omega) (by funext s; simp) ?_ ?_
  · intro n f hf
    rw [wX_clearAutomaton_2]
    refine br_t (nI_le (a := 64) (b := 64) (by omega) (by omega)) ?_
    refine pk_loop (fun n i (g : Nat → Int64) => wX_clearAutomaton_23 post xk xn xc xF xS xP xt xl xp1 xp2 xp3 xN n (nI i) xV f g xeb xss xws xuf xul xus xbf xbl xbs)
      (fun i g => g = fun s => if s < i then 0 else xsl s) 26 0 xsl (by omega) (by funext s; simp) ?_ ?_
    · intro n g hg
      rw [wX_clearAutomaton_23]
      refine br_t (nI_le (a := 26) (b := 26) (by omega) (by omega)) ?_
      refine xw_eP (xw_eB (l := 0) (by omega) (xw_eU (l := 0) (by omega) ?_))
      subst hf; subst hg
      exact h
    · intro n i g hi hg hn
      rw [wX_clearAutomaton_23]
      refine br_f (nI_ge (a := i) (b := 26) hi (by omega)) ⟨vp_in_nI hi (by omega), nm_e (nm_r (nI_1 i) (hn _ ?_))⟩
      rw [nI_clamp (by omega)]
      subst hg
      funext s
      by_cases e : s = i
      · subst e; simp [vp_updL]
      · have : s < i + 1 ↔ s < i := by omega
        simp only [vp_updL, if_neg e, this]
  · intro n i g hi hg hn
    rw [wX_clearAutomaton_2]
    refine br_f (nI_ge (a := i) (b := 64) hi (by omega)) ⟨vp_in_nI hi (by omega), nm_e (nm_r (nI_1 i) (hn _ ?_))⟩
    rw [nI_clamp (by omega)]
    subst hg
    funext s
    by_cases e : s = i
    · subst e; simp [vp_updL]
    · have : s < i + 1 ↔ s < i := by omega
      simp only [vp_updL, if_neg e, this]
theorem xw_post {post : St2 → Prop} {c : Nat} (hc : c < 65536) (h : post (xk, xn, xc, xF, xS, xP, xt, xl, xp1, xp2, if c = 43 then xp3 else 0, xN, xV, if c = 63 then xfo else bs_add xfo xp2 xp1, xsl, xeb, xss, xws, xuf, xul, xus, xbf, xbl, xbs)) : wpX_applyPostfix post (xk, xn, xc, xF, xS, xP, xt, xl, xp1, xp2, xp3, xN, xV, xfo, xsl, xeb, xss, xws, xuf, xul, xus, xbf, xbl, xbs) (nI c) := by
  unfold wpX_applyPostfix
  dsimp only
  refine pk_eq c 63 (fun e => ?_) (fun e => ?_)
  · unfold wX_applyPostfix_18
    rw [if_pos e, if_neg (by omega)] at h
    exact pk_eq c 43 (fun e' => by omega) (fun _ => h)
  · rw [if_neg e] at h
    refine xw_add ?_
    unfold wX_applyPostfix_18
    refine pk_eq c 43 (fun e' => ?_) (fun e' => ?_)
    · rw [if_pos e'] at h; exact h
    · rw [if_neg e'] at h; exact h
theorem xw_c97 {c : Nat} (h : gr_L c) : nI c - 97 = nI (c - 97) := pk_sub (b := 97) h.1
theorem xw_acc {post : St2 → Prop} {c : Nat} (hc : gr_L c) (h : post (xk, xn, xc, xF, xS, xP, xt, xl, xp1, xp2, xp3, xN, xV, xfo, vp_updL xsl (c - 97) (xsl (c - 97) ||| xN), xeb, xss, xws, xuf, xul, xus, xbf, xbl, xbs)) : wpX_acceptLetter post (xk, xn, xc, xF, xS, xP, xt, xl, xp1, xp2, xp3, xN, xV, xfo, xsl, xeb, xss, xws, xuf, xul, xus, xbf, xbl, xbs) (nI c) := by
  unfold wpX_acceptLetter
  dsimp only
  rw [xw_c97 hc, nI_clamp (by omega)]
  have hv := vp_in_nI (n := c - 97) (N := 26) (by omega) (by omega)
  exact ⟨hv, hv, nm_e h⟩
theorem xw_join {post : St2 → Prop} {l : Nat} (hl : l < 65) (h : post (xk, xn, xc, xF, xS, xP, xt, nI l, 0, 0, 0, xN, xV, bs_add xfo (xbl l) xp1, xsl, xeb, xss, xws, xuf, xul, xus, fun j => if j = l then (if xbs l = 0 then xbf l ||| xp1 else xbf l) else xbf j, fun j => if j = l then (if 0 < xp3 then 0 else xbl l) ||| xp2 else xbl j, fun j => if j = l then xbs l + xp3 else xbs j)) :
    wpX_joinPiece post (xk, xn, xc, xF, xS, xP, xt, nI l, xp1, xp2, xp3, xN, xV, xfo, xsl, xeb, xss, xws, xuf, xul, xus, xbf, xbl, xbs) := by
  have hv := vp_in_nI hl (N := 65) (by omega)
  have h62 : ∀ (f f' : Nat → Int64) (g : Nat → Int64), (f' = fun j => if j = l then (if 0 < xp3 then 0 else xbl l) ||| xp2 else xbl j) → f' = vp_updL f l (f l ||| xp2) →
      (g = fun j => if j = l then (if xbs l = 0 then xbf l ||| xp1 else xbf l) else xbf j) →
      wX_joinPiece_62 post xk xn xc xF xS xP xt (nI l) xp1 xp2 xp3 xN xV (bs_add xfo (xbl l) xp1) xsl xeb xss xws xuf xul xus g f xbs := by
    intro f f' g e1 e2 e3
    unfold wX_joinPiece_62
    rw [nI_clamp (by omega)]
    refine ⟨hv, hv, nm_r e2.symm ⟨hv, hv, nm_e ?_⟩⟩
    refine xw_eP ?_
    subst e1 e3
    exact h
  have h45 : ∀ (g : Nat → Int64), (g = fun j => if j = l then (if xbs l = 0 then xbf l ||| xp1 else xbf l) else xbf j) →
      wX_joinPiece_45 post xk xn xc xF xS xP xt (nI l) xp1 xp2 xp3 xN xV (bs_add xfo (xbl l) xp1) xsl xeb xss xws xuf xul xus g xbl xbs := by
    intro g e3
    unfold wX_joinPiece_45
    by_cases c : xp3 ≤ 0
    · refine br_t c (h62 xbl _ g ?_ rfl e3)
      funext j
      rw [if_neg (Int32.not_lt.mpr c)]
      by_cases e : j = l
      · subst e; simp [vp_updL]
      · simp [vp_updL, e]
    · refine br_f c ⟨hv, nm_e (h62 _ _ g ?_ rfl e3)⟩
      rw [nI_clamp (by omega)]
      funext j
      rw [if_pos (Int32.not_le.mp c)]
      by_cases e : j = l
      · subst e; simp [vp_updL]
      · simp [vp_updL, e]
  unfold wpX_joinPiece
  dsimp only
  rw [nI_clamp (by omega)]
  refine ⟨hv, xw_add ?_⟩
  dsimp only
  rw [nI_clamp (by omega)]
  refine ⟨hv, ?_⟩
  by_cases c : xbs l = 0
  · refine br_t c ⟨hv, hv, nm_r ?_ (h45 _ rfl)⟩
    funext j
    rw [if_pos c]
    by_cases e : j = l
    · subst e; simp [vp_updL]
    · simp [vp_updL, e]
  · refine br_f c ?_
    have e3 : xbf = fun j => if j = l then (if xbs l = 0 then xbf l ||| xp1 else xbf l) else xbf j := by
      funext j
      rw [if_neg c]
      by_cases e : j = l
      · subst e; simp
      · simp [e]
    exact h45 xbf e3
theorem xw_endB {post : St2 → Prop} {l : Nat} (hl : l < 65) (h : post (xk, xn, xc, xF, xS, xP, xt, nI l, xp1, xp2, xp3, xN, xV, xfo, xsl, xeb, xss, xws, fun j => if j = l then xuf l ||| xbf l else xuf j, fun j => if j = l then xul l ||| xbl l else xul j, fun j => if j = l then (if xbs l < xus l then xbs l else xus l) else xus j, fun j => if j = l then 0 else xbf j, fun j => if j = l then 0 else xbl j, fun j => if j = l then 0 else xbs j)) :
    wpX_endBranch post (xk, xn, xc, xF, xS, xP, xt, nI l, xp1, xp2, xp3, xN, xV, xfo, xsl, xeb, xss, xws, xuf, xul, xus, xbf, xbl, xbs) := by
  have hv := vp_in_nI hl (N := 65) (by omega)
  unfold wpX_endBranch
  dsimp only
  rw [nI_clamp (by omega)]
  refine ⟨hv, hv, hv, nm_e ⟨hv, hv, hv, nm_e ⟨hv, hv, ?_⟩⟩⟩
  by_cases c : xus l ≤ xbs l
  · refine br_t c ?_
    unfold wX_endBranch_81
    refine xw_eB hl ?_
    rw [if_neg (Int32.not_lt.mpr c)] at h
    have e : xus = fun j => if j = l then xus l else xus j := by
      funext j
      by_cases e : j = l
      · subst e; simp
      · simp [e]
    rw [← e] at h
    exact h
  · refine br_f c ⟨hv, hv, nm_e ?_⟩
    unfold wX_endBranch_81
    refine xw_eB hl ?_
    rw [if_pos (Int32.not_le.mp c)] at h
    exact h
theorem xw_closeL {post : St2 → Prop} {l : Nat} (hl : l + 1 < 65) (h : post (xk, xn, xc, xF, xS, xP, xt, nI l, xuf (l + 1), xul (l + 1), xus (l + 1), xN, xV, xfo, xsl, xeb, xss, xws, xuf, xul, xus, xbf, xbl, xbs)) : wpX_closeLevel post (xk, xn, xc, xF, xS, xP, xt, nI (l + 1), xp1, xp2, xp3, xN, xV, xfo, xsl, xeb, xss, xws, xuf, xul, xus, xbf, xbl, xbs) := by
  have hv := vp_in_nI hl (N := 65) (by omega)
  unfold wpX_closeLevel
  dsimp only
  rw [nI_clamp (by omega)]
  exact ⟨hv, nm_e ⟨hv, nm_e ⟨hv, nm_e (nm_r (nI_pred l) h)⟩⟩⟩
theorem xw_shl (π : Nat) : lN (2 ^ π) <<< ((1 : Int32).toInt64 &&& 63) = lN (2 ^ (π + 1)) := by
  have := wb_shl (2 ^ π) (k := 1) (by omega)
  rw [Nat.pow_one, ← Nat.pow_succ] at this
  exact this
theorem xw_begin {post : St2 → Prop} {π : Nat} (h : post (xk, xn, xc, xF, xS, xP, xt, xl, lN (2 ^ (π + 1)), lN (2 ^ (π + 1)), 1, lN (2 ^ (π + 1)), xV, xfo, xsl, xeb, xss, xws, xuf, xul, xus, xbf, xbl, xbs)) : wpX_beginPosition post (xk, xn, xc, xF, xS, xP, xt, xl, xp1, xp2, xp3, lN (2 ^ π), xV, xfo, xsl, xeb, xss, xws, xuf, xul, xus, xbf, xbl, xbs) := by
  unfold wpX_beginPosition
  dsimp only
  exact nm_r (xw_shl π) h
theorem xw_every {post : St2 → Prop} (h : post (xk, xn, xc, xF, xS, xP, xt, xl, xp1, xp2, xp3, xN, xV, xfo, fun s => if s < 26 then xsl s ||| xN else xsl s, xeb, xss, xws, xuf, xul, xus, xbf, xbl, xbs)) : wpX_acceptEveryLetter post (xk, xn, xc, xF, xS, xP, xt, xl, xp1, xp2, xp3, xN, xV, xfo, xsl, xeb, xss, xws, xuf, xul, xus, xbf, xbl, xbs) := by
  unfold wpX_acceptEveryLetter
  dsimp only
  refine pk_loop (fun n i (f : Nat → Int64) => wX_acceptEveryLetter_2 post xk xn xc xF xS xP xt xl xp1 xp2 xp3 xN n (nI i) xV xfo f xeb xss xws xuf xul xus xbf xbl xbs)
    (fun i f => f = fun s => if s < i then xsl s ||| xN else xsl s) 26 0 xsl (by omega) (by funext s; simp) ?_ ?_
  · intro n f hf
    rw [wX_acceptEveryLetter_2]
    exact br_t (nI_le (a := 26) (b := 26) (by omega) (by omega)) (by subst hf; exact h)
  · intro n i f hi hf hn
    rw [wX_acceptEveryLetter_2]
    refine br_f (nI_ge (a := i) (b := 26) hi (by omega)) ⟨vp_in_nI hi (by omega), vp_in_nI hi (by omega), nm_e (nm_r (nI_1 i) (hn _ ?_))⟩
    rw [nI_clamp (by omega)]
    subst hf
    funext s
    by_cases e : s = i
    · subst e; simp [vp_updL]
    · have : s < i + 1 ↔ s < i := by omega
      simp only [vp_updL, if_neg e, this]
end
end
section
/-! The component's compile loop. -/
def xb_f (b : Bool) : Int32 := if b = true then 1 else 0
theorem xb_f1 : xb_f true = 1 := rfl
theorem xb_f0 : xb_f false = 0 := rfl
theorem gr_dpl {W : Nat → Nat} : ∀ i, gr_dp W i ≤ i := by
  intro i
  induction i with
  | zero => exact Nat.le_refl _
  | succ i ih => rw [gr_dp1]; split; · omega
                 split <;> omega
section
variable {xk xn xc xS xP xt xl xp3 : Int32} {xF xp1 xp2 xN : Int64} {xV xeb xus xbs : Nat → Int32} {xfo xsl xss xws xuf xul xbf xbl : Nat → Int64}
variable {W : Nat → Nat} {m : Nat}
theorem xb_72 {post : St2 → Prop} {J : Int32 → Int32 → Int32 → Int32 → Int32 → Int64 → Int32 → Int32 → Int32 → Int32 → Int64 → Int64 → Int32 → Int64 → (Nat → Int32) → (Nat → Int64) → (Nat → Int64) → (Nat → Int32) → (Nat → Int64) → (Nat → Int64) → (Nat → Int64) → (Nat → Int64) → (Nat → Int32) → (Nat → Int64) → (Nat → Int64) → (Nat → Int32) → Prop} {x i : Nat}
    (hc : W x < 65536) (h : J (xb_f (gr_ic W (x + 1))) (nI (i + 1)) xk xn xc xF xS xP xt xl xp1 xp2 xp3 xN xV xfo xsl xeb xss xws xuf xul xus xbf xbl xbs) : wX_buildAutomaton_72 post J (xb_f (gr_ic W x)) (nI i) (nI (W x)) xk xn xc xF xS xP xt xl xp1 xp2 xp3 xN xV xfo xsl xeb xss xws xuf xul xus xbf xbl xbs := by
  unfold wX_buildAutomaton_72
  rw [gr_ic1] at h
  refine pk_eq (W x) 91 (fun e => nm_r (nI_1 i) ?_) (fun e => ?_)
  · simp [e] at h; exact h
  · cases hi : gr_ic W x with
    | false =>
      rw [hi, beq_false_of_ne e] at h
      exact br_t rfl (nm_r (nI_1 i) h)
    | true =>
      rw [hi, beq_false_of_ne e] at h
      refine br_f (by decide) (pk_eq (W x) 93 (fun e' => nm_r (nI_1 i) ?_) (fun e' => nm_r (nI_1 i) ?_))
      · rw [e'] at h; exact h
      · rw [beq_false_of_ne e'] at h; exact h
/-- joinPiece and one character behind it -/
theorem xb_take {post : St2 → Prop} {x : Nat} (hV : gr_V W m) (hm : gr_ct W m ≤ 63) (hx1 : 1 ≤ x) (hx : x < m - 1) (hx64 : x ≤ 64) (hi : gr_ic W x = false) (hno : ¬ gr_O (W x)) (hc : W x < 65536)
    (hI : xl_I W m x xl xuf xul xus xbf xbl xbs xp1 xp2 xp3 xfo) (hN : xN = lN (2 ^ gr_ct W x)) (hS : xb_S W x xsl)
    (h : ∀ xl xp1 xp2 xp3 xN xfo xsl xuf xul xus xbf xbl xbs, xl_I W m (x + 1) xl xuf xul xus xbf xbl xbs xp1 xp2 xp3 xfo → xN = lN (2 ^ gr_ct W (x + 1)) → xb_S W (x + 1) xsl → post (xk, xn, xc, xF, xS, xP, xt, xl, xp1, xp2, xp3, xN, xV, xfo, xsl, xeb, xss, xws, xuf, xul, xus, xbf, xbl, xbs))
    {Q : St2 → Prop} (hq : ∀ xl xp1 xp2 xp3 xN xfo xsl xuf xul xus xbf xbl xbs, wpX_takePatternChar post (xk, xn, xc, xF, xS, xP, xt, xl, xp1, xp2, xp3, xN, xV, xfo, xsl, xeb, xss, xws, xuf, xul, xus, xbf, xbl, xbs) (nI (W x)) → Q (xk, xn, xc, xF, xS, xP, xt, xl, xp1, xp2, xp3, xN, xV, xfo, xsl, xeb, xss, xws, xuf, xul, xus, xbf, xbl, xbs)) :
    wpX_joinPiece Q (xk, xn, xc, xF, xS, xP, xt, xl, xp1, xp2, xp3, xN, xV, xfo, xsl, xeb, xss, xws, xuf, xul, xus, xbf, xbl, xbs) := by
  have hV' := hV
  obtain ⟨w1, w2, w3, w4, w5, w6, w7, w8⟩ := hV
  have hd := w6 x hx1 (by omega)
  obtain ⟨l, hl⟩ : ∃ l, gr_dp W x = l + 1 := ⟨gr_dp W x - 1, by omega⟩
  have hdl := gr_dpl (W := W) x
  have hctm := gr_ctM (W := W) (show x + 1 ≤ m from by omega)
  have hctx := gr_ctM (W := W) (show x ≤ x + 1 from by omega)
  obtain ⟨el, R, hJ, hF⟩ := xl_stepJ (by omega) hi hI hl rfl rfl rfl rfl
  subst el
  subst hN
  refine xw_join (by omega) (hq _ _ _ _ _ _ _ _ _ _ _ _ _ ?_)
  unfold wpX_takePatternChar
  dsimp only
  have hcase := w8 x hx1 (by omega) hi
  refine pk_eq (W x) 40 (fun e => ?_) (fun e40 => ?_)
  · refine nm_r (nI_1 l) (xw_eB (l := l + 1) (by omega) (xw_eU (l := l + 1) (by omega) (h _ _ _ _ _ _ _ _ _ _ _ _ _ (xs_open hi e hl hJ hF rfl rfl rfl rfl rfl rfl) ?_ (xb_Sn hS ?_))))
    · rw [xs_ctN (gs_nS (by omega))]
    · rintro c b hc (⟨q, _⟩ | ⟨q, _⟩ | ⟨_, q, _⟩) <;> omega
  · refine pk_eq (W x) 41 (fun e => ?_) (fun e41 => ?_)
    · have hd2 : 1 ≤ gr_dp W (x + 1) := w6 (x + 1) (by omega) (by omega)
      rw [gr_dp1, if_neg (by omega), if_pos e, hl] at hd2
      obtain ⟨l', rfl⟩ : ∃ l', l = l' + 1 := ⟨l - 1, by omega⟩
      refine xw_endB (by omega) (xw_closeL (by omega) ?_)
      refine h _ _ _ _ _ _ _ _ _ _ _ _ _ ?_ (by rw [xs_ctN (gs_nS (by omega))]) (xb_Sn hS ?_)
      · have q := xs_close (by omega) hi e hl hJ hF (uf' := fun j => if j = l' + 1 then xuf (l' + 1) ||| (if l' + 1 = l' + 1 then (if xbs (l' + 1) = 0 then xbf (l' + 1) ||| xp1 else xbf (l' + 1)) else xbf (l' + 1)) else xuf j) (fun j hj => if_neg (by omega))
          (ul' := fun j => if j = l' + 1 then xul (l' + 1) ||| (if l' + 1 = l' + 1 then (if 0 < xp3 then 0 else xbl (l' + 1)) ||| xp2 else xbl (l' + 1)) else xul j) (fun j hj => if_neg (by omega))
          (us' := fun j => if j = l' + 1 then (if (if l' + 1 = l' + 1 then xbs (l' + 1) + xp3 else xbs (l' + 1)) < xus (l' + 1) then (if l' + 1 = l' + 1 then xbs (l' + 1) + xp3 else xbs (l' + 1)) else xus (l' + 1)) else xus j) (fun j hj => if_neg (by omega))
          (bf' := fun j => if j = l' + 1 then 0 else (if j = l' + 1 then (if xbs (l' + 1) = 0 then xbf (l' + 1) ||| xp1 else xbf (l' + 1)) else xbf j)) (fun j hj => if_neg (by omega))
          (bl' := fun j => if j = l' + 1 then 0 else (if j = l' + 1 then (if 0 < xp3 then 0 else xbl (l' + 1)) ||| xp2 else xbl j)) (fun j hj => if_neg (by omega))
          (bs' := fun j => if j = l' + 1 then 0 else (if j = l' + 1 then xbs (l' + 1) + xp3 else xbs j)) (fun j hj => if_neg (by omega))
        simp only [if_true] at q ⊢
        exact q
      · rintro c b hc (⟨q, _⟩ | ⟨q, _⟩ | ⟨_, q, _⟩) <;> omega
    · refine pk_eq (W x) 124 (fun e => ?_) (fun e124 => ?_)
      · refine xw_endB (by omega) (h _ _ _ _ _ _ _ _ _ _ _ _ _ (xs_bar (by omega) hi e hl hJ hF rfl rfl rfl rfl rfl rfl) (by rw [xs_ctN (gs_nS (by omega))]) (xb_Sn hS ?_))
        rintro c b hc (⟨q, _⟩ | ⟨q, _⟩ | ⟨_, q, _⟩) <;> omega
      · refine pk_eq (W x) 91 (fun e => ?_) (fun e91 => ?_)
        · refine xw_begin (h _ _ _ _ _ _ _ _ _ _ _ _ _ (xs_brack (by omega) e hJ hF) (by rw [xs_ctS (Or.inr (Or.inl e))]) (xb_Sn hS ?_))
          rintro c b hc (⟨q, _⟩ | ⟨q, _⟩ | ⟨_, q, _⟩) <;> omega
        · refine pk_eq (W x) 46 (fun e => ?_) (fun e46 => ?_)
          · have hct := xs_ctS (W := W) (i := x) (Or.inl e)
            refine xw_begin (xw_every (h _ _ _ _ _ _ _ _ _ _ _ _ _ (xs_letter (by omega) hi (Or.inr e) hJ hF) (by rw [hct]) (xb_Sd hS e hi (by omega))))
          · have hL : gr_L (W x) := by omega
            have hct := xs_ctS (W := W) (i := x) (Or.inr (Or.inr ⟨hL, hi⟩))
            refine xw_isL hc (fun _ => br_f (by decide) ?_) (fun q => absurd hL q)
            refine xw_begin (xw_acc hL (h _ _ _ _ _ _ _ _ _ _ _ _ _ (xs_letter (by omega) hi (Or.inl hL) hJ hF) (by rw [hct]) (xb_Sl hS hL (by omega) ?_)))
            intro b
            constructor
            · rintro (⟨_, _, q⟩ | ⟨q, _⟩ | ⟨q, _⟩)
              · exact q.symm
              · omega
              · rw [hi] at q; exact Bool.noConfusion q
            · rintro rfl; exact Or.inl ⟨rfl, hi, rfl⟩
/-- the whole loop -/
theorem xb_loop {post : St2 → Prop} {V : Nat → Nat} {n : Nat} (hn0 : 0 < n) (hn : n ≤ 64) (hW : W = vd_W V n) (hm : m = n + 2) (hV : gr_V W m) (hct : gr_ct W m ≤ 63) (hal : ∀ i, i < n → vd_al (V i))
    (hxn : xn = nI n) (hxV : xV = fun i => nI (V i))
    (h : ∀ xF xS xl xp1 xp2 xp3 xN xfo xsl xuf xul xus xbf xbl xbs, xb_R W m xfo xsl xF xS → post (xk, xn, xc, xF, xS, xP, xt, xl, xp1, xp2, xp3, xN, xV, xfo, xsl, xeb, xss, xws, xuf, xul, xus, xbf, xbl, xbs)) :
    ∀ d i, i + d = n → ∀ xl xp1 xp2 xp3 xN xfo xsl xuf xul xus xbf xbl xbs, xl_I W m (i + 1) xl xuf xul xus xbf xbl xbs xp1 xp2 xp3 xfo → xN = lN (2 ^ gr_ct W (i + 1)) → xb_S W (i + 1) xsl →
      wX_buildAutomaton_8 post (d + 1) (xb_f (gr_ic W (i + 1))) (nI i) xk xn xc xF xS xP xt xl xp1 xp2 xp3 xN xV xfo xsl xeb xss xws xuf xul xus xbf xbl xbs := by
  intro d
  induction d with
  | zero =>
    intro i hi xl xp1 xp2 xp3 xN xfo xsl xuf xul xus xbf xbl xbs hI hN hS
    have : i = n := by omega
    subst this
    rw [wX_buildAutomaton_8]
    subst hxn
    refine br_t (nI_le (Nat.le_refl _) (by omega)) ?_
    have hV' := hV
    obtain ⟨w1, w2, w3, w4, w5, w6, w7, w8⟩ := hV
    have em : m - 1 = i + 1 := by omega
    rw [← em] at hI hN hS
    have hctm := gr_ctM (W := W) (show m - 1 ≤ m from by omega)
    obtain ⟨el, R, hJ, hF⟩ := xl_stepJ (l := 0) (by omega) w4 hI w5 rfl rfl rfl rfl
    subst el
    refine xw_join (by omega) (xw_endB (by omega) ?_)
    obtain ⟨F, L, n0, g1, g2, g3, g4, g5⟩ := xs_end hV' hct hJ hF
    have hSm : xb_S W m xsl := by
      have := xb_Sn hS (fun c b hc => by rintro (⟨q, _⟩ | ⟨q, _⟩ | ⟨_, q, _⟩) <;> omega)
      rw [show m - 1 + 1 = m from by omega] at this
      exact this
    simp only [if_true] at g2 g3 g4 ⊢
    have hA := gv_A hV' g1 (xb_fo hct g1 g2 hF)
    have hmin : fg_P (gr_E W) 0 m 0 m n0 ∧ ∀ k, fg_P (gr_E W) 0 m 0 m k → n0 ≤ k := ⟨g1.2.2.2.2.2.2.1, g1.2.2.2.2.2.2.2⟩
    refine nm_e (nm_e (nm_r g4 ?_))
    by_cases c : n0 = 0
    · refine br_t (by rw [c]; exact nI_0) (nm_e (h _ _ _ _ _ _ _ _ _ _ _ _ _ _ _ ⟨n0, rfl, g5, hmin.1, hmin.2, hA, xb_fin g1 g3 (by rw [if_pos c]), hSm, hct⟩))
    · refine br_f (nI_ne0 (by omega) (by omega)) (h _ _ _ _ _ _ _ _ _ _ _ _ _ _ _ ⟨n0, rfl, g5, hmin.1, hmin.2, hA, xb_fin g1 g3 (by rw [if_neg c]), hSm, hct⟩)
  | succ d ih =>
    intro i hi xl xp1 xp2 xp3 xN xfo xsl xuf xul xus xbf xbl xbs hI hN hS
    rw [wX_buildAutomaton_8]
    have hWi : W (i + 1) = V i := by rw [hW]; exact vd_W1 (by omega)
    have hali := hal i (by omega)
    have hcl : W (i + 1) < 65536 := by rw [hWi]; omega
    have hV' := hV
    obtain ⟨w1, w2, w3, w4, w5, w6, w7, w8⟩ := hV
    have ex : xV (nI i).toNatClampNeg = nI (W (i + 1)) := by rw [hxV, nI_clamp (by omega), hWi]
    refine br_f (by rw [hxn]; exact nI_ge (by omega) (by omega)) ⟨vp_in_nI (by omega) (by omega), nm_r ex ?_⟩
    have next : ∀ xl xp1 xp2 xp3 xN xfo xsl xuf xul xus xbf xbl xbs, xl_I W m (i + 1 + 1) xl xuf xul xus xbf xbl xbs xp1 xp2 xp3 xfo → xN = lN (2 ^ gr_ct W (i + 1 + 1)) → xb_S W (i + 1 + 1) xsl →
        wX_buildAutomaton_72 post (wX_buildAutomaton_8 post (d + 1)) (xb_f (gr_ic W (i + 1))) (nI i) (nI (W (i + 1))) xk xn xc xF xS xP xt xl xp1 xp2 xp3 xN xV xfo xsl xeb xss xws xuf xul xus xbf xbl xbs :=
      fun xl xp1 xp2 xp3 xN xfo xsl xuf xul xus xbf xbl xbs a b c => xb_72 hcl (ih (i + 1) (by omega) _ _ _ _ _ _ _ _ _ _ _ _ _ a b c)
    cases hic : gr_ic W (i + 1) with
    | false =>
      rw [hic] at next
      have hcase := w8 (i + 1) (by omega) (by omega) hic
      refine xw_isO hcl (fun hO => br_f (by decide) ?_) (fun hO => br_t rfl (br_t rfl ?_))
      · refine xw_post hcl (next _ _ _ _ _ _ _ _ _ _ _ _ _ (xs_op hic hO (by rcases hcase with q | q | q; omega; omega; exact q.2) hI rfl rfl) (by rw [xs_ctN (gs_nS (by omega))]; exact hN) (xb_Sn hS ?_))
        rintro c b hc (⟨q, _⟩ | ⟨q, _⟩ | ⟨_, q, _⟩) <;> omega
      · unfold wX_buildAutomaton_57
        refine pk_eq (W (i + 1)) 93 (fun e => by omega) (fun e => ?_)
        exact xb_take (post := fun u => match u with | (xk, xn, xc, xF, xS, xP, xt, xl, xp1, xp2, xp3, xN, xV, xfo, xsl, xeb, xss, xws, xuf, xul, xus, xbf, xbl, xbs) => wX_buildAutomaton_72 post (wX_buildAutomaton_8 post (d + 1)) (xb_f false) (nI i) (nI (W (i + 1))) xk xn xc xF xS xP xt xl xp1 xp2 xp3 xN xV xfo xsl xeb xss xws xuf xul xus xbf xbl xbs) hV' hct (by omega) (by omega) (by omega) hic hO hcl hI hN hS
          (fun xl xp1 xp2 xp3 xN xfo xsl xuf xul xus xbf xbl xbs a b c => next _ _ _ _ _ _ _ _ _ _ _ _ _ a b c) (fun xl xp1 xp2 xp3 xN xfo xsl xuf xul xus xbf xbl xbs a => a)
    | true =>
      rw [hic] at next
      have hcase := w7 (i + 1) (by omega) (by omega) hic
      have hctx := gr_ctM (W := W) (show i + 1 ≤ m from by omega)
      have hI' := xs_class hV' (by omega) hic hcase hI
      have hNS : ¬ gr_S W (i + 1) := by
        rintro (q | q | ⟨_, q⟩)
        · omega
        · omega
        · rw [hic] at q; exact Bool.noConfusion q
      refine xw_isO hcl (fun hO => by omega) (fun hO => br_t rfl (br_f (by decide) ?_))
      refine xw_isL hcl (fun hL => br_f (by decide) ?_) (fun hL => br_t rfl ?_)
      · refine xw_acc hL (next _ _ _ _ _ _ _ _ _ _ _ _ _ hI' (by rw [xs_ctN hNS]; exact hN) ?_)
        rw [hN]
        refine xb_Sl hS hL (by omega) ?_
        intro b
        constructor
        · rintro (⟨_, q, _⟩ | ⟨q, _⟩ | ⟨_, _, q⟩)
          · rw [hic] at q; exact Bool.noConfusion q
          · omega
          · exact q.symm
        · rintro rfl; exact Or.inr (Or.inr ⟨hic, rfl, rfl⟩)
      · have e93 : W (i + 1) = 93 := by omega
        unfold wX_buildAutomaton_57
        refine pk_eq (W (i + 1)) 93 (fun e => ?_) (fun e => absurd e93 e)
        refine next _ _ _ _ _ _ _ _ _ _ _ _ _ hI' (by rw [xs_ctN hNS]; exact hN) (xb_Sn hS ?_)
        rintro c b hc (⟨q, _⟩ | ⟨q, _⟩ | ⟨_, q, _⟩) <;> omega
theorem xb_build {post : St2 → Prop} {V : Nat → Nat} {n : Nat} (hn0 : 0 < n) (hn : n ≤ 64) (hW : W = vd_W V n) (hm : m = n + 2) (hV : gr_V W m) (hct : gr_ct W m ≤ 63) (hal : ∀ i, i < n → vd_al (V i))
    (hxn : xn = nI n) (hxV : xV = fun i => nI (V i))
    (h : ∀ xF xS xl xp1 xp2 xp3 xN xfo xsl xuf xul xus xbf xbl xbs, xb_R W m xfo xsl xF xS → post (xk, xn, xc, xF, xS, xP, xt, xl, xp1, xp2, xp3, xN, xV, xfo, xsl, xeb, xss, xws, xuf, xul, xus, xbf, xbl, xbs)) : wpX_buildAutomaton post (xk, xn, xc, xF, xS, xP, xt, xl, xp1, xp2, xp3, xN, xV, xfo, xsl, xeb, xss, xws, xuf, xul, xus, xbf, xbl, xbs) := by
  unfold wpX_buildAutomaton
  refine xw_clear ?_
  refine ⟨n + 1, ?_⟩
  have w2 : W 0 = 40 := hV.2.1
  have hct1 : gr_ct W (0 + 1) = 0 := by rw [xs_ctN (gs_nS (by omega))]; rfl
  have hic1 : gr_ic W (0 + 1) = false := by rw [gr_ic1]; simp [w2, gr_ic]
  have q := xb_loop (xF := xF) (xS := xS) (post := post) hn0 hn hW hm hV hct hal hxn hxV h n 0 (by omega) (nI 0) 0 0 0 1 (fun s => if s < 64 then 0 else xfo s) (fun s => if s < 26 then 0 else xsl s) (vp_updL xuf 0 0) (vp_updL xul 0 0) (upd xus 0 64) (vp_updL xbf 0 0) (vp_updL xbl 0 0) (upd xbs 0 0)
    (xb_I0 hV rfl rfl rfl rfl rfl rfl (fun p hp => if_pos hp)) (by rw [hct1]; rfl) (xb_S0 w2 (fun c hc => if_pos hc))
  rw [hic1] at q
  exact q
end
end
section
/-! The component's other methods over one state. -/
section
variable {xk xn xc xS xP xt xl xp3 : Int32} {xF xp1 xp2 xN : Int64} {xV xeb xus xbs : Nat → Int32} {xfo xsl xss xws xuf xul xbf xbl : Nat → Int64}
variable {W : Nat → Nat}
theorem xv_ic {i : Nat} (hp : vd_p W (i + 1)) (h : gr_ic W (i + 1) = true) : W i = 91 ∨ gr_L (W i) := by
  rw [gr_ic1, Bool.or_eq_true, Bool.and_eq_true] at h
  rcases h with h | ⟨h1, h2⟩
  · left; exact eq_of_beq h
  · right
    have hi : 1 ≤ i := by
      cases i with
      | zero => exact absurd h1 (by simp [gr_ic])
      | succ i => omega
    rcases (hp i hi (by omega)).2.1 h1 with q | q
    · exact q
    · rw [q.1] at h2; exact absurd h2 (by decide)
theorem xv_dp {i : Nat} (h0 : W 0 = 40) (hp : vd_p W (i + 1)) : 1 ≤ gr_dp W (i + 1) := by
  cases i with
  | zero => rw [gr_dp1, if_pos h0]; omega
  | succ i => exact (hp (i + 1) (by omega) (by omega)).1
theorem xv_d1 {p : Prop} {d : Decidable p} (h : p) : xb_f (@decide p d) = 1 := by rw [decide_eq_true h]; rfl
theorem xv_d0 {p : Prop} {d : Decidable p} (h : ¬ p) : xb_f (@decide p d) = 0 := by rw [decide_eq_false h]; rfl
theorem xv_91 {i : Nat} (h : gr_ic W (i + 1) = false) : W i ≠ 91 := by
  intro e
  rw [gr_ic1] at h
  simp [e] at h
theorem xv_loop {post : Int32 → Prop} {V : Nat → Nat} {n : Nat} (hn : n ≤ 64) (hW : W = vd_W V n) (hal : ∀ i, i < n → vd_al (V i)) (hxn : xn = nI n) (hxV : xV = fun i => nI (V i))
    (h1 : vd_V W n → post 1) (h0 : ¬ vd_V W n → post 0) :
    ∀ d i, i + d = n → vd_p W (i + 1) → wX_isValidPattern_12 post xk xn xc xF xS xP xt xl xp1 xp2 xp3 xN xV xfo xsl xeb xss xws xuf xul xus xbf xbl xbs (d + 1) (nI (gr_dp W (i + 1) - 1)) (xb_f (decide (W i = 40 ∨ W i = 124))) (xb_f (gr_ic W (i + 1))) (xb_f (decide (W i = 91))) (nI i) := by
  have w0 : W 0 = 40 := by rw [hW]; rfl
  intro d
  induction d with
  | zero =>
    intro i hi hp
    have : i = n := by omega
    subst this
    have hd := xv_dp w0 hp
    have hdl := gr_dpl (W := W) (i + 1)
    rw [wX_isValidPattern_12]
    subst hxn
    refine br_t (nI_le (Nat.le_refl _) (by omega)) ?_
    refine pk_eq (gr_dp W (i + 1) - 1) 0 (fun e => ?_) (fun e => h0 (fun q => e (by have := q.2.1; omega)))
    by_cases c : W i = 40 ∨ W i = 124
    · rw [xv_d1 c]
      exact br_f (by decide) (h0 (fun q => by have := q.2.2.2; omega))
    · rw [xv_d0 c]
      refine br_t rfl ?_
      cases hc : gr_ic W (i + 1) with
      | false => exact br_t rfl (h1 ⟨hp, by omega, hc, by omega, by omega⟩)
      | true => exact br_f (by decide) (h0 (fun q => by have := q.2.2.1; rw [hc] at this; exact Bool.noConfusion this))
  | succ d ih =>
    intro i hi hp
    have hd := xv_dp w0 hp
    have hdl := gr_dpl (W := W) (i + 1)
    have hWi : W (i + 1) = V i := by rw [hW]; exact vd_W1 (by omega)
    have hali := hal i (by omega)
    rw [← hWi] at hali
    have hcl : W (i + 1) < 65536 := by omega
    have ex : xV (nI i).toNatClampNeg = nI (W (i + 1)) := by rw [hxV, nI_clamp (by omega), hWi]
    have bad : ¬ vd_c W (i + 1) → post 0 := fun q => h0 (fun v => q (v.1 (i + 1) (by omega) (by omega)))
    have next : vd_c W (i + 1) → ∀ (a b c e : Int32), a = nI (gr_dp W (i + 1 + 1) - 1) → b = xb_f (decide (W (i + 1) = 40 ∨ W (i + 1) = 124)) → c = xb_f (gr_ic W (i + 1 + 1)) → e = xb_f (decide (W (i + 1) = 91)) →
        wX_isValidPattern_12 post xk xn xc xF xS xP xt xl xp1 xp2 xp3 xN xV xfo xsl xeb xss xws xuf xul xus xbf xbl xbs (d + 1) a b c e (nI (i + 1)) := by
      intro q a b c e ea eb ec ee
      subst ea eb ec ee
      exact ih (i + 1) (by omega) (vd_p1 hp q)
    rw [wX_isValidPattern_12]
    refine br_f (by rw [hxn]; exact nI_ge (by omega) (by omega)) ⟨vp_in_nI (by omega) (by omega), nm_r ex ?_⟩
    cases hic : gr_ic W (i + 1) with
    | false =>
      have h91 := xv_91 hic
      rw [xv_d0 h91]
      have icn : W (i + 1) ≠ 91 → gr_ic W (i + 1 + 1) = false := fun e => xs_icL hic e
      refine br_t rfl ?_
      refine pk_eq (W (i + 1)) 91 (fun e => nm_r (nI_1 i) ?_) (fun e91 => ?_)
      · have hdp : gr_dp W (i + 1 + 1) = gr_dp W (i + 1) := xs_dpn (by omega) (by omega)
        refine next ⟨by omega, fun q => by rw [hic] at q; exact Bool.noConfusion q, fun _ => Or.inl (Or.inr (Or.inr e))⟩ _ _ _ _ (by rw [hdp]) (xv_d0 (by omega)).symm ?_ (xv_d1 e).symm
        rw [gr_ic1]; simp [e, xb_f]
      · refine pk_eq (W (i + 1)) 40 (fun e => nm_r (nI_1 _) (nm_r (nI_1 i) ?_)) (fun e40 => ?_)
        · have hdp : gr_dp W (i + 1 + 1) = gr_dp W (i + 1) + 1 := by rw [gr_dp1, if_pos e]
          exact next ⟨by omega, fun q => by rw [hic] at q; exact Bool.noConfusion q, fun _ => Or.inr (Or.inl e)⟩ _ _ _ _ (by rw [hdp]; congr 1; omega) (xv_d1 (Or.inl e)).symm (by rw [icn e91]) (xv_d0 e91).symm
        · have hdp : W (i + 1) ≠ 41 → gr_dp W (i + 1 + 1) = gr_dp W (i + 1) := fun q => xs_dpn e40 q
          have src : W (i + 1) ≠ 41 → W (i + 1) ≠ 124 → (gr_L (W (i + 1)) ∨ W (i + 1) = 46) → wX_isValidPattern_12 post xk xn xc xF xS xP xt xl xp1 xp2 xp3 xN xV xfo xsl xeb xss xws xuf xul xus xbf xbl xbs (d + 1) (nI (gr_dp W (i + 1) - 1)) 0 (xb_f false) 0 (nI (i + 1)) := by
            intro q1 q2 q3
            exact next ⟨by rw [hdp q1]; exact hd, fun q => by rw [hic] at q; exact Bool.noConfusion q, fun _ => Or.inl (by omega)⟩ _ _ _ _ (by rw [hdp q1]) (xv_d0 (by omega)).symm (by rw [icn e91]) (xv_d0 e91).symm
          refine xw_isL hcl (fun hL => br_f (by decide) (nm_r (nI_1 i) (src (by omega) (by omega) (Or.inl hL)))) (fun hL => br_t rfl ?_)
          refine pk_eq (W (i + 1)) 46 (fun e => nm_r (nI_1 i) (src (by omega) (by omega) (Or.inr e))) (fun e46 => ?_)
          by_cases c : W i = 40 ∨ W i = 124
          · rw [xv_d1 c]
            refine br_f (by decide) (bad (fun q => ?_))
            have := q.2.2 hic
            rw [Nat.add_sub_cancel] at this
            omega
          · rw [xv_d0 c]
            refine br_t rfl (pk_eq (W (i + 1)) 93 (fun e => bad (fun q => by have := q.2.2 hic; omega)) (fun e93 => ?_))
            have good : 1 ≤ gr_dp W (i + 1 + 1) → vd_c W (i + 1) := fun q => ⟨q, fun q => by rw [hic] at q; exact Bool.noConfusion q, fun _ => Or.inr (Or.inr ⟨by omega, by rw [Nat.add_sub_cancel]; omega, by rw [Nat.add_sub_cancel]; omega⟩)⟩
            refine pk_eq (W (i + 1)) 124 (fun e => nm_r (nI_1 i) (next (good (by rw [hdp (by omega)]; exact hd)) _ _ _ _ (by rw [hdp (by omega)]) (xv_d1 (Or.inr e)).symm (by rw [icn e91]) (xv_d0 e91).symm)) (fun e124 => ?_)
            refine pk_eq (W (i + 1)) 41 (fun e => ?_) (fun e41 => nm_r (nI_1 i) (next (good (by rw [hdp e41]; exact hd)) _ _ _ _ (by rw [hdp e41]) (xv_d0 (by omega)).symm (by rw [icn e91]) (xv_d0 e91).symm))
            have hdq : gr_dp W (i + 1 + 1) = gr_dp W (i + 1) - 1 := by rw [gr_dp1, if_neg e40, if_pos e]
            refine pk_eq (gr_dp W (i + 1) - 1) 0 (fun e0 => bad (fun q => by have := q.1; omega)) (fun e0 => ?_)
            refine nm_r (e' := nI (gr_dp W (i + 1 + 1) - 1)) ?_ (nm_r (nI_1 i) (next (good (by omega)) _ _ _ _ rfl (xv_d0 (by omega)).symm (by rw [icn e91]) (xv_d0 e91).symm))
            obtain ⟨k, hk⟩ : ∃ k, gr_dp W (i + 1) - 1 = k + 1 := ⟨gr_dp W (i + 1) - 2, by omega⟩
            rw [hk, pk_m1]
            congr 1
            omega
    | true =>
      have hprev := xv_ic hp hic
      rw [xv_d0 (p := W i = 40 ∨ W i = 124) (by omega)]
      have h56 : vd_c W (i + 1) → (gr_L (W (i + 1)) ∨ W (i + 1) = 93) → wX_isValidPattern_56 post (wX_isValidPattern_12 post xk xn xc xF xS xP xt xl xp1 xp2 xp3 xN xV xfo xsl xeb xss xws xuf xul xus xbf xbl xbs (d + 1)) (nI (gr_dp W (i + 1) - 1)) 0 (nI i) (nI (W (i + 1))) xk xn xc xF xS xP xt xl xp1 xp2 xp3 xN xV xfo xsl xeb xss xws xuf xul xus xbf xbl xbs := by
        intro q q2
        have hdp : gr_dp W (i + 1 + 1) = gr_dp W (i + 1) := xs_dpn (by omega) (by omega)
        unfold wX_isValidPattern_56
        refine pk_eq (W (i + 1)) 93 (fun e => nm_r (nI_1 i) (next q _ _ _ _ (by rw [hdp]) (xv_d0 (by omega)).symm ?_ (xv_d0 (by omega)).symm)) (fun e => nm_r (nI_1 i) (next q _ _ _ _ (by rw [hdp]) (xv_d0 (by omega)).symm ?_ (xv_d0 (by omega)).symm))
        · rw [gr_ic1, hic]; simp [e, xb_f]
        · rw [gr_ic1, hic, beq_false_of_ne e]; simp [xb_f]
      refine br_f (by decide) ?_
      have hdp : gr_dp W (i + 1 + 1) = if W (i + 1) = 40 then gr_dp W (i + 1) + 1 else if W (i + 1) = 41 then gr_dp W (i + 1) - 1 else gr_dp W (i + 1) := gr_dp1
      refine xw_isL hcl (fun hL => br_f (by decide) (h56 ⟨?_, fun _ => Or.inl hL, fun q => by rw [hic] at q; exact Bool.noConfusion q⟩ (Or.inl hL))) (fun hL => br_t rfl ?_)
      · rw [hdp, if_neg (by omega), if_neg (by omega)]; exact hd
      · refine pk_eq (W (i + 1)) 93 (fun e => ?_) (fun e => bad (fun q => by have := q.2.1 hic; omega))
        by_cases c : W i = 91
        · rw [xv_d1 c]
          refine br_f (by decide) (bad (fun q => ?_))
          have := q.2.1 hic
          rw [Nat.add_sub_cancel] at this
          omega
        · rw [xv_d0 c]
          refine br_t rfl (h56 ⟨?_, fun _ => Or.inr ⟨e, by rw [Nat.add_sub_cancel]; exact c⟩, fun q => by rw [hic] at q; exact Bool.noConfusion q⟩ (Or.inr e))
          rw [hdp, if_neg (by omega), if_neg (by omega)]; exact hd
theorem xv_valid {post : Int32 → Prop} {V : Nat → Nat} {n : Nat} (hn : n ≤ 64) (hW : W = vd_W V n) (hal : ∀ i, i < n → vd_al (V i)) (hxn : xn = nI n) (hxV : xV = fun i => nI (V i))
    (h1 : vd_V W n → post 1) (h0 : ¬ vd_V W n → post 0) : wpX_isValidPattern post (xk, xn, xc, xF, xS, xP, xt, xl, xp1, xp2, xp3, xN, xV, xfo, xsl, xeb, xss, xws, xuf, xul, xus, xbf, xbl, xbs) := by
  have w0 : W 0 = 40 := by rw [hW]; rfl
  unfold wpX_isValidPattern
  dsimp only
  refine ⟨n + 1, ?_⟩
  have q := xv_loop (xk := xk) (xc := xc) (xF := xF) (xS := xS) (xP := xP) (xt := xt) (xl := xl) (xp1 := xp1) (xp2 := xp2) (xp3 := xp3) (xN := xN) (xfo := xfo) (xsl := xsl) (xeb := xeb) (xss := xss) (xws := xws) (xuf := xuf) (xul := xul) (xus := xus) (xbf := xbf) (xbl := xbl) (xbs := xbs) hn hW hal hxn hxV h1 h0 n 0 (by omega) (fun x q1 q2 => by omega)
  have e1 : gr_dp W (0 + 1) - 1 = 0 := by rw [gr_dp1, if_pos w0]; rfl
  have e2 : gr_ic W (0 + 1) = false := by rw [gr_ic1]; simp [w0, gr_ic]
  rw [e1, xv_d1 (Or.inl w0), e2, xv_d0 (by omega)] at q
  exact q
theorem xv_cloop {post : Int32 → Prop} {V : Nat → Nat} {n : Nat} (hn : n ≤ 64) (hW : W = vd_W V n) (hal : ∀ i, i < n → vd_al (V i)) (hxn : xn = nI n) (hxV : xV = fun i => nI (V i)) (h : post (nI (gr_ct W (n + 1)))) :
    ∀ d i, i + d = n → wX_countPositions_6 post xk xn xc xF xS xP xt xl xp1 xp2 xp3 xN xV xfo xsl xeb xss xws xuf xul xus xbf xbl xbs (d + 1) (nI (gr_ct W (i + 1))) (xb_f (gr_ic W (i + 1))) (nI i) := by
  intro d
  induction d with
  | zero =>
    intro i hi
    have : i = n := by omega
    subst this
    rw [wX_countPositions_6]
    subst hxn
    exact br_t (nI_le (Nat.le_refl _) (by omega)) h
  | succ d ih =>
    intro i hi
    have hWi : W (i + 1) = V i := by rw [hW]; exact vd_W1 (by omega)
    have hali := hal i (by omega)
    rw [← hWi] at hali
    have hcl : W (i + 1) < 65536 := by omega
    have ex : xV (nI i).toNatClampNeg = nI (W (i + 1)) := by rw [hxV, nI_clamp (by omega), hWi]
    rw [wX_countPositions_6]
    refine br_f (by rw [hxn]; exact nI_ge (by omega) (by omega)) ⟨vp_in_nI (by omega) (by omega), nm_r ex ?_⟩
    have h51 : ∀ a, a = nI (gr_ct W (i + 1 + 1)) → wX_countPositions_51 post (wX_countPositions_6 post xk xn xc xF xS xP xt xl xp1 xp2 xp3 xN xV xfo xsl xeb xss xws xuf xul xus xbf xbl xbs (d + 1)) a (xb_f (gr_ic W (i + 1))) (nI i) (nI (W (i + 1))) xk xn xc xF xS xP xt xl xp1 xp2 xp3 xN xV xfo xsl xeb xss xws xuf xul xus xbf xbl xbs := by
      intro a ea
      subst ea
      have q := ih (i + 1) (by omega)
      unfold wX_countPositions_51
      rw [gr_ic1 (i := i + 1)] at q
      refine pk_eq (W (i + 1)) 91 (fun e => nm_r (nI_1 i) ?_) (fun e => ?_)
      · rw [e] at q; exact q
      · rw [beq_false_of_ne e] at q
        cases hi : gr_ic W (i + 1) with
        | false => rw [hi] at q; exact br_t rfl (nm_r (nI_1 i) q)
        | true =>
          rw [hi] at q
          refine br_f (by decide) (pk_eq (W (i + 1)) 93 (fun e' => nm_r (nI_1 i) ?_) (fun e' => nm_r (nI_1 i) ?_))
          · rw [e'] at q; exact q
          · rw [beq_false_of_ne e'] at q; exact q
    have h48 : gr_S W (i + 1) → wX_countPositions_48 post (wX_countPositions_6 post xk xn xc xF xS xP xt xl xp1 xp2 xp3 xN xV xfo xsl xeb xss xws xuf xul xus xbf xbl xbs (d + 1)) (nI (gr_ct W (i + 1))) (xb_f (gr_ic W (i + 1))) (nI i) (nI (W (i + 1))) xk xn xc xF xS xP xt xl xp1 xp2 xp3 xN xV xfo xsl xeb xss xws xuf xul xus xbf xbl xbs := by
      intro q
      unfold wX_countPositions_48
      exact nm_e (h51 _ (by rw [nI_1, xs_ctS q]))
    refine pk_eq (W (i + 1)) 46 (fun e => h48 (Or.inl e)) (fun e46 => pk_eq (W (i + 1)) 91 (fun e => h48 (Or.inr (Or.inl e))) (fun e91 => ?_))
    refine xw_isL hcl (fun hL => br_f (by decide) ?_) (fun hL => br_t rfl (h51 _ (by rw [xs_ctN (i := i + 1) (by rintro (q | q | ⟨q, _⟩) <;> omega)])))
    cases hi : gr_ic W (i + 1) with
    | false =>
      have q := h48 (Or.inr (Or.inr ⟨hL, hi⟩))
      rw [hi] at q
      exact br_t rfl q
    | true =>
      have q := h51 (nI (gr_ct W (i + 1))) (by rw [xs_ctN (i := i + 1) (by rintro (q | q | ⟨_, q⟩); omega; omega; (rw [hi] at q; exact Bool.noConfusion q))])
      rw [hi] at q
      exact br_f (by decide) q
theorem xv_count {post : Int32 → Prop} {V : Nat → Nat} {n : Nat} (hn : n ≤ 64) (hW : W = vd_W V n) (hal : ∀ i, i < n → vd_al (V i)) (hxn : xn = nI n) (hxV : xV = fun i => nI (V i)) (h : post (nI (gr_ct W (n + 1)))) :
    wpX_countPositions post (xk, xn, xc, xF, xS, xP, xt, xl, xp1, xp2, xp3, xN, xV, xfo, xsl, xeb, xss, xws, xuf, xul, xus, xbf, xbl, xbs) := by
  have w0 : W 0 = 40 := by rw [hW]; rfl
  unfold wpX_countPositions
  dsimp only
  refine ⟨n + 1, ?_⟩
  have q := xv_cloop (xk := xk) (xc := xc) (xF := xF) (xS := xS) (xP := xP) (xt := xt) (xl := xl) (xp1 := xp1) (xp2 := xp2) (xp3 := xp3) (xN := xN) (xfo := xfo) (xsl := xsl) (xeb := xeb) (xss := xss) (xws := xws) (xuf := xuf) (xul := xul) (xus := xus) (xbf := xbf) (xbl := xbl) (xbs := xbs) hn hW hal hxn hxV h n 0 (by omega)
  have e1 : gr_ct W (0 + 1) = 0 := by rw [xs_ctN (gs_nS (by omega))]; rfl
  have e2 : gr_ic W (0 + 1) = false := by rw [gr_ic1]; simp [w0, gr_ic]
  rw [e1, e2] at q
  exact q
end
end
section
/-! The component's methods over the text. -/
section
variable {xk xn xc xS xP xt xl xp3 : Int32} {xF xp1 xp2 xN : Int64} {xV xeb xus xbs : Nat → Int32} {xfo xsl xss xws xuf xul xbf xbl : Nat → Int64}
theorem xt_fo {post : Int64 → Prop} {p : Int64} (h : post (xr_fo xfo p 64)) : wpX_followersOf post (xk, xn, xc, xF, xS, xP, xt, xl, xp1, xp2, xp3, xN, xV, xfo, xsl, xeb, xss, xws, xuf, xul, xus, xbf, xbl, xbs) p := by
  unfold wpX_followersOf
  dsimp only
  refine pk_loop (fun n i (f : Int64) => wX_followersOf_5 post p xk xn xc xF xS xP xt xl xp1 xp2 xp3 xN xV xfo xsl xeb xss xws xuf xul xus xbf xbl xbs n f (nI i)) (fun i f => f = xr_fo xfo p i) 64 0 0 (by omega) rfl ?_ ?_
  · intro n f hf
    rw [wX_followersOf_5]
    exact br_t (nI_le (a := 64) (b := 64) (by omega) (by omega)) (by subst hf; exact h)
  · intro n i f hi hf hn
    rw [wX_followersOf_5]
    refine br_f (nI_ge (a := i) (b := 64) hi (by omega)) ?_
    have hb : ((((p.toUInt64 >>> ((nI i).toInt64.toUInt64 &&& Int64.toUInt64 63)).toInt64) &&& 1) = 0) ↔ bs_b p i = false := by
      rw [wb_cu i hi]
      exact ts_bit hi (by rw [UInt64.toNat_ofNat', Nat.mod_eq_of_lt (by omega)])
    by_cases c : bs_b p i = false
    · refine br_t (hb.mpr c) (nm_r (nI_1 i) (hn _ ?_))
      subst hf
      show xr_fo xfo p i = if bs_b p i = true then xr_fo xfo p i ||| xfo i else xr_fo xfo p i
      rw [c]; rfl
    · have c' : bs_b p i = true := ts_nf c
      refine br_f (fun z => c (hb.mp z)) ⟨vp_in_nI hi (by omega), nm_e (nm_r (nI_1 i) (hn _ ?_))⟩
      rw [nI_clamp (by omega)]
      subst hf
      show xr_fo xfo p i ||| xfo i = if bs_b p i = true then xr_fo xfo p i ||| xfo i else xr_fo xfo p i
      rw [if_pos c']
/-- v is the least number of errors at which the sets S meet F -/
def xt_L (K : Nat) (S : Nat → Int64) (F : Int64) (v : Nat) : Prop := v ≤ K + 1 ∧ (∀ d, d < v → d ≤ K → (S d &&& F) = 0) ∧ (v ≤ K → ¬ (S v &&& F) = 0)
theorem xt_Lx (K : Nat) (S : Nat → Int64) (F : Int64) : ∃ v, xt_L K S F v := by
  obtain ⟨v, h1, h2⟩ := bf_least (fun d => d = K + 1 ∨ (d ≤ K ∧ ¬ (S d &&& F) = 0)) ⟨K + 1, Or.inl rfl⟩
  refine ⟨v, by omega, fun d hd hK => ?_, fun hK => ?_⟩
  · by_cases c : S d &&& F = 0
    · exact c
    · exact absurd (Or.inr ⟨hK, c⟩) (h2 d hd)
  · rcases h1 with h1 | h1
    · omega
    · exact h1.2
theorem xt_Lu {m K v : Nat} {Rp : Nat → Nat → Prop} {S : Nat → Int64} {F : Int64} {c : Nat → Nat} (h : xt_L K S F v) (hC : sm_C m K Rp (xr_XS S) c) (hf : ∀ p, p < 64 → (bs_b F p = true ↔ Rp p m)) : c m = v := by
  obtain ⟨h1, h2, h3⟩ := h
  have hc := (hC m (Nat.le_refl _)).1
  rcases Nat.lt_trichotomy (c m) v with q | q | q
  · exact absurd (h2 (c m) q (by omega)) ((xr_least hC hf (by omega)).mpr (Nat.le_refl _))
  · exact q
  · have := (xr_least hC hf (show v ≤ K by omega)).mp (h3 (by omega)); omega
theorem xt_Lc {K v : Nat} {S S' : Nat → Int64} {F : Int64} (h : xt_L K S F v) (e : ∀ d, d ≤ K → S' d = S d) : xt_L K S' F v :=
  ⟨h.1, fun d h1 h2 => by rw [e d h2]; exact h.2.1 d h1 h2, fun q => by rw [e v q]; exact h.2.2 q⟩
theorem xt_leastS {post : Int32 → Prop} {K v : Nat} (hK : K ≤ 7) (hl : xt_L K xss xF v) (h : post (nI v)) : wpX_leastErrors post (nI K, xn, xc, xF, xS, xP, xt, xl, xp1, xp2, xp3, xN, xV, xfo, xsl, xeb, xss, xws, xuf, xul, xus, xbf, xbl, xbs) := by
  unfold wpX_leastErrors
  dsimp only
  obtain ⟨hv, hl1, hl2⟩ := hl
  refine pk_loop (fun n i (_ : Unit) => wX_leastErrors_2 post (nI K) xn xc xF xS xP xt xl xp1 xp2 xp3 xN xV xfo xsl xeb xss xws xuf xul xus xbf xbl xbs n (nI i)) (fun i _ => i ≤ v) v 0 () (Nat.zero_le _) (Nat.zero_le _) ?_ ?_
  · intro n _ _
    rw [wX_leastErrors_2]
    refine pk_lt K v (fun q => ?_) (fun q => ?_)
    · have : v = K + 1 := by omega
      subst this
      rw [nI_1]; exact h
    · rw [nI_clamp (by omega)]
      exact ⟨vp_in_nI (by omega) (by omega), br_f (hl2 q) h⟩
  · intro n i _ hi _ hn
    rw [wX_leastErrors_2]
    refine pk_lt K i (fun q => by omega) (fun q => ?_)
    rw [nI_clamp (by omega)]
    refine ⟨vp_in_nI (by omega) (by omega), br_t (hl1 i hi q) (nm_r (nI_1 i) (hn () (by omega)))⟩
theorem xt_leastW {post : Int32 → Prop} {K v : Nat} (hK : K ≤ 7) (hl : xt_L K xws xF v) (h : post (nI v)) : wpX_leastErrors_2 post (nI K, xn, xc, xF, xS, xP, xt, xl, xp1, xp2, xp3, xN, xV, xfo, xsl, xeb, xss, xws, xuf, xul, xus, xbf, xbl, xbs) := by
  unfold wpX_leastErrors_2
  dsimp only
  obtain ⟨hv, hl1, hl2⟩ := hl
  refine pk_loop (fun n i (_ : Unit) => wX_leastErrors_2_2 post (nI K) xn xc xF xS xP xt xl xp1 xp2 xp3 xN xV xfo xsl xeb xss xws xuf xul xus xbf xbl xbs n (nI i)) (fun i _ => i ≤ v) v 0 () (Nat.zero_le _) (Nat.zero_le _) ?_ ?_
  · intro n _ _
    rw [wX_leastErrors_2_2]
    refine pk_lt K v (fun q => ?_) (fun q => ?_)
    · have : v = K + 1 := by omega
      subst this
      rw [nI_1]; exact h
    · rw [nI_clamp (by omega)]
      exact ⟨vp_in_nI (by omega) (by omega), br_f (hl2 q) h⟩
  · intro n i _ hi _ hn
    rw [wX_leastErrors_2_2]
    refine pk_lt K i (fun q => by omega) (fun q => ?_)
    rw [nI_clamp (by omega)]
    refine ⟨vp_in_nI (by omega) (by omega), br_t (hl1 i hi q) (nm_r (nI_1 i) (hn () (by omega)))⟩
/-- the sets of before, and behind them what the component has reckoned, up to d -/
def xt_mix (K : Nat) (g f : Nat → Int64) : Nat → Int64 := fun s => if s < K then g s else f s
theorem xt_mixS {g f : Nat → Int64} {i : Nat} : vp_updL (xt_mix i g f) i (g i) = xt_mix (i + 1) g f := by
  funext s
  unfold xt_mix vp_updL
  by_cases e : s = i
  · subst e; simp
  · have : s < i + 1 ↔ s < i := by omega
    simp only [if_neg e, this]
theorem xt_mix0 {g f : Nat → Int64} : f = xt_mix 0 g f := by funext s; simp [xt_mix]
theorem xt_start {post : St2 → Prop} {K v : Nat} (hK : K ≤ 7) (hl : xt_L K (xr_rc xfo) xF v)
    (h : post (nI K, xn, xc, xF, xS, xP, 0, xl, xp1, xp2, xp3, xN, xV, xfo, xsl, upd xeb 0 (nI v), xt_mix (K + 1) (xr_rc xfo) xss, xt_mix (K + 1) (xr_rc xfo) xws, xuf, xul, xus, xbf, xbl, xbs)) : wpX_startText post (nI K, xn, xc, xF, xS, xP, xt, xl, xp1, xp2, xp3, xN, xV, xfo, xsl, xeb, xss, xws, xuf, xul, xus, xbf, xbl, xbs) := by
  unfold wpX_startText
  dsimp only
  refine pk_loop (fun n i (s : Int64 × (Nat → Int64) × (Nat → Int64)) => wX_startText_9 post (nI K) xn xc xF xS xP 0 xl xp1 xp2 xp3 xN n s.1 (nI i) xV xfo xsl xeb s.2.1 s.2.2 xuf xul xus xbf xbl xbs)
    (fun i s => s = (xr_rc xfo i, xt_mix i (xr_rc xfo) xss, xt_mix i (xr_rc xfo) xws)) (K + 1) 0 (1, xss, xws) (by omega) (by rw [← xt_mix0, ← xt_mix0]; rfl) ?_ ?_
  · intro n s hs
    subst hs
    dsimp only
    rw [wX_startText_9]
    refine br_t (nI_lt (by omega) (by omega)) ?_
    refine xt_leastS hK (xt_Lc hl (fun d hd => if_pos (by omega))) ?_
    exact nm_e h
  · intro n i s hi hs hn
    subst hs
    dsimp only
    rw [wX_startText_9]
    refine br_f (nI_nlt (by omega) (by omega)) ?_
    rw [nI_clamp (by omega)]
    refine ⟨vp_in_nI (by omega) (by omega), nm_r xt_mixS ⟨vp_in_nI (by omega) (by omega), nm_r xt_mixS ?_⟩⟩
    refine xt_fo (nm_e (nm_r (nI_1 i) ?_))
    exact hn (_, _, _) rfl
def xt_pS (S : Nat → Int64) : Nat → Int64
  | 0 => 0
  | d + 1 => S d
theorem xt_rl (f S : Nat → Int64) (M en : Int64) (d : Nat) : xr_rl f S M en d = ((en ||| xt_pS S d) ||| (xr_fo f (S d) 64 &&& M)) ||| xr_fo f (xt_pS S d ||| xt_pS (xr_rl f S M en) d) 64 := by
  cases d with
  | zero => rfl
  | succ d => rfl
theorem xt_readS {post : St2 → Prop} {K : Nat} {M en : Int64} (hK : K ≤ 7) (h : post (nI K, xn, xc, xF, xS, xP, xt, xl, xp1, xp2, xp3, xN, xV, xfo, xsl, xeb, xt_mix (K + 1) (xr_rl xfo xss M en) xss, xws, xuf, xul, xus, xbf, xbl, xbs)) : wpX_readLetter post (nI K, xn, xc, xF, xS, xP, xt, xl, xp1, xp2, xp3, xN, xV, xfo, xsl, xeb, xss, xws, xuf, xul, xus, xbf, xbl, xbs) M en := by
  unfold wpX_readLetter
  dsimp only
  refine pk_loop (fun n i (s : Int64 × Int64 × (Nat → Int64)) => wX_readLetter_9 post M en (nI K) xn xc xF xS xP xt xl xp1 xp2 xp3 xN n s.1 s.2.1 (nI i) xV xfo xsl xeb s.2.2 xws xuf xul xus xbf xbl xbs)
    (fun i s => s = (xt_pS xss i, xt_pS (xr_rl xfo xss M en) i, xt_mix i (xr_rl xfo xss M en) xss)) (K + 1) 0 (0, 0, xss) (by omega) (by rw [← xt_mix0]; rfl) ?_ ?_
  · intro n s hs
    subst hs
    dsimp only
    rw [wX_readLetter_9]
    exact br_t (nI_lt (by omega) (by omega)) h
  · intro n i s hi hs hn
    subst hs
    dsimp only
    rw [wX_readLetter_9]
    refine br_f (nI_nlt (by omega) (by omega)) ?_
    rw [nI_clamp (by omega)]
    have e : xt_mix i (xr_rl xfo xss M en) xss i = xss i := if_neg (by omega)
    refine ⟨vp_in_nI (by omega) (by omega), nm_r e (nm_e (xt_fo (nm_e (xt_fo (nm_r (xt_rl xfo xss M en i).symm ⟨vp_in_nI (by omega) (by omega), nm_r xt_mixS (nm_r (nI_1 i) ?_)⟩)))))⟩
    exact hn (_, _, _) rfl
theorem xt_readW {post : St2 → Prop} {K : Nat} {M en : Int64} (hK : K ≤ 7) (h : post (nI K, xn, xc, xF, xS, xP, xt, xl, xp1, xp2, xp3, xN, xV, xfo, xsl, xeb, xss, xt_mix (K + 1) (xr_rl xfo xws M en) xws, xuf, xul, xus, xbf, xbl, xbs)) : wpX_readLetter_2 post (nI K, xn, xc, xF, xS, xP, xt, xl, xp1, xp2, xp3, xN, xV, xfo, xsl, xeb, xss, xws, xuf, xul, xus, xbf, xbl, xbs) M en := by
  unfold wpX_readLetter_2
  dsimp only
  refine pk_loop (fun n i (s : Int64 × Int64 × (Nat → Int64)) => wX_readLetter_2_9 post M en (nI K) xn xc xF xS xP xt xl xp1 xp2 xp3 xN n s.1 s.2.1 (nI i) xV xfo xsl xeb xss s.2.2 xuf xul xus xbf xbl xbs)
    (fun i s => s = (xt_pS xws i, xt_pS (xr_rl xfo xws M en) i, xt_mix i (xr_rl xfo xws M en) xws)) (K + 1) 0 (0, 0, xws) (by omega) (by rw [← xt_mix0]; rfl) ?_ ?_
  · intro n s hs
    subst hs
    dsimp only
    rw [wX_readLetter_2_9]
    exact br_t (nI_lt (by omega) (by omega)) h
  · intro n i s hi hs hn
    subst hs
    dsimp only
    rw [wX_readLetter_2_9]
    refine br_f (nI_nlt (by omega) (by omega)) ?_
    rw [nI_clamp (by omega)]
    have e : xt_mix i (xr_rl xfo xws M en) xws i = xws i := if_neg (by omega)
    refine ⟨vp_in_nI (by omega) (by omega), nm_r e (nm_e (xt_fo (nm_e (xt_fo (nm_r (xt_rl xfo xws M en i).symm ⟨vp_in_nI (by omega) (by omega), nm_r xt_mixS (nm_r (nI_1 i) ?_)⟩)))))⟩
    exact hn (_, _, _) rfl
end
end
section
/-! A pattern of P atoms in a row: letters, dots, classes. -/
/-- the characters a .. b-1 are one atom, which takes the letters of M in -/
def ln_A (W : Nat → Nat) (a b : Nat) (M : Nat → Prop) : Prop :=
  (b = a + 1 ∧ gr_L (W a) ∧ ∀ l, l < 5 → (M l ↔ W a = 97 + l)) ∨
  (b = a + 1 ∧ W a = 46 ∧ ∀ l, l < 5 → M l) ∨
  (W a = 91 ∧ a + 2 < b ∧ W (b - 1) = 93 ∧ (∀ x, a < x → x < b - 1 → gr_L (W x)) ∧ ∀ l, l < 5 → (M l ↔ ∃ x, a < x ∧ x < b - 1 ∧ W x = 97 + l))
def ln_P (W : Nat → Nat) (n P : Nat) (st : Nat → Nat) (Mt : Nat → Nat → Prop) : Prop :=
  st 0 = 1 ∧ st P = n + 1 ∧ ∀ i, i < P → ln_A W (st i) (st (i + 1)) (Mt i)
section
variable {W : Nat → Nat}
theorem ln_lt {a b : Nat} {M : Nat → Prop} (h : ln_A W a b M) : a < b := by
  rcases h with ⟨h, -, -⟩ | ⟨h, -, -⟩ | ⟨-, h, -, -, -⟩ <;> omega
/-- what the scan knows before an atom and behind it -/
def ln_S (W : Nat → Nat) (y i : Nat) : Prop := gr_ic W y = false ∧ gr_dp W y = 1 ∧ gr_ct W y = i ∧ vd_p W y
theorem ln_scan {a b i : Nat} {M : Nat → Prop} (h : ln_A W a b M) (ha : 1 ≤ a) (hS : ln_S W a i) : ln_S W b (i + 1) ∧ gr_S W a ∧ (W (b - 1) ≠ 40 ∧ W (b - 1) ≠ 124) ∧ (W a = 91 ∨ b = a + 1) ∧
    ∀ x, a < x → x < b → gr_ic W x = true ∧ gr_cs W x = a ∧ (gr_L (W x) ∨ (W x = 93 ∧ x = b - 1)) := by
  obtain ⟨s1, s2, s3, s4⟩ := hS
  have one : b = a + 1 → (gr_L (W a) ∨ W a = 46) → ln_S W b (i + 1) ∧ gr_S W a ∧ (W (b - 1) ≠ 40 ∧ W (b - 1) ≠ 124) ∧ (W a = 91 ∨ b = a + 1) ∧ ∀ x, a < x → x < b → gr_ic W x = true ∧ gr_cs W x = a ∧ (gr_L (W x) ∨ (W x = 93 ∧ x = b - 1)) := by
    intro e hh
    subst e
    have hg : gr_S W a := by
      rcases hh with hh | hh
      · exact Or.inr (Or.inr ⟨hh, s1⟩)
      · exact Or.inl hh
    have hd : gr_dp W (a + 1) = 1 := by rw [xs_dpn (by omega) (by omega)]; exact s2
    refine ⟨⟨xs_icL s1 (by omega), hd, by rw [xs_ctS hg, s3], vd_p1 s4 ⟨by omega, fun q => by rw [s1] at q; exact Bool.noConfusion q, fun _ => Or.inl (by omega)⟩⟩, hg, ?_, Or.inr rfl, fun x h1 h2 => by omega⟩
    rw [Nat.add_sub_cancel]; omega
  rcases h with ⟨e, h, -⟩ | ⟨e, h, -⟩ | ⟨h1, h2, h3, h4, -⟩
  · exact one e (Or.inl h)
  · exact one e (Or.inr h)
  · have hg : gr_S W a := Or.inr (Or.inl h1)
    have L : ∀ d, a + 1 + d < b → gr_ic W (a + 1 + d) = true ∧ gr_cs W (a + 1 + d) = a ∧ gr_dp W (a + 1 + d) = 1 ∧ gr_ct W (a + 1 + d) = i + 1 ∧ vd_p W (a + 1 + d) := by
      intro d
      induction d with
      | zero =>
        intro _
        have hd : gr_dp W (a + 1) = 1 := by rw [xs_dpn (by omega) (by omega)]; exact s2
        refine ⟨?_, ?_, hd, ?_, ?_⟩
        · show gr_ic W (a + 1) = true
          rw [gr_ic1]; simp [h1]
        · show gr_cs W (a + 1) = a
          rw [gr_cs1, if_pos h1]
        · show gr_ct W (a + 1) = i + 1
          rw [xs_ctS hg, s3]
        · exact vd_p1 s4 ⟨by omega, fun q => by rw [s1] at q; exact Bool.noConfusion q, fun _ => Or.inl (Or.inr (Or.inr h1))⟩
      | succ d ih =>
        intro hd
        obtain ⟨i1, i2, i3, i4, i5⟩ := ih (by omega)
        have hL := h4 (a + 1 + d) (by omega) (by omega)
        have hdp : gr_dp W (a + 1 + d + 1) = 1 := by rw [xs_dpn (by omega) (by omega)]; exact i3
        have e : a + 1 + (d + 1) = a + 1 + d + 1 := by omega
        rw [e]
        refine ⟨?_, ?_, hdp, ?_, vd_p1 i5 ⟨by omega, fun _ => Or.inl hL, fun q => by rw [i1] at q; exact Bool.noConfusion q⟩⟩
        · rw [gr_ic1, i1, beq_false_of_ne (a := W (a + 1 + d)) (b := 93) (by omega)]; simp
        · rw [gr_cs1, if_neg (by omega)]; exact i2
        · rw [xs_ctN]
          · exact i4
          · rintro (q | q | ⟨-, q⟩)
            · omega
            · omega
            · rw [i1] at q; exact Bool.noConfusion q
    obtain ⟨i1, i2, i3, i4, i5⟩ := L (b - 2 - a) (by omega)
    have e : a + 1 + (b - 2 - a) = b - 1 := by omega
    rw [e] at i1 i2 i3 i4 i5
    have hb : b = b - 1 + 1 := by omega
    have hprev := h4 (b - 1 - 1) (by omega) (by omega)
    refine ⟨?_, hg, ⟨by omega, by omega⟩, Or.inl h1, ?_⟩
    · rw [hb]
      have hdp : gr_dp W (b - 1 + 1) = 1 := by rw [xs_dpn (by omega) (by omega)]; exact i3
      refine ⟨?_, hdp, ?_, vd_p1 i5 ⟨by omega, fun _ => Or.inr ⟨h3, by omega⟩, fun q => by rw [i1] at q; exact Bool.noConfusion q⟩⟩
      · rw [gr_ic1, i1]; simp [h3]
      · rw [xs_ctN (gs_nS (by omega))]; exact i4
    · intro x x1 x2
      have q := L (x - (a + 1)) (by omega)
      rw [show a + 1 + (x - (a + 1)) = x from by omega] at q
      refine ⟨q.1, q.2.1, ?_⟩
      by_cases c : x = b - 1
      · right; exact ⟨by rw [c]; exact h3, c⟩
      · left; exact h4 x x1 (by omega)
/-- all that the search needs of such a pattern -/
theorem ln_all {n P : Nat} {st : Nat → Nat} {Mt : Nat → Nat → Prop} (h0 : W 0 = 40) (h : ln_P W n P st Mt) :
    ∀ i, i ≤ P → ln_S W (st i) i ∧ 1 ≤ st i ∧ ∀ x, 1 ≤ x → x < st i → ∃ j, j < i ∧ st j ≤ x ∧ x < st (j + 1) := by
  obtain ⟨h1, h2, h3⟩ := h
  intro i
  induction i with
  | zero =>
    intro _
    rw [h1]
    refine ⟨⟨?_, ?_, ?_, fun x q1 q2 => by omega⟩, Nat.le_refl _, fun x q1 q2 => by omega⟩
    · rw [gr_ic1]; simp [h0, gr_ic]
    · rw [gr_dp1, if_pos h0]; rfl
    · rw [xs_ctN (gs_nS (by omega))]; rfl
  | succ i ih =>
    intro hi
    obtain ⟨i1, i2, i3⟩ := ih (by omega)
    have hA := h3 i (by omega)
    have hlt := ln_lt hA
    refine ⟨(ln_scan hA i2 i1).1, by omega, fun x q1 q2 => ?_⟩
    by_cases c : x < st i
    · obtain ⟨j, j1, j2, j3⟩ := i3 x q1 c
      exact ⟨j, by omega, j2, j3⟩
    · exact ⟨i, by omega, by omega, q2⟩
theorem ln_mono {n P : Nat} {st : Nat → Nat} {Mt : Nat → Nat → Prop} (h : ln_P W n P st Mt) : ∀ d i, i + d ≤ P → st i + d ≤ st (i + d) := by
  intro d
  induction d with
  | zero => intro i _; exact Nat.le_refl _
  | succ d ih =>
    intro i hi
    have := ih i (by omega)
    have := ln_lt (h.2.2 (i + d) (by omega))
    rw [show i + (d + 1) = i + d + 1 from by omega]
    omega
theorem ln_inj {n P : Nat} {st : Nat → Nat} {Mt : Nat → Nat → Prop} (h : ln_P W n P st Mt) {i j : Nat} (hi : i ≤ P) (hj : j ≤ P) (e : st i = st j) : i = j := by
  rcases Nat.lt_trichotomy i j with q | q | q
  · have := ln_mono h (j - i) i (by omega)
    rw [show i + (j - i) = j from by omega] at this; omega
  · exact q
  · have := ln_mono h (i - j) j (by omega)
    rw [show j + (i - j) = i from by omega] at this; omega
theorem ln_V {n P : Nat} {st : Nat → Nat} {Mt : Nat → Nat → Prop} (h0 : W 0 = 40) (hP : 0 < P) (h : ln_P W n P st Mt) : vd_V W n ∧ gr_ct W (n + 1) = P := by
  obtain ⟨⟨s1, s2, s3, s4⟩, -, -⟩ := ln_all h0 h P (Nat.le_refl _)
  obtain ⟨p1, p2, -⟩ := ln_all h0 h (P - 1) (by omega)
  have q := (ln_scan (h.2.2 (P - 1) (by omega)) p2 p1).2.2.1
  rw [show P - 1 + 1 = P from by omega, h.2.1, Nat.add_sub_cancel] at q
  rw [h.2.1] at s1 s2 s3 s4
  exact ⟨⟨s4, s2, s1, q.1, q.2⟩, s3⟩
theorem ln_src {n P : Nat} {st : Nat → Nat} {Mt : Nat → Nat → Prop} (h0 : W 0 = 40) (hm : W (n + 1) = 41) (h : ln_P W n P st Mt) {s : Nat} (hs : s < n + 2) (hS : gr_S W s) : ∃ i, i < P ∧ s = st i := by
  have hs1 : 1 ≤ s := by
    by_cases c : s = 0
    · subst c; exact absurd hS (gs_nS (by omega))
    · omega
  have hs2 : s < n + 1 := by
    by_cases c : s = n + 1
    · subst c; exact absurd hS (gs_nS (by omega))
    · omega
  obtain ⟨-, -, k⟩ := ln_all h0 h P (Nat.le_refl _)
  rw [h.2.1] at k
  obtain ⟨j, j1, j2, j3⟩ := k s hs1 hs2
  refine ⟨j, j1, ?_⟩
  by_cases c : s = st j
  · exact c
  · exfalso
    obtain ⟨p1, p2, -⟩ := ln_all h0 h j (by omega)
    obtain ⟨-, -, -, -, q⟩ := ln_scan (h.2.2 j j1) p2 p1
    obtain ⟨r1, r2, r3⟩ := q s (by omega) j3
    rcases hS with z | z | ⟨-, z⟩
    · omega
    · omega
    · rw [r1] at z; exact Bool.noConfusion z
theorem ln_tg {n P : Nat} {st : Nat → Nat} {Mt : Nat → Nat → Prop} (h0 : W 0 = 40) (h : ln_P W n P st Mt) {i : Nat} (hi : i < P) : gr_tg W (n + 2) (st i) = st (i + 1) := by
  obtain ⟨p1, p2, -⟩ := ln_all h0 h i (by omega)
  have hA := h.2.2 i hi
  obtain ⟨-, -, -, -, q⟩ := ln_scan hA p2 p1
  have hle := ln_mono h (P - (i + 1)) (i + 1) (by omega)
  rw [show i + 1 + (P - (i + 1)) = P from by omega, h.2.1] at hle
  rcases hA with ⟨e, g, -⟩ | ⟨e, g, -⟩ | ⟨g1, g2, g3, g4, -⟩
  · rw [gr_tg1 (by omega), e]
  · rw [gr_tg1 (by omega), e]
  · rw [gr_tg2 g1 (e := st (i + 1) - 1) (by omega) (by omega) g3 (fun j j1 j2 => by have := g4 j j1 j2; omega)]
    omega
/-- edges without a letter: into the pattern and out of it -/
theorem ln_eps {n P : Nat} {st : Nat → Nat} {Mt : Nat → Nat → Prop} (h0 : W 0 = 40) (hm : W (n + 1) = 41) (h : ln_P W n P st Mt) {x y z : Nat} (hx : x < n + 2) (hE : gr_E W x y z 0) : (y = 0 ∧ z = 1) ∨ (y = n + 1 ∧ z = n + 2) := by
  by_cases c0 : x = 0
  · subst c0
    obtain ⟨rfl, rfl, -⟩ := (gs_E40 h0).mp hE
    exact Or.inl ⟨rfl, rfl⟩
  · have cls : ∀ x, 1 ≤ x → x < n + 1 → gr_L (W x) ∨ W x = 46 ∨ W x = 91 ∨ W x = 93 := by
      intro x x1 x2
      obtain ⟨-, -, k⟩ := ln_all h0 h P (Nat.le_refl _)
      rw [h.2.1] at k
      obtain ⟨j, j1, j2, j3⟩ := k x x1 x2
      obtain ⟨p1, p2, -⟩ := ln_all h0 h j (by omega)
      obtain ⟨-, q0, -, -, q⟩ := ln_scan (h.2.2 j j1) p2 p1
      by_cases c : x = st j
      · subst c
        rcases q0 with z | z | ⟨z, -⟩
        · exact Or.inr (Or.inl z)
        · exact Or.inr (Or.inr (Or.inl z))
        · exact Or.inl z
      · rcases (q x (by omega) j3).2.2 with z | ⟨z, -⟩
        · exact Or.inl z
        · exact Or.inr (Or.inr (Or.inr z))
    by_cases c1 : x = n + 1
    · subst c1
      rcases (gs_E41 hm).mp hE with ⟨-, ⟨q1, -, -, q4, -⟩ | ⟨rfl, rfl⟩⟩
      · exfalso
        by_cases c : y = 0
        · subst c; omega
        · have := cls y (by omega) (by omega); omega
      · exact Or.inr ⟨rfl, rfl⟩
    · have := cls x (by omega) (by omega)
      exfalso
      rcases hE with ⟨-, -, -, q⟩ | ⟨-, -, -, q⟩ | ⟨q, -⟩ | ⟨q, -⟩ | ⟨q, -⟩ | ⟨q, -⟩ <;> omega
theorem ln_reach {n P : Nat} {st : Nat → Nat} {Mt : Nat → Nat → Prop} (h0 : W 0 = 40) (hm : W (n + 1) = 41) (hn : 0 < n) (h : ln_P W n P st Mt) {u v : Nat} (hp : fg_P (gr_E W) 0 (n + 2) u v 0) : v = u ∨ (u = 0 ∧ v = 1) ∨ (u = n + 1 ∧ v = n + 2) := by
  have q : 0 = 0 → v = u ∨ (u = 0 ∧ v = 1) ∨ (u = n + 1 ∧ v = n + 2) := by
    refine hp (fun v k => k = 0 → v = u ∨ (u = 0 ∧ v = 1) ∨ (u = n + 1 ∧ v = n + 2)) (fun _ => Or.inl rfl) ?_
    intro x y z c j _ h2 h3 hS hk
    have hc : c = 0 := by omega
    subst hc
    have hS := hS (by omega)
    have he := ln_eps h0 hm h h2 h3
    omega
  exact q rfl
theorem ln_FO {n P : Nat} {st : Nat → Nat} {Mt : Nat → Nat → Prop} (h0 : W 0 = 40) (hm : W (n + 1) = 41) (hn : 0 < n) (h : ln_P W n P st Mt) (p q : Nat) :
    (∃ t g, sm_S W (n + 2) q t g ∧ sm_R W (n + 2) p t) ↔ q = p + 1 ∧ q ≤ P := by
  have ctst : ∀ i, i ≤ P → gr_ct W (st i) = i := fun i hi => (ln_all h0 h i hi).1.2.2.1
  have stlt : ∀ i, i ≤ P → st i ≤ n + 1 := by
    intro i hi
    have := ln_mono h (P - i) i (by omega)
    rw [show i + (P - i) = P from by omega, h.2.1] at this; omega
  constructor
  · rintro ⟨t, g, ⟨g1, g2, g3, -⟩, hR⟩
    obtain ⟨j, j1, rfl⟩ := ln_src h0 hm h g2 g1
    rw [ctst j (by omega)] at g3
    rcases hR with ⟨rfl, hp⟩ | ⟨s, k1, k2, k3, k4⟩
    · have := ln_reach h0 hm hn h hp
      have hj1 := (ln_all h0 h j (by omega)).2.1
      have e : st j = st 0 := by rw [h.1]; omega
      have := ln_inj h (by omega) (by omega) e
      omega
    · obtain ⟨i, i1, rfl⟩ := ln_src h0 hm h k2 k1
      rw [ctst i (by omega)] at k3
      rw [ln_tg h0 h i1] at k4
      have := ln_reach h0 hm hn h k4
      have a1 := (ln_all h0 h (i + 1) (by omega)).2.1
      have a2 := stlt (i + 1) (by omega)
      have e : st j = st (i + 1) := by omega
      have := ln_inj h (by omega) (by omega) e
      omega
  · rintro ⟨rfl, hq⟩
    have hS : gr_S W (st p) := (ln_scan (h.2.2 p (by omega)) (ln_all h0 h p (by omega)).2.1 (ln_all h0 h p (by omega)).1).2.1
    have hlt := ln_lt (h.2.2 p (by omega))
    have := stlt (p + 1) hq
    refine ⟨st p, _, ⟨hS, by omega, by rw [ctst p (by omega)], rfl⟩, ?_⟩
    by_cases c : p = 0
    · subst c
      refine Or.inl ⟨rfl, ?_⟩
      rw [h.1]
      exact fg_P1 (x := 0) (by omega) (by omega) ((gs_E40 h0).mpr ⟨rfl, rfl, rfl⟩)
    · obtain ⟨i, rfl⟩ : ∃ i, p = i + 1 := ⟨p - 1, by omega⟩
      have hS' : gr_S W (st i) := (ln_scan (h.2.2 i (by omega)) (ln_all h0 h i (by omega)).2.1 (ln_all h0 h i (by omega)).1).2.1
      have := ln_lt (h.2.2 i (by omega))
      refine Or.inr ⟨st i, hS', by omega, by rw [ctst i (by omega)], ?_⟩
      rw [ln_tg h0 h (by omega)]
      exact fg_P0
theorem ln_fin {n P : Nat} {st : Nat → Nat} {Mt : Nat → Nat → Prop} (h0 : W 0 = 40) (hm : W (n + 1) = 41) (hn : 0 < n) (hP : 0 < P) (h : ln_P W n P st Mt) (p : Nat) : sm_R W (n + 2) p (n + 2) ↔ p = P := by
  have ctst : ∀ i, i ≤ P → gr_ct W (st i) = i := fun i hi => (ln_all h0 h i hi).1.2.2.1
  have stlt : ∀ i, i ≤ P → st i ≤ n + 1 := by
    intro i hi
    have := ln_mono h (P - i) i (by omega)
    rw [show i + (P - i) = P from by omega, h.2.1] at this; omega
  constructor
  · rintro (⟨rfl, hp⟩ | ⟨s, k1, k2, k3, k4⟩)
    · have := ln_reach h0 hm hn h hp; omega
    · obtain ⟨i, i1, rfl⟩ := ln_src h0 hm h k2 k1
      rw [ctst i (by omega)] at k3
      rw [ln_tg h0 h i1] at k4
      have := ln_reach h0 hm hn h k4
      have a2 := stlt (i + 1) (by omega)
      have e : st (i + 1) = st P := by rw [h.2.1]; omega
      have := ln_inj h (by omega) (by omega) e
      omega
  · rintro rfl
    obtain ⟨i, rfl⟩ : ∃ i, p = i + 1 := ⟨p - 1, by omega⟩
    have hS' : gr_S W (st i) := (ln_scan (h.2.2 i (by omega)) (ln_all h0 h i (by omega)).2.1 (ln_all h0 h i (by omega)).1).2.1
    have := ln_lt (h.2.2 i (by omega))
    have := stlt (i + 1) (by omega)
    refine Or.inr ⟨st i, hS', by omega, by rw [ctst i (by omega)], ?_⟩
    rw [ln_tg h0 h (by omega), h.2.1]
    exact fg_P1 (x := n + 1) (by omega) (by omega) ((gs_E41 hm).mpr ⟨rfl, Or.inr ⟨rfl, rfl⟩⟩)
/-- which letters an atom takes in -/
theorem ln_fit {n P : Nat} {st : Nat → Nat} {Mt : Nat → Nat → Prop} (h0 : W 0 = 40) (hV : gr_V W (n + 2)) (h : ln_P W n P st Mt) {i l : Nat} (hi : i < P) (hl : l < 5) : ft_y W (n + 2) (97 + l) (st i) ↔ Mt i l := by
  obtain ⟨p1, p2, -⟩ := ln_all h0 h i (by omega)
  have hA := h.2.2 i hi
  obtain ⟨-, -, -, -, q⟩ := ln_scan hA p2 p1
  have hle := ln_mono h (P - (i + 1)) (i + 1) (by omega)
  rw [show i + 1 + (P - (i + 1)) = P from by omega, h.2.1] at hle
  unfold ft_y
  rcases hA with ⟨e, g, g'⟩ | ⟨e, g, g'⟩ | ⟨g1, g2, g3, g4, g'⟩
  · rw [g' l hl]
    constructor
    · rintro (z | ⟨-, z⟩ | ⟨z, -⟩) <;> omega
    · intro z; exact Or.inr (Or.inl ⟨by omega, z⟩)
  · exact ⟨fun _ => g' l hl, fun _ => Or.inl g⟩
  · rw [g' l hl]
    constructor
    · rintro (z | ⟨z, -⟩ | ⟨-, j, j1, j2, j3, j4⟩)
      · omega
      · omega
      · obtain ⟨-, r2, -, -, r5⟩ := gr_icP hV j j1 j2
        rw [j3] at r2 r5
        refine ⟨j, r2, ?_, j4⟩
        by_cases c : j < st (i + 1) - 1
        · exact c
        · exfalso
          by_cases c2 : j = st (i + 1) - 1
          · subst c2; omega
          · have := (r5 (st (i + 1) - 1) (by omega) (by omega)).1; omega
    · rintro ⟨x, x1, x2, x3⟩
      have z := q x x1 (by omega)
      exact Or.inr (Or.inr ⟨g1, x, by omega, z.1, z.2.1, x3⟩)
end
end
section
/-! The law's columns. -/
/-- one letter more: mt says which atoms take it in -/
def dc_s (mt : Nat → Bool) (col : Nat → Nat) (first : Nat) : Nat → Nat
  | 0 => first
  | i + 1 => min (min (col i + (if mt i = true then 0 else 1)) (min (col (i + 1) + 1) (dc_s mt col first i + 1))) 9
theorem dc_le (a b c d : Nat) (mt : Bool) (k : Nat) (hk : k ≤ 7) : min (min (a + (if mt = true then 0 else 1)) (min (b + 1) (c + 1))) 9 ≤ k ↔ (mt = true ∧ a ≤ k) ∨ a + 1 ≤ k ∨ b + 1 ≤ k ∨ c + 1 ≤ k := by
  cases mt
  · simp only [Bool.false_eq_true, if_false, false_and, false_or]; omega
  · simp only [if_true, true_and]; omega
section
variable {K P : Nat} {FO : Nat → Nat → Prop}
theorem dc_0 (hF : ∀ p q, FO p q ↔ q = p + 1 ∧ q ≤ P) : ∀ d q, sm_X0 FO d q ↔ q ≤ P ∧ q ≤ d := by
  intro d
  induction d with
  | zero =>
    intro q
    show q = 0 ↔ _
    omega
  | succ d ih =>
    intro q
    show sm_X0 FO d q ∨ (∃ p', sm_X0 FO d p' ∧ FO p' q) ↔ _
    rw [ih q]
    constructor
    · rintro (h | ⟨p, h1, h2⟩)
      · omega
      · have := (ih p).mp h1; have := (hF p q).mp h2; omega
    · intro h
      by_cases c : q ≤ d
      · left; omega
      · right
        refine ⟨d, (ih d).mpr ⟨by omega, Nat.le_refl _⟩, (hF d q).mpr ⟨by omega, by omega⟩⟩
theorem dc_1 (hK : K ≤ 7) (hF : ∀ p q, FO p q ↔ q = p + 1 ∧ q ≤ P) {XS : Nat → Nat → Prop} {M : Nat → Prop} {EN : Prop} {mt : Nat → Bool} {col : Nat → Nat} {first : Nat}
    (hX : ∀ d q, d ≤ K → (XS d q ↔ q ≤ P ∧ col q ≤ d)) (hM : ∀ q, 1 ≤ q → q ≤ P → (M q ↔ mt (q - 1) = true)) (hf : ∀ d, d ≤ K → (first ≤ d ↔ EN ∨ (1 ≤ d ∧ col 0 + 1 ≤ d))) :
    ∀ d q, d ≤ K → (sm_X1 FO XS M EN d q ↔ q ≤ P ∧ dc_s mt col first q ≤ d) := by
  intro d
  induction d with
  | zero =>
    intro q hd
    show (EN ∧ q = 0) ∨ (M q ∧ ∃ p, XS 0 p ∧ FO p q) ↔ _
    cases q with
    | zero =>
      show _ ↔ 0 ≤ P ∧ first ≤ 0
      rw [hf 0 hd]
      constructor
      · rintro (⟨h, -⟩ | ⟨-, p, -, h⟩)
        · exact ⟨Nat.zero_le _, Or.inl h⟩
        · have := (hF p 0).mp h; omega
      · rintro ⟨-, h | h⟩
        · exact Or.inl ⟨h, rfl⟩
        · omega
    | succ i =>
      show _ ↔ i + 1 ≤ P ∧ min (min (col i + (if mt i = true then 0 else 1)) (min (col (i + 1) + 1) (dc_s mt col first i + 1))) 9 ≤ 0
      rw [dc_le _ _ _ 0 _ _ (by omega)]
      constructor
      · rintro (⟨-, h⟩ | ⟨hm, p, h1, h2⟩)
        · omega
        · have h2 := (hF p (i + 1)).mp h2
          have : p = i := by omega
          subst this
          have h1 := (hX 0 p hd).mp h1
          have hm := (hM (p + 1) (by omega) h2.2).mp hm
          exact ⟨h2.2, Or.inl ⟨hm, h1.2⟩⟩
      · rintro ⟨h1, ⟨h2, h3⟩ | h | h | h⟩
        · exact Or.inr ⟨(hM (i + 1) (by omega) h1).mpr h2, i, (hX 0 i hd).mpr ⟨by omega, h3⟩, (hF i (i + 1)).mpr ⟨rfl, h1⟩⟩
        · omega
        · omega
        · omega
  | succ d ih =>
    intro q hd
    show (EN ∧ q = 0) ∨ XS d q ∨ (M q ∧ ∃ p, XS (d + 1) p ∧ FO p q) ∨ (∃ p, (XS d p ∨ sm_X1 FO XS M EN d p) ∧ FO p q) ↔ _
    cases q with
    | zero =>
      show _ ↔ 0 ≤ P ∧ first ≤ d + 1
      rw [hf (d + 1) hd, hX d 0 (by omega)]
      constructor
      · rintro (⟨h, -⟩ | ⟨-, h⟩ | ⟨-, p, -, h⟩ | ⟨p, -, h⟩)
        · exact ⟨Nat.zero_le _, Or.inl h⟩
        · exact ⟨Nat.zero_le _, Or.inr ⟨by omega, by omega⟩⟩
        · have := (hF p 0).mp h; omega
        · have := (hF p 0).mp h; omega
      · rintro ⟨-, h | ⟨-, h⟩⟩
        · exact Or.inl ⟨h, rfl⟩
        · exact Or.inr (Or.inl ⟨Nat.zero_le _, by omega⟩)
    | succ i =>
      show _ ↔ i + 1 ≤ P ∧ min (min (col i + (if mt i = true then 0 else 1)) (min (col (i + 1) + 1) (dc_s mt col first i + 1))) 9 ≤ d + 1
      rw [dc_le _ _ _ 0 _ _ (by omega), hX d (i + 1) (by omega)]
      constructor
      · rintro (⟨-, h⟩ | ⟨h1, h2⟩ | ⟨hm, p, h1, h2⟩ | ⟨p, h1, h2⟩)
        · omega
        · exact ⟨h1, Or.inr (Or.inr (Or.inl (by omega)))⟩
        · have h2 := (hF p (i + 1)).mp h2
          have : p = i := by omega
          subst this
          have h1 := (hX (d + 1) p hd).mp h1
          have hm := (hM (p + 1) (by omega) h2.2).mp hm
          exact ⟨h2.2, Or.inl ⟨hm, h1.2⟩⟩
        · have h2 := (hF p (i + 1)).mp h2
          have : p = i := by omega
          subst this
          refine ⟨h2.2, ?_⟩
          rcases h1 with h1 | h1
          · have h1 := (hX d p (by omega)).mp h1
            exact Or.inr (Or.inl (by omega))
          · have h1 := (ih p (by omega)).mp h1
            exact Or.inr (Or.inr (Or.inr (by omega)))
      · rintro ⟨h1, ⟨h2, h3⟩ | h | h | h⟩
        · exact Or.inr (Or.inr (Or.inl ⟨(hM (i + 1) (by omega) h1).mpr h2, i, (hX (d + 1) i hd).mpr ⟨by omega, h3⟩, (hF i (i + 1)).mpr ⟨rfl, h1⟩⟩))
        · exact Or.inr (Or.inr (Or.inr ⟨i, Or.inl ((hX d i (by omega)).mpr ⟨by omega, by omega⟩), (hF i (i + 1)).mpr ⟨rfl, h1⟩⟩))
        · exact Or.inr (Or.inl ⟨h1, by omega⟩)
        · exact Or.inr (Or.inr (Or.inr ⟨i, Or.inr ((ih i (by omega)).mpr ⟨by omega, by omega⟩), (hF i (i + 1)).mpr ⟨rfl, h1⟩⟩))
end
/-! Digits of w bits in one long. -/
def dg_p (w : Nat) (f : Nat → Nat) : Nat → Nat
  | 0 => 0
  | n + 1 => dg_p w f n + f n * 2 ^ (w * n)
theorem dg_lt {w : Nat} {f : Nat → Nat} : ∀ n, (∀ i, i < n → f i < 2 ^ w) → dg_p w f n < 2 ^ (w * n) := by
  intro n
  induction n with
  | zero => intro _; show 0 < 2 ^ (w * 0); rw [Nat.mul_zero]; exact Nat.one_pos
  | succ n ih =>
    intro h
    have h1 := ih (fun i hi => h i (by omega))
    have h2 := h n (by omega)
    show dg_p w f n + f n * 2 ^ (w * n) < 2 ^ (w * (n + 1))
    have e : 2 ^ (w * (n + 1)) = 2 ^ w * 2 ^ (w * n) := by rw [Nat.mul_succ, Nat.pow_add, Nat.mul_comm]
    have h3 : (f n + 1) * 2 ^ (w * n) ≤ 2 ^ w * 2 ^ (w * n) := Nat.mul_le_mul_right _ h2
    rw [Nat.add_mul, Nat.one_mul] at h3
    omega
theorem dg_get {w : Nat} {f : Nat → Nat} : ∀ n, (∀ i, i < n → f i < 2 ^ w) → ∀ i, i < n → dg_p w f n / 2 ^ (w * i) % 2 ^ w = f i := by
  intro n
  induction n with
  | zero => intro _ i hi; omega
  | succ n ih =>
    intro h i hi
    have h1 := dg_lt n (fun i hi => h i (by omega))
    have h2 := h n (by omega)
    show (dg_p w f n + f n * 2 ^ (w * n)) / 2 ^ (w * i) % 2 ^ w = f i
    by_cases c : i = n
    · subst c
      rw [Nat.add_mul_div_right _ _ (Nat.pow_pos (by omega)), Nat.div_eq_of_lt h1, Nat.zero_add, Nat.mod_eq_of_lt h2]
    · obtain ⟨d, rfl⟩ : ∃ d, n = i + 1 + d := ⟨n - (i + 1), by omega⟩
      have e : f (i + 1 + d) * 2 ^ (w * (i + 1 + d)) = (f (i + 1 + d) * 2 ^ (w * d) * 2 ^ w) * 2 ^ (w * i) := by
        rw [show w * (i + 1 + d) = w * d + w + w * i from by rw [Nat.mul_add, Nat.mul_add, Nat.mul_one]; omega, Nat.pow_add, Nat.pow_add]
        simp only [Nat.mul_assoc]
      rw [e, Nat.add_mul_div_right _ _ (Nat.pow_pos (by omega)), Nat.add_mul_mod_self_right]
      exact ih (fun i hi => h i (by omega)) i (by omega)
theorem dg_c {w : Nat} {f g : Nat → Nat} : ∀ n, (∀ i, i < n → f i = g i) → dg_p w f n = dg_p w g n := by
  intro n
  induction n with
  | zero => intro _; rfl
  | succ n ih =>
    intro h
    show dg_p w f n + f n * 2 ^ (w * n) = dg_p w g n + g n * 2 ^ (w * n)
    rw [ih (fun i hi => h i (by omega)), h n (by omega)]
theorem dg_or {w : Nat} {f : Nat → Nat} {n : Nat} (h : ∀ i, i < n + 1 → f i < 2 ^ w) (hw : w * (n + 1) ≤ 63) : lN (dg_p w f n) ||| lN (f n * 2 ^ (w * n)) = lN (dg_p w f (n + 1)) := by
  have h1 := dg_lt n (fun i hi => h i (by omega))
  have h2 := dg_lt (n + 1) h
  have h3 : 2 ^ (w * (n + 1)) ≤ 2 ^ 63 := Nat.pow_le_pow_right (by omega) hw
  have h4 : dg_p w f (n + 1) = dg_p w f n + f n * 2 ^ (w * n) := rfl
  exact g_or' rfl h1 (by rw [← h4]; omega)
end
section
/-! The law's small methods. -/
def lm_r (v : Int32) (m : Nat) : Nat := if 0 ≤ v - v / nI m * nI m then (v - v / nI m * nI m).toNatClampNeg else (v - v / nI m * nI m + nI m).toNatClampNeg
theorem lm_both (v : Int32) {m : Nat} (h0 : 0 < m) (hm : m < 2 ^ 30) : lm_r v m < m ∧ ((0 ≤ v - v / nI m * nI m) → v - v / nI m * nI m = nI (lm_r v m)) ∧ (¬ (0 ≤ v - v / nI m * nI m) → v - v / nI m * nI m + nI m = nI (lm_r v m)) := by
  have hr := rem_toInt v (nI m)
  rw [nI_toInt (by omega)] at hr
  have hb := tmod_bounds (a := v.toInt) (M := (m : Int)) (by omega)
  rw [← hr] at hb
  unfold lm_r
  by_cases c : 0 ≤ v - v / nI m * nI m
  · rw [if_pos c]
    obtain ⟨j, hj, e⟩ := nI_of (Int32.not_lt.mpr c)
    rw [e, nI_toInt hj] at hb
    rw [e, nI_clamp hj]
    refine ⟨by omega, fun _ => rfl, fun q => absurd ?_ q⟩
    rw [e] at c; exact c
  · rw [if_neg c]
    have h0' : (0 : Int32).toInt = 0 := by decide
    have hneg : (v - v / nI m * nI m).toInt < 0 := by
      have := Int32.lt_iff_toInt_lt.mp (Int32.not_le.mp c)
      omega
    have hs : (v - v / nI m * nI m + nI m).toInt = (v - v / nI m * nI m).toInt + m := by
      rw [Int32.toInt_add, nI_toInt (by omega)]
      exact Int.bmod_eq_of_le (by omega) (by omega)
    have hnn : ¬ (v - v / nI m * nI m + nI m) < 0 := by
      intro q
      have := Int32.lt_iff_toInt_lt.mp q
      omega
    obtain ⟨j, hj, e⟩ := nI_of hnn
    rw [e, nI_toInt hj] at hs
    rw [e, nI_clamp hj]
    exact ⟨by omega, fun q => absurd q c, fun _ => rfl⟩
theorem lm_lt (v : Int32) {m : Nat} (h0 : 0 < m) (hm : m < 2 ^ 30) : lm_r v m < m := (lm_both v h0 hm).1
theorem lm_md {post : Int32 → Prop} {v : Int32} {m : Nat} (h0 : 0 < m) (hm : m < 2 ^ 30) (h : post (nI (lm_r v m))) : wpL_md post () v (nI m) := by
  obtain ⟨-, h1, h2⟩ := lm_both v h0 hm
  unfold wpL_md
  refine ⟨nI_ne0 h0 (by omega), nm_e (br_c (fun c => ?_) (fun c => ?_))⟩
  · rw [h1 c]; exact h
  · rw [h2 c]; exact h
theorem lm_min {post : Int32 → Prop} {a b : Nat} (ha : a < 2 ^ 31) (hb : b < 2 ^ 31) (h : post (nI (min a b))) : wpL_min post () (nI a) (nI b) := by
  unfold wpL_min
  refine pk_le b a (fun q => ?_) (fun q => ?_)
  · rw [Nat.min_eq_right q] at h; exact h
  · rw [Nat.min_eq_left (by omega)] at h; exact h
def lm_c (L : Nat) (xs : Nat → Int32) (k : Nat) : Int32 := if L ≤ k then 0 else xs k
theorem lm_cell {post : Int32 → Prop} {L k : Nat} {xs : Nat → Int32} (hL : L ≤ 260) (hk : k < 2 ^ 31) (h : post (lm_c L xs k)) : wpL_cell post L xs () (nI k) := by
  unfold wpL_cell
  unfold lm_c at h
  refine pk_le L k (fun q => ?_) (fun q => ?_)
  · rw [if_pos q] at h; exact h
  · rw [if_neg (by omega)] at h
    rw [nI_clamp hk]
    exact ⟨vp_in_nI q (by omega), h⟩
theorem lm_sh {a k : Nat} (ha : a < 2 ^ 31) (hk : k < 64) (n : Nat) (e : n * k < 64) : (nI a).toInt64 <<< ((nI n * nI k).toInt64 &&& 63) = lN (a * 2 ^ (n * k)) := by
  rw [pk_mul, nI_l ha]
  exact wb_shl a e
theorem lm_get {post : Int32 → Prop} {f : Nat → Nat} {n i : Nat} (hf : ∀ i, i < n → f i < 16) (hi : i < n) (hn : 4 * n ≤ 63) (h : post (nI (f i))) : wpL_get post () (lN (dg_p 4 f n)) (nI i) := by
  unfold wpL_get
  have h1 := dg_lt (w := 4) n hf
  have h2 : 2 ^ (4 * n) ≤ 2 ^ 63 := Nat.pow_le_pow_right (by omega) hn
  have e1 : (4 : Int32) * nI i = nI (4 * i) := pk_mul 4 i
  have e2 : (15 : Int64) = lN (2 ^ 4 - 1) := rfl
  rw [e1, wb_shr (by omega) (by omega), e2, wb_mask (k := 4) (Nat.lt_of_le_of_lt (Nat.div_le_self _ _) (by omega)) (by omega), lN_i, dg_get (w := 4) n hf i hi]
  exact h
theorem lm_init {post : Int64 → Prop} {P : Nat} (hP : P ≤ 6) (h : post (lN (dg_p 4 (fun i => i) (P + 1)))) : wpL_initCol post () (nI P) := by
  unfold wpL_initCol
  refine pk_loop (fun n i (c : Int64) => wL_initCol_4 post (nI P) n c (nI i)) (fun i c => c = lN (dg_p 4 (fun i => i) i)) (P + 1) 0 0 (by omega) rfl ?_ ?_
  · intro n c hc
    rw [wL_initCol_4]
    subst hc
    exact br_t (nI_lt (by omega) (by omega)) h
  · intro n i c hi hc hn
    rw [wL_initCol_4]
    subst hc
    refine br_f (nI_nlt (by omega) (by omega)) (nm_r (e' := lN (dg_p 4 (fun i => i) (i + 1))) ?_ (nm_r (nI_1 i) (hn _ rfl)))
    have e1 := lm_sh (a := i) (k := i) (by omega) (by omega) 4 (by omega)
    have e4 : nI 4 = (4 : Int32) := rfl
    rw [e4] at e1
    rw [e1]
    exact dg_or (w := 4) (f := fun i => i) (fun j hj => by show j < 16; omega) (by omega)
/-- the atoms that take the letter x in, by the masks -/
def lm_t (mk : Nat → Nat) (x : Nat) : Nat → Bool := fun i => decide (mk i / 2 ^ x % 2 = 1)
theorem lm_bit {k x : Nat} (hk : k < 32) (hx : x < 5) : ((nI k >>> (nI x &&& 31)) &&& 1) = 0 ↔ ¬ k / 2 ^ x % 2 = 1 := by
  have hd : k / 2 ^ x ≤ k := Nat.div_le_self _ _
  rw [pk_shrN (by omega) _ x (s_l x (by omega)), pk_andN (by omega) 1 (by decide)]
  have hm : k / 2 ^ x % 2 ^ 1 < 2 := Nat.mod_lt _ (by omega)
  rw [← nI_0, nI_eq (by omega) (by omega)]
  omega
theorem lm_dc9 {mt : Nat → Bool} {col : Nat → Nat} {first : Nat} (h : first ≤ 9) : ∀ i, dc_s mt col first i ≤ 9 := by
  intro i
  cases i with
  | zero => exact h
  | succ i => exact Nat.min_le_right _ _
theorem lm_step {post : Int64 → Prop} {P x first : Nat} {col mk : Nat → Nat} (hP : P ≤ 6) (hx : x < 5) (hc : ∀ i, i ≤ P → col i ≤ 9) (hf : first ≤ 9) (hm : ∀ i, i < P → mk i < 32)
    (h : post (lN (dg_p 4 (dc_s (lm_t mk x) col first) (P + 1)))) : wpL_step post () (lN (dg_p 4 col (P + 1))) (lN (dg_p 5 mk P)) (nI P) (nI x) (nI first) := by
  have hS := lm_dc9 (mt := lm_t mk x) (col := col) hf
  have hM := dg_lt (w := 5) P (f := mk) hm
  have hM2 : 2 ^ (5 * P) ≤ 2 ^ 63 := Nat.pow_le_pow_right (by omega) (by omega)
  unfold wpL_step
  have e0 : (nI first).toInt64 = lN (dg_p 4 (dc_s (lm_t mk x) col first) 1) := by
    rw [nI_l (by omega)]
    show lN first = lN (0 + first * 2 ^ (4 * 0))
    rw [Nat.mul_zero, Nat.pow_zero, Nat.mul_one, Nat.zero_add]
  rw [e0]
  refine pk_loop (fun n i (s : Int64 × Int32) => wL_step_12 post (lN (dg_p 4 col (P + 1))) (lN (dg_p 5 mk P)) (nI P) (nI x) n s.1 s.2 (nI i))
    (fun i s => 1 ≤ i ∧ s = (lN (dg_p 4 (dc_s (lm_t mk x) col first) i), nI (dc_s (lm_t mk x) col first (i - 1)))) (P + 1) 1 (_, nI first) (by omega) ⟨by omega, rfl⟩ ?_ ?_
  · rintro n s ⟨-, rfl⟩
    dsimp only
    rw [wL_step_12]
    exact br_t (nI_lt (by omega) (by omega)) h
  · rintro n i s hi ⟨h1, rfl⟩ hn
    dsimp only
    rw [wL_step_12]
    obtain ⟨j, rfl⟩ : ∃ j, i = j + 1 := ⟨i - 1, by omega⟩
    rw [Nat.add_sub_cancel] at *
    refine br_f (nI_nlt (by omega) (by omega)) ?_
    rw [nI_pred]
    have e5 : (5 : Int32) * nI j = nI (5 * j) := pk_mul 5 j
    have e31 : (31 : Int64) = lN (2 ^ 5 - 1) := rfl
    rw [e5, wb_shr (by omega) (by omega), e31, wb_mask (k := 5) (Nat.lt_of_le_of_lt (Nat.div_le_self _ _) (by omega)) (by omega), lN_i, dg_get (w := 5) P hm j (by omega)]
    refine nm_e (lm_get (fun i hi => by have := hc i (by omega); omega) (by omega) (by omega) ?_)
    have hcj := hc j (by omega)
    have hcj1 := hc (j + 1) (by omega)
    have hSj := hS j
    have h57 : ∀ z, z = (if lm_t mk x j = true then 0 else 1) → wL_step_57 post (wL_step_12 post (lN (dg_p 4 col (P + 1))) (lN (dg_p 5 mk P)) (nI P) (nI x) n) (lN (dg_p 4 col (P + 1))) (lN (dg_p 5 mk P)) (nI P) (nI x) (lN (dg_p 4 (dc_s (lm_t mk x) col first) (j + 1))) (nI (dc_s (lm_t mk x) col first j)) (nI (j + 1)) (nI z) (nI (col j)) := by
      intro z hz
      have hz1 : z ≤ 1 := by rw [hz]; split <;> omega
      unfold wL_step_57
      refine nm_r (nI_add _ _) (lm_get (fun i hi => by have := hc i (by omega); omega) (by omega) (by omega) ?_)
      rw [nI_1 (col (j + 1)), nI_1 (dc_s (lm_t mk x) col first j)]
      refine lm_min (by omega) (by omega) (lm_min (by omega) (by omega) (lm_min (b := 9) (by omega) (by omega) ?_))
      have ev : min (min (col j + z) (min (col (j + 1) + 1) (dc_s (lm_t mk x) col first j + 1))) 9 = dc_s (lm_t mk x) col first (j + 1) := by rw [hz]; rfl
      rw [ev]
      refine nm_r (e' := lN (dg_p 4 (dc_s (lm_t mk x) col first) (j + 1 + 1))) ?_ (nm_r (nI_1 (j + 1)) (hn (_, _) ⟨by omega, rfl⟩))
      have hSj1 := hS (j + 1)
      have e1 := lm_sh (a := dc_s (lm_t mk x) col first (j + 1)) (k := j + 1) (by omega) (by omega) 4 (by omega)
      have e4 : nI 4 = (4 : Int32) := rfl
      rw [e4] at e1
      rw [e1]
      exact dg_or (w := 4) (fun i _ => by have := hS i; omega) (by omega)
    have hbit := lm_bit (hm j (by omega)) hx
    by_cases c : mk j / 2 ^ x % 2 = 1
    · refine br_f (fun q => hbit.mp q c) (h57 0 ?_)
      rw [if_pos (by unfold lm_t; exact decide_eq_true c)]
    · refine br_t (hbit.mpr c) (h57 1 ?_)
      rw [if_neg (by unfold lm_t; simp [c])]
end
section
/-! The component's methods, as the law meets them. -/
/-- the columns behind j letters of y: a match may begin anywhere; a match begins with the first letter -/
def lx_D (mk y : Nat → Nat) : Nat → Nat → Nat
  | 0 => fun i => i
  | j + 1 => dc_s (lm_t mk (y j)) (lx_D mk y j) 0
def lx_W (mk y : Nat → Nat) : Nat → Nat → Nat
  | 0 => fun i => i
  | j + 1 => dc_s (lm_t mk (y j)) (lx_W mk y j) (min 9 (j + 1))
theorem lx_W0 (mk y : Nat → Nat) (j : Nat) : lx_W mk y j 0 = min 9 j := by
  cases j with
  | zero => rfl
  | succ j => rfl
theorem lx_D9 (mk y : Nat → Nat) {j i : Nat} (hi : i ≤ 6) : lx_D mk y j i ≤ 9 := by
  cases j with
  | zero => show i ≤ 9; omega
  | succ j => exact lm_dc9 (by omega) i
theorem lx_W9 (mk y : Nat → Nat) {j i : Nat} (hi : i ≤ 6) : lx_W mk y j i ≤ 9 := by
  cases j with
  | zero => show i ≤ 9; omega
  | succ j => exact lm_dc9 (Nat.min_le_left _ _) i
theorem lx_Dc {mk y y' : Nat → Nat} : ∀ n, (∀ j, j < n → y j = y' j) → lx_D mk y n = lx_D mk y' n := by
  intro n
  induction n with
  | zero => intro _; rfl
  | succ n ih =>
    intro h
    show dc_s (lm_t mk (y n)) (lx_D mk y n) 0 = dc_s (lm_t mk (y' n)) (lx_D mk y' n) 0
    rw [ih (fun j hj => h j (by omega)), h n (by omega)]
/-- the compiled pattern -/
def lx_G (P : Nat) (mk : Nat → Nat) (xF : Int64) (xfo xsl : Nat → Int64) : Prop :=
  (∀ p q, xr_FO xfo p q ↔ q = p + 1 ∧ q ≤ P) ∧ (∀ p, p < 64 → (bs_b xF p = true ↔ p = P)) ∧ (∀ l q, l < 5 → 1 ≤ q → q ≤ P → (xr_M (xsl l) q ↔ lm_t mk l (q - 1) = true))
/-- the text -/
def lx_T (P k tl : Nat) (mk y : Nat → Nat) (xeb : Nat → Int32) (xss xws : Nat → Int64) : Prop :=
  (∀ j, j ≤ tl → xeb j = nI (min (k + 1) (lx_D mk y j P))) ∧ (∀ d q, d ≤ k → (xr_XS xss d q ↔ q ≤ P ∧ lx_D mk y tl q ≤ d)) ∧ (∀ d q, d ≤ k → (xr_XS xws d q ↔ q ≤ P ∧ lx_W mk y tl q ≤ d))
theorem lx_L {P k : Nat} {S : Nat → Int64} {F : Int64} {col : Nat → Nat} (hP : P < 64) (hF : ∀ p, p < 64 → (bs_b F p = true ↔ p = P)) (hS : ∀ d q, d ≤ k → (xr_XS S d q ↔ q ≤ P ∧ col q ≤ d)) : xt_L k S F (min (k + 1) (col P)) := by
  have key : ∀ d, d ≤ k → (¬ (S d &&& F) = 0 ↔ col P ≤ d) := by
    intro d hd
    rw [bs_ne0]
    constructor
    · rintro ⟨i, h1, h2⟩
      rw [bs_and, Bool.and_eq_true] at h2
      have := (hF i h1).mp h2.2
      subst this
      exact ((hS d i hd).mp ⟨h1, h2.1⟩).2
    · intro h
      have := (hS d P hd).mpr ⟨Nat.le_refl _, h⟩
      exact ⟨P, hP, by rw [bs_and, Bool.and_eq_true]; exact ⟨this.2, (hF P hP).mpr rfl⟩⟩
  refine ⟨Nat.min_le_left _ _, fun d h1 h2 => ?_, fun h => (key _ h).mpr ?_⟩
  · by_cases c : S d &&& F = 0
    · exact c
    · have := (key d h2).mp c
      omega
  · omega
section
variable {xk xn xc xS xP xt xl xp3 : Int32} {xF xp1 xp2 xN : Int64} {xV xeb xus xbs : Nat → Int32} {xfo xsl xss xws xuf xul xbf xbl : Nat → Int64}
theorem lx_isP {post : Int32 → Prop} {c : Nat} (hc : c < 65536) (h1 : vd_al c → post 1) (h0 : ¬ vd_al c → post 0) : wpX_isPatternChar post () (nI c) := by
  unfold wpX_isPatternChar
  refine xw_isL hc (fun hL => br_f (by decide) (h1 (Or.inl hL))) (fun hL => br_t rfl ?_)
  refine xw_isO hc (fun hO => br_f (by decide) (h1 (Or.inr (Or.inl hO)))) (fun hO => br_t rfl ?_)
  exact pk_eq c 46 (fun _ => h1 (by omega)) (fun _ => pk_eq c 124 (fun _ => h1 (by omega)) (fun _ => pk_eq c 91 (fun _ => h1 (by omega)) (fun _ => pk_eq c 93 (fun _ => h1 (by omega)) (fun _ => pk_eq c 40 (fun _ => h1 (by omega)) (fun _ => pk_eq c 41 (fun _ => h1 (by omega)) (fun _ => h0 (by omega)))))))
theorem lx_pc {post : Int32 → St2 → Prop} {V : Nat → Nat} {n c : Nat} (hn : n < 64) (hc : vd_al c) (h : post (nI (n + 1)) (xk, nI (n + 1), 0, xF, xS, xP, 0, xl, xp1, xp2, xp3, xN, fun i => nI (if i = n then c else V i), xfo, xsl, xeb, xss, xws, xuf, xul, xus, xbf, xbl, xbs)) :
    wpX_patternChar post (xk, nI n, xc, xF, xS, xP, xt, xl, xp1, xp2, xp3, xN, fun i => nI (V i), xfo, xsl, xeb, xss, xws, xuf, xul, xus, xbf, xbl, xbs) (nI c) := by
  have hc' : c < 65536 := by omega
  unfold wpX_patternChar
  refine lx_isP hc' (fun _ => br_f (by decide) (pk_lt n 64 (fun _ => ?_) (fun z => by omega))) (fun z => absurd hc z)
  have en : vp_nar .char (nI c) = nI c := by
    unfold vp_nar
    rw [(pk_charN hc').1]
  rw [nI_clamp (by omega), en, nI_1]
  refine ⟨vp_in_nI hn (by omega), nm_e (nm_e ?_)⟩
  unfold wpX_dropCompiled
  have eV : upd (fun i => nI (V i)) n (nI c) = fun i => nI (if i = n then c else V i) := by
    funext i
    unfold upd
    by_cases q : i = n
    · rw [if_pos q, if_pos q]
    · rw [if_neg q, if_neg q]
  rw [eV]
  exact h
theorem lx_start {post : St2 → Prop} {P k : Nat} {mk y : Nat → Nat} (hP : P ≤ 6) (hk : k ≤ 7) (hG : lx_G P mk xF xfo xsl)
    (h : ∀ xeb xss xws, lx_T P k 0 mk y xeb xss xws → post (nI k, xn, xc, xF, xS, xP, 0, xl, xp1, xp2, xp3, xN, xV, xfo, xsl, xeb, xss, xws, xuf, xul, xus, xbf, xbl, xbs)) : wpX_startText post (nI k, xn, xc, xF, xS, xP, xt, xl, xp1, xp2, xp3, xN, xV, xfo, xsl, xeb, xss, xws, xuf, xul, xus, xbf, xbl, xbs) := by
  obtain ⟨g1, g2, g3⟩ := hG
  have hX : ∀ d q, d ≤ k → (xr_XS (xr_rc xfo) d q ↔ q ≤ P ∧ lx_D mk y 0 q ≤ d) := by
    intro d q _
    have := xr_rcX xfo d q
    rw [dc_0 g1] at this
    exact this
  have mix : ∀ (f : Nat → Int64) d q, d ≤ k → (xr_XS (xt_mix (k + 1) (xr_rc xfo) f) d q ↔ q ≤ P ∧ q ≤ d) := by
    intro f d q hd
    rw [← show (xr_XS (xr_rc xfo) d q ↔ q ≤ P ∧ q ≤ d) from hX d q hd]
    unfold xr_XS xt_mix
    rw [if_pos (by omega)]
  refine xt_start hk (lx_L (by omega) g2 hX) (h _ _ _ ⟨fun j hj => ?_, fun d q hd => mix xss d q hd, fun d q hd => mix xws d q hd⟩)
  have : j = 0 := by omega
  subst this
  exact pk_us
theorem lx_reset {post : St2 → Prop} {P k : Nat} {mk y : Nat → Nat} (hP : P ≤ 6) (hk : k ≤ 7) (hG : lx_G P mk xF xfo xsl)
    (h : ∀ xeb xss xws, lx_T P k 0 mk y xeb xss xws → post (nI k, xn, 1, xF, xS, xP, 0, xl, xp1, xp2, xp3, xN, xV, xfo, xsl, xeb, xss, xws, xuf, xul, xus, xbf, xbl, xbs)) : wpX_resetText post (nI k, xn, 1, xF, xS, xP, xt, xl, xp1, xp2, xp3, xN, xV, xfo, xsl, xeb, xss, xws, xuf, xul, xus, xbf, xbl, xbs) := by
  unfold wpX_resetText
  exact br_f (by decide) (lx_start hP hk hG h)
theorem lx_err {post : Int32 → Prop} {P k tl j : Nat} {mk y : Nat → Nat} (htl : tl ≤ 256) (hT : lx_T P k tl mk y xeb xss xws) (hj : j ≤ tl) (h : post (nI (min (k + 1) (lx_D mk y j P)))) : wpX_errorsAt post (xk, xn, 1, xF, xS, xP, nI tl, xl, xp1, xp2, xp3, xN, xV, xfo, xsl, xeb, xss, xws, xuf, xul, xus, xbf, xbl, xbs) (nI j) := by
  unfold wpX_errorsAt
  refine br_f (by decide) (br_f (nI_pos (by omega)) (pk_le j tl (fun _ => ?_) (fun z => by omega)))
  rw [nI_clamp (by omega), hT.1 j hj]
  exact ⟨vp_in_nI (by omega) (by omega), h⟩
theorem lx_whole {post : Int32 → Prop} {P k tl : Nat} {mk y : Nat → Nat} (hP : P ≤ 6) (hk : k ≤ 7) (hG : lx_G P mk xF xfo xsl) (hT : lx_T P k tl mk y xeb xss xws) (h : post (nI (min (k + 1) (lx_W mk y tl P)))) : wpX_wholeDistance post (nI k, xn, 1, xF, xS, xP, xt, xl, xp1, xp2, xp3, xN, xV, xfo, xsl, xeb, xss, xws, xuf, xul, xus, xbf, xbl, xbs) := by
  unfold wpX_wholeDistance
  exact br_f (by decide) (xt_leastW hk (lx_L (by omega) hG.2.1 hT.2.2) h)
theorem lx_feed {post : Int32 → St2 → Prop} {P k tl l : Nat} {mk y : Nat → Nat} (hP : P ≤ 6) (hk : k ≤ 7) (htl : tl < 256) (hl : l < 5) (hy : y tl = l) (hG : lx_G P mk xF xfo xsl) (hT : lx_T P k tl mk y xeb xss xws)
    (h : ∀ xeb xss xws, lx_T P k (tl + 1) mk y xeb xss xws → post (nI (min (k + 1) (lx_D mk y (tl + 1) P))) (nI k, xn, 1, xF, xS, xP, nI (tl + 1), xl, xp1, xp2, xp3, xN, xV, xfo, xsl, xeb, xss, xws, xuf, xul, xus, xbf, xbl, xbs)) : wpX_feed post (nI k, xn, 1, xF, xS, xP, nI tl, xl, xp1, xp2, xp3, xN, xV, xfo, xsl, xeb, xss, xws, xuf, xul, xus, xbf, xbl, xbs) (nI (97 + l)) := by
  obtain ⟨g1, g2, g3⟩ := hG
  obtain ⟨t1, t2, t3⟩ := hT
  have hL : gr_L (97 + l) := by omega
  have hD : ∀ d q, d ≤ k → (xr_XS (xr_rl xfo xss (xsl l) 1) d q ↔ q ≤ P ∧ lx_D mk y (tl + 1) q ≤ d) := by
    intro d q hd
    have q1 := xr_rlX xfo xss (xsl l) 1 True xr_en1 d q
    rw [dc_1 hk g1 t2 (mt := lm_t mk l) (fun q q1 q2 => g3 l q hl q1 q2) (first := 0) (fun d _ => by simp) d q hd] at q1
    rw [show lx_D mk y (tl + 1) = dc_s (lm_t mk l) (lx_D mk y tl) 0 from by rw [← hy]; rfl]
    exact q1
  have hWq : ∀ d q, d ≤ k → (xr_XS (xr_rl xfo xws (xsl l) 0) d q ↔ q ≤ P ∧ lx_W mk y (tl + 1) q ≤ d) := by
    intro d q hd
    have q1 := xr_rlX xfo xws (xsl l) 0 False xr_en0 d q
    rw [dc_1 hk g1 t3 (mt := lm_t mk l) (fun q q1 q2 => g3 l q hl q1 q2) (first := min 9 (tl + 1)) (fun d hd => by rw [lx_W0]; exact ⟨fun q => Or.inr ⟨by omega, by omega⟩, fun q => by rcases q with q | q; exact q.elim; omega⟩) d q hd] at q1
    rw [show lx_W mk y (tl + 1) = dc_s (lm_t mk l) (lx_W mk y tl) (min 9 (tl + 1)) from by rw [← hy]; rfl]
    exact q1
  have mixE : ∀ (g f : Nat → Int64) d q, d ≤ k → (xr_XS (xt_mix (k + 1) g f) d q ↔ xr_XS g d q) := by
    intro g f d q hd
    unfold xr_XS xt_mix
    rw [if_pos (by omega)]
  unfold wpX_feed
  refine br_f (by decide) (xw_isL (by omega) (fun _ => br_f (by decide) (pk_lt tl 256 (fun _ => ?_) (fun z => by omega))) (fun z => absurd hL z))
  rw [xw_c97 hL, nI_clamp (by omega), Nat.add_sub_cancel_left]
  refine ⟨vp_in_nI (by omega) (by omega), nm_e (xt_readS hk (xt_readW hk (nm_r (nI_1 tl) ?_)))⟩
  refine xt_leastS hk (xt_Lc (lx_L (by omega) g2 hD) (fun d hd => if_pos (by omega))) ?_
  rw [nI_clamp (by omega)]
  refine ⟨vp_in_nI (by omega) (by omega), nm_e ⟨vp_in_nI (by omega) (by omega), ?_⟩⟩
  rw [pk_us]
  refine h _ _ _ ⟨fun j hj => ?_, fun d q hd => by rw [mixE _ _ d q hd]; exact hD d q hd, fun d q hd => by rw [mixE _ _ d q hd]; exact hWq d q hd⟩
  by_cases c : j = tl + 1
  · subst c; exact pk_us
  · rw [pk_un c]; exact t1 j (by omega)
theorem lx_compile {post : Int32 → St2 → Prop} {P k n : Nat} {V st : Nat → Nat} {mk y : Nat → Nat} (hP0 : 0 < P) (hP : P ≤ 6) (hk : k ≤ 7) (hn0 : 0 < n) (hn : n ≤ 64) (hal : ∀ i, i < n → vd_al (V i)) (hL : ln_P (vd_W V n) n P st (fun i l => lm_t mk l i = true))
    (h : ∀ xF xS xl xp1 xp2 xp3 xN xfo xsl xeb xss xws xuf xul xus xbf xbl xbs, lx_G P mk xF xfo xsl → lx_T P k 0 mk y xeb xss xws → post (nI P) (nI k, nI n, 1, xF, xS, nI P, 0, xl, xp1, xp2, xp3, xN, fun i => nI (V i), xfo, xsl, xeb, xss, xws, xuf, xul, xus, xbf, xbl, xbs)) :
    wpX_compile post (nI k, nI n, xc, xF, xS, xP, xt, xl, xp1, xp2, xp3, xN, fun i => nI (V i), xfo, xsl, xeb, xss, xws, xuf, xul, xus, xbf, xbl, xbs) := by
  obtain ⟨hv, hct⟩ := ln_V vd_W0 hP0 hL
  have gV : gr_V (vd_W V n) (n + 2) := vd_gr hn0 vd_W0 vd_Wm hv
  have hct2 : gr_ct (vd_W V n) (n + 2) ≤ 63 := by
    rw [xs_ctN (W := vd_W V n) (i := n + 1) (gs_nS (Or.inr (Or.inl vd_Wm))), hct]; omega
  unfold wpX_compile
  refine br_f (nI_ne0 hn0 (by omega)) ?_
  refine xv_valid hn rfl hal rfl rfl (fun _ => br_f (by decide) ?_) (fun z => absurd hv z)
  refine xv_count hn rfl hal rfl rfl ?_
  rw [hct]
  refine pk_le P 63 (fun _ => ?_) (fun z => by omega)
  refine xb_build hn0 hn rfl rfl gV hct2 hal rfl rfl ?_
  intro xF xS xl xp1 xp2 xp3 xN xfo xsl xuf xul xus xbf xbl xbs hR
  obtain ⟨n0, rfl, hb, hp, hmin, hA, hfin, hsl, -⟩ := hR
  have hFO : ∀ p q, xr_FO xfo p q ↔ q = p + 1 ∧ q ≤ P := by
    intro p q
    rw [hA.2.2.1 p q]
    exact ln_FO vd_W0 vd_Wm hn0 hL p q
  have hG : lx_G P mk xF xfo xsl := by
    refine ⟨hFO, fun p hp => by rw [hfin p hp]; exact ln_fin vd_W0 vd_Wm hn0 hP0 hL p, fun l q hl q1 q2 => ?_⟩
    obtain ⟨t, g, hS, -⟩ := (ln_FO vd_W0 vd_Wm hn0 hL (q - 1) q).mpr ⟨by omega, q2⟩
    have hS' := hS
    obtain ⟨s1, s2, s3, -⟩ := hS
    obtain ⟨i, i1, rfl⟩ := ln_src vd_W0 vd_Wm hL s2 s1
    rw [(ln_all vd_W0 hL i (by omega)).1.2.2.1] at s3
    have hq : q < 64 := by omega
    have e := hsl (97 + l) q (by omega) hq
    rw [Nat.add_sub_cancel_left, ft_iff gV (by omega) hS', ln_fit vd_W0 gV hL i1 hl] at e
    have ei : q - 1 = i := by omega
    rw [ei]
    unfold xr_M
    rw [e]
    exact ⟨fun z => z.2, fun z => ⟨hq, z⟩⟩
  refine lx_start (y := y) hP hk hG ?_
  intro xeb xss xws hT
  exact h _ _ _ _ _ _ _ _ _ _ _ _ _ _ _ _ _ _ hG hT
end
end
section
/-! The law's own loops over the text. -/
/-- the letter that the cell t feeds -/
def ll_t (L : Nat) (xs : Nat → Int32) (t : Nat) : Nat := lm_r (nI (lm_r (lm_c L xs t) 16) - 2) 5
def ll_X (P k n tl : Nat) (V mk y : Nat → Nat) (xk : Int32) (xn : Int32) (xc : Int32) (xF : Int64) (xS : Int32) (xP : Int32) (xt : Int32) (xl : Int32) (xp1 : Int64) (xp2 : Int64) (xp3 : Int32) (xN : Int64) (xV : Nat → Int32) (xfo : Nat → Int64) (xsl : Nat → Int64) (xeb : Nat → Int32) (xss : Nat → Int64) (xws : Nat → Int64) (xuf : Nat → Int64) (xul : Nat → Int64) (xus : Nat → Int32) (xbf : Nat → Int64) (xbl : Nat → Int64) (xbs : Nat → Int32) : Prop :=
  xk = nI k ∧ xn = nI n ∧ xV = (fun i => nI (V i)) ∧ xc = 1 ∧ xt = nI tl ∧ lx_G P mk xF xfo xsl ∧ lx_T P k tl mk y xeb xss xws
theorem ll_ch {v : Nat} (h : v < 100) : (((97 + nI v).toUInt32 % 65536).toInt32) = nI (97 + v) := by
  have e : (97 : Int32) + nI v = nI (97 + v) := nI_add 97 v
  rw [e, pk_char, pk_tn (by omega), Nat.mod_eq_of_lt (by omega)]
section
variable {xk xn xc xS xP xt xl xp3 : Int32} {xF xp1 xp2 xN : Int64} {xV xeb xus xbs : Nat → Int32} {xfo xsl xss xws xuf xul xbf xbl : Nat → Int64}
variable {L P k n : Nat} {xs : Nat → Int32} {V st mk : Nat → Nat} {J : Int64 → Int64 → Int32 → Int32 → Int32 → Int32 → Int32 → Int32 → Int64 → Int32 → Int32 → Int32 → Int32 → Int64 → Int64 → Int32 → Int64 → (Nat → Int32) → (Nat → Int64) → (Nat → Int64) → (Nat → Int32) → (Nat → Int64) → (Nat → Int64) → (Nat → Int64) → (Nat → Int64) → (Nat → Int32) → (Nat → Int64) → (Nat → Int64) → (Nat → Int32) → Prop}
theorem ll_513 {q : Nat} {x6 : Int64} {x14 : Int32} {kc ks : Nat} {y : Nat → Nat} (hP : P ≤ 6) (hk : k ≤ 7) (hX : ll_X P k n 0 V mk y xk xn xc xF xS xP xt xl xp1 xp2 xp3 xN xV xfo xsl xeb xss xws xuf xul xus xbf xbl xbs)
    (hJ : J (lN (dg_p 4 (fun i => i) (P + 1))) (lN (dg_p 4 (fun i => i) (P + 1))) 0 (nI (q + 1)) (nI (q + 1)) xk xn xc xF xS xP xt xl xp1 xp2 xp3 xN xV xfo xsl xeb xss xws xuf xul xus xbf xbl xbs) :
    wL_law_513 (fun r => r = 1) L xs J (nI (k + 1)) (nI P) x6 x14 (nI q) kc ks xk xn xc xF xS xP xt xl xp1 xp2 xp3 xN xV xfo xsl xeb xss xws xuf xul xus xbf xbl xbs := by
  obtain ⟨rfl, rfl, rfl, rfl, rfl, hG, hT⟩ := hX
  unfold wL_law_513
  refine lm_init hP (lm_init hP (nm_r (nI_1 q) ?_))
  unfold wpX_isCompiled
  refine ⟨rfl, br_f (by decide) ?_⟩
  unfold wpX_textLength
  refine br_t nI_0 ?_
  refine lx_err (j := 0) (tl := 0) (by omega) hT (Nat.le_refl _) (lm_min (by omega) (by omega) (br_t rfl ?_))
  refine lx_whole hP hk hG hT (lm_min (by omega) (by omega) (br_t rfl (nm_r (nI_1 q) hJ)))
theorem ll_373 {q seg tl : Nat} {x14 x16 x17 : Int32} {kc ks : Nat} (hL : L ≤ 260) (hP0 : 0 < P) (hP : P ≤ 6) (hk : k ≤ 7) (hn0 : 0 < n) (hn : n ≤ 64) (hal : ∀ i, i < n → vd_al (V i)) (hLn : ln_P (vd_W V n) n P st (fun i l => lm_t mk l i = true)) (hm : ∀ i, i < P → mk i < 32)
    (hq : seg + tl = q) (htl : tl < 256) (hqb : q < 1000) (hX : ll_X P k n tl V mk (fun j => ll_t L xs (seg + j)) xk xn xc xF xS xP xt xl xp1 xp2 xp3 xN xV xfo xsl xeb xss xws xuf xul xus xbf xbl xbs)
    (hJ : x16 = 0 → ∀ (xk : Int32) (xn : Int32) (xc : Int32) (xF : Int64) (xS : Int32) (xP : Int32) (xt : Int32) (xl : Int32) (xp1 : Int64) (xp2 : Int64) (xp3 : Int32) (xN : Int64) (xV : Nat → Int32) (xfo : Nat → Int64) (xsl : Nat → Int64) (xeb : Nat → Int32) (xss : Nat → Int64) (xws : Nat → Int64) (xuf : Nat → Int64) (xul : Nat → Int64) (xus : Nat → Int32) (xbf : Nat → Int64) (xbl : Nat → Int64) (xbs : Nat → Int32), ll_X P k n 0 V mk (fun j => ll_t L xs (q + 1 + j)) xk xn xc xF xS xP xt xl xp1 xp2 xp3 xN xV xfo xsl xeb xss xws xuf xul xus xbf xbl xbs → J (lN (dg_p 4 (fun i => i) (P + 1))) (lN (dg_p 4 (fun i => i) (P + 1))) 0 (nI (q + 1)) (nI (q + 1)) xk xn xc xF xS xP xt xl xp1 xp2 xp3 xN xV xfo xsl xeb xss xws xuf xul xus xbf xbl xbs) :
    ∀ d j, j + d = tl → wL_law_373 (fun r => r = 1) L xs J (nI (k + 1)) (nI P) (lN (dg_p 5 mk P)) x14 (nI q) x16 x17 kc ks xk xn xc xF xS xP xt xl xp1 xp2 xp3 xN xV xfo xsl xeb xss xws xuf xul xus xbf xbl xbs (d + 1) (lN (dg_p 4 (lx_D mk (fun j => ll_t L xs (seg + j)) j) (P + 1))) (nI j) (nI (seg + j)) := by
  obtain ⟨rfl, rfl, rfl, rfl, rfl, hG, hT⟩ := hX
  intro d
  induction d with
  | zero =>
    intro j hj
    have : j = tl := by omega
    subst this
    rw [wL_law_373]
    refine br_t (nI_le (by omega) (by omega)) ?_
    unfold wpX_textLength
    refine br_t rfl ?_
    refine lx_err (j := 0) (by omega) hT (Nat.zero_le _) (lm_min (by omega) (by omega) (br_t rfl (br_c (fun z => ?_) (fun z => rfl))))
    refine br_c (fun z' => ?_) (fun z' => ?_)
    · refine lx_reset (y := fun j => ll_t L xs (q + 1 + j)) hP hk hG ?_
      intro xeb xss xws hT'
      have hX' : ll_X P k n 0 V mk (fun j => ll_t L xs (q + 1 + j)) (nI k) (nI n) 1 xF xS xP 0 xl xp1 xp2 xp3 xN (fun i => nI (V i)) xfo xsl xeb xss xws xuf xul xus xbf xbl xbs := ⟨rfl, rfl, rfl, rfl, nI_0.symm, hG, hT'⟩
      exact ll_513 hP hk hX' (hJ z _ _ _ _ _ _ _ _ _ _ _ _ _ _ _ _ _ _ _ _ _ _ _ _ hX')
    · refine lx_compile (y := fun j => ll_t L xs (q + 1 + j)) hP0 hP hk hn0 hn hal hLn ?_
      intro xF xS xl xp1 xp2 xp3 xN xfo xsl xeb xss xws xuf xul xus xbf xbl xbs hG' hT'
      have hX' : ll_X P k n 0 V mk (fun j => ll_t L xs (q + 1 + j)) (nI k) (nI n) 1 xF xS (nI P) 0 xl xp1 xp2 xp3 xN (fun i => nI (V i)) xfo xsl xeb xss xws xuf xul xus xbf xbl xbs := ⟨rfl, rfl, rfl, rfl, nI_0.symm, hG', hT'⟩
      exact br_t rfl (ll_513 hP hk hX' (hJ z _ _ _ _ _ _ _ _ _ _ _ _ _ _ _ _ _ _ _ _ _ _ _ _ hX'))
  | succ d ih =>
    intro j hj
    rw [wL_law_373]
    refine br_f (nI_ge (by omega) (by omega)) (br_f (nI_ge (b := 256) (by omega) (by omega)) ?_)
    refine lm_cell hL (by omega) (lm_md (m := 16) (by omega) (by omega) (lm_md (m := 5) (by omega) (by omega) (nm_r (nI_1 j) ?_)))
    refine lm_step (first := 0) (x := ll_t L xs (seg + j)) hP (lm_lt _ (by omega) (by omega)) (fun i hi => lx_D9 _ _ (by omega)) (by omega) hm ?_
    refine lx_err (j := j + 1) (by omega) hT (by omega) (lm_get (f := lx_D mk (fun j => ll_t L xs (seg + j)) (j + 1)) (n := P + 1) (i := P) (fun i hi => by have := lx_D9 mk (fun j => ll_t L xs (seg + j)) (j := j + 1) (i := i) (by omega); omega) (by omega) (by omega) ?_)
    have h9 := lx_D9 mk (fun j => ll_t L xs (seg + j)) (j := j + 1) (i := P) hP
    exact lm_min (by omega) (by omega) (br_t rfl (nm_r (nI_1 (seg + j)) (ih (j + 1) (by omega))))
end
end
section
/-! The law's main loop. -/
section
variable {xk xn xc xS xP xt xl xp3 : Int32} {xF xp1 xp2 xN : Int64} {xV xeb xus xbs : Nat → Int32} {xfo xsl xss xws xuf xul xbf xbl : Nat → Int64}
variable {L P k n : Nat} {xs : Nat → Int32} {V st mk : Nat → Nat}
theorem ll_305 {e kc ks : Nat} (hL : L ≤ 260) (he : e ≤ 260) (hP0 : 0 < P) (hP : P ≤ 6) (hk : k ≤ 7) (hn0 : 0 < n) (hn : n ≤ 64) (hal : ∀ i, i < n → vd_al (V i)) (hLn : ln_P (vd_W V n) n P st (fun i l => lm_t mk l i = true)) (hm : ∀ i, i < P → mk i < 32) :
    ∀ d seg tl, seg + tl + d = e → 8 ≤ seg → ∀ (xk : Int32) (xn : Int32) (xc : Int32) (xF : Int64) (xS : Int32) (xP : Int32) (xt : Int32) (xl : Int32) (xp1 : Int64) (xp2 : Int64) (xp3 : Int32) (xN : Int64) (xV : Nat → Int32) (xfo : Nat → Int64) (xsl : Nat → Int64) (xeb : Nat → Int32) (xss : Nat → Int64) (xws : Nat → Int64) (xuf : Nat → Int64) (xul : Nat → Int64) (xus : Nat → Int32) (xbf : Nat → Int64) (xbl : Nat → Int64) (xbs : Nat → Int32), ll_X P k n tl V mk (fun j => ll_t L xs (seg + j)) xk xn xc xF xS xP xt xl xp1 xp2 xp3 xN xV xfo xsl xeb xss xws xuf xul xus xbf xbl xbs →
      wL_law_305 (fun r => r = 1) L xs (nI (k + 1)) (nI P) (lN (dg_p 5 mk P)) (nI e) kc ks (d + 1) (lN (dg_p 4 (lx_D mk (fun j => ll_t L xs (seg + j)) tl) (P + 1))) (lN (dg_p 4 (lx_W mk (fun j => ll_t L xs (seg + j)) tl) (P + 1))) (nI tl) (nI seg) (nI (seg + tl)) xk xn xc xF xS xP xt xl xp1 xp2 xp3 xN xV xfo xsl xeb xss xws xuf xul xus xbf xbl xbs := by
  intro d
  induction d with
  | zero =>
    intro seg tl hs h8
    intro xk xn xc xF xS xP xt xl xp1 xp2 xp3 xN xV xfo xsl xeb xss xws xuf xul xus xbf xbl xbs hX
    rw [wL_law_305]
    refine br_f (nI_nlt (by omega) (by omega)) (br_t (by rw [← hs]; rfl) ?_)
    unfold wL_law_324
    refine br_f (by decide) ?_
    unfold wL_law_346
    refine br_f (by decide) ?_
    unfold wL_law_359
    refine lm_init hP ⟨tl + 1, ?_⟩
    exact ll_373 (seg := seg) (tl := tl) hL hP0 hP hk hn0 hn hal hLn hm rfl (by omega) (by omega) hX (fun z => absurd z (by decide)) tl 0 (by omega)
  | succ d ih =>
    intro seg tl hs h8
    intro xk xn xc xF xS xP xt xl xp1 xp2 xp3 xN xV xfo xsl xeb xss xws xuf xul xus xbf xbl xbs hX
    have hX' := hX
    rw [wL_law_305]
    refine br_f (nI_nlt (by omega) (by omega)) (br_f (fun z => ?_) ?_)
    · have := (nI_eq (by omega) (by omega)).mp z; omega
    unfold wL_law_324
    refine br_t rfl (lm_cell hL (by omega) (lm_md (m := 16) (by omega) (by omega) ?_))
    have hr := lm_lt (lm_c L xs (seg + tl)) (m := 16) (by omega) (by omega)
    unfold wL_law_346
    refine br_t rfl (pk_le 2 (lm_r (lm_c L xs (seg + tl)) 16) (fun h2 => ?_) (fun h2 => ?_))
    · obtain ⟨rfl, rfl, rfl, rfl, rfl, hG, hT⟩ := hX
      refine lm_md (m := 5) (by omega) (by omega) ?_
      have hl5 : ll_t L xs (seg + tl) < 5 := lm_lt _ (by omega) (by omega)
      have hch := ll_ch (v := ll_t L xs (seg + tl)) (by omega)
      unfold ll_t at hch
      rw [hch]
      refine lx_feed (y := fun j => ll_t L xs (seg + j)) (tl := tl) (l := ll_t L xs (seg + tl)) hP hk (by omega) hl5 rfl hG hT ?_
      intro xeb xss xws hT'
      refine pk_eq tl 256 (fun z => by omega) (fun _ => nm_r (nI_1 tl) ?_)
      refine lm_step (first := 0) (x := ll_t L xs (seg + tl)) hP hl5 (fun i hi => lx_D9 _ _ (by omega)) (by omega) hm ?_
      refine lm_min (a := 9) (by omega) (by omega) ?_
      refine lm_step (x := ll_t L xs (seg + tl)) hP hl5 (fun i hi => lx_W9 _ _ (by omega)) (Nat.min_le_left _ _) hm ?_
      have hD9 : ∀ i, i < P + 1 → lx_D mk (fun j => ll_t L xs (seg + j)) (tl + 1) i < 16 := fun i hi => by have := lx_D9 mk (fun j => ll_t L xs (seg + j)) (j := tl + 1) (i := i) (by omega); omega
      have hW9 : ∀ i, i < P + 1 → lx_W mk (fun j => ll_t L xs (seg + j)) (tl + 1) i < 16 := fun i hi => by have := lx_W9 mk (fun j => ll_t L xs (seg + j)) (j := tl + 1) (i := i) (by omega); omega
      have hDP := hD9 P (by omega)
      have hWP := hW9 P (by omega)
      refine lm_get (f := lx_D mk (fun j => ll_t L xs (seg + j)) (tl + 1)) (n := P + 1) (i := P) hD9 (by omega) (by omega) (lm_min (by omega) (by omega) (br_t rfl ?_))
      refine lx_err (j := tl + 1) (tl := tl + 1) (by omega) hT' (Nat.le_refl _) (br_t rfl ?_)
      refine lx_whole hP hk hG hT' (lm_get (f := lx_W mk (fun j => ll_t L xs (seg + j)) (tl + 1)) (n := P + 1) (i := P) hW9 (by omega) (by omega) (lm_min (by omega) (by omega) (br_t rfl ?_)))
      unfold wpX_textLength
      refine br_t rfl ?_
      unfold wpX_isCompiled
      refine ⟨rfl, br_f (by decide) (nm_r (nI_1 (seg + tl)) ?_)⟩
      exact ih seg (tl + 1) (by omega) h8 _ _ _ _ _ _ _ _ _ _ _ _ _ _ _ _ _ _ _ _ _ _ _ _ ⟨rfl, rfl, rfl, rfl, rfl, hG, hT'⟩
    · unfold wL_law_359
      refine lm_init hP ⟨tl + 1, ?_⟩
      refine ll_373 (seg := seg) (tl := tl) hL hP0 hP hk hn0 hn hal hLn hm rfl (by omega) (by omega) hX' (fun _ => ?_) tl 0 (by omega)
      intro xk xn xc xF xS xP xt xl xp1 xp2 xp3 xN xV xfo xsl xeb xss xws xuf xul xus xbf xbl xbs hX2
      exact ih (seg + tl + 1) 0 (by omega) (by omega) _ _ _ _ _ _ _ _ _ _ _ _ _ _ _ _ _ _ _ _ _ _ _ _ hX2
end
end
section
/-! The law types its pattern. -/
def lk_m (c : Nat) : Nat := if c % 4 ≤ 1 then 2 ^ (c / 4 % 4) else if c % 4 = 2 then 31 else c / 4 % 15 + 1
theorem lk_m32 (c : Nat) : lk_m c < 32 := by
  unfold lk_m
  split
  · have h : c / 4 % 4 < 4 := Nat.mod_lt _ (by omega)
    have : 2 ^ (c / 4 % 4) ≤ 2 ^ 3 := Nat.pow_le_pow_right (by omega) (by omega)
    omega
  · split <;> omega
def lk_k (L : Nat) (xs : Nat → Int32) (i : Nat) : Nat := lk_m (lm_r (lm_c L xs (2 + i)) 64)
def lk_s (V : Nat → Nat) : Nat → Nat := fun x => V (x - 1)
theorem lk_Ac {W W' : Nat → Nat} {a b : Nat} {M : Nat → Prop} (h : ln_A W a b M) (e : ∀ x, a ≤ x → x < b → W' x = W x) : ln_A W' a b M := by
  have hlt := ln_lt h
  rcases h with ⟨h1, h2, h3⟩ | ⟨h1, h2, h3⟩ | ⟨h1, h2, h3, h4, h5⟩
  · left; rw [e a (Nat.le_refl _) hlt]; exact ⟨h1, h2, h3⟩
  · right; left; rw [e a (Nat.le_refl _) hlt]; exact ⟨h1, h2, h3⟩
  · right; right
    rw [e a (Nat.le_refl _) hlt, e (b - 1) (by omega) (by omega)]
    refine ⟨h1, h2, h3, fun x x1 x2 => by rw [e x (by omega) (by omega)]; exact h4 x x1 x2, fun l hl => ?_⟩
    rw [h5 l hl]
    constructor
    · rintro ⟨x, x1, x2, x3⟩; exact ⟨x, x1, x2, by rw [e x (by omega) (by omega)]; exact x3⟩
    · rintro ⟨x, x1, x2, x3⟩; exact ⟨x, x1, x2, by rw [e x (by omega) (by omega)] at x3; exact x3⟩
/-- i atoms stand in the pattern V of n characters -/
def lk_B (mk : Nat → Nat) (i n : Nat) (V : Nat → Nat) : Prop :=
  ∃ st : Nat → Nat, st 0 = 1 ∧ st i = n + 1 ∧ (∀ j, j < i → ln_A (lk_s V) (st j) (st (j + 1)) (fun l => lm_t mk l j = true)) ∧ (∀ j, j ≤ i → 1 ≤ st j ∧ st j ≤ n + 1) ∧ n ≤ 6 * i ∧ (0 < i → 0 < n) ∧ ∀ x, x < n → vd_al (V x)
theorem lk_B0 {mk V : Nat → Nat} : lk_B mk 0 0 V := ⟨fun _ => 1, rfl, rfl, fun j h => absurd h (by omega), fun j _ => ⟨Nat.le_refl _, Nat.le_refl _⟩, by omega, fun h => absurd h (by omega), fun x h => absurd h (by omega)⟩
theorem lk_B1 {mk : Nat → Nat} {i n n' : Nat} {V V' : Nat → Nat} (h : lk_B mk i n V) (hn : n < n') (hn' : n' ≤ n + 6) (e : ∀ x, x < n → V' x = V x) (ha : ∀ x, n ≤ x → x < n' → vd_al (V' x)) (hA : ln_A (lk_s V') (n + 1) (n' + 1) (fun l => lm_t mk l i = true)) : lk_B mk (i + 1) n' V' := by
  obtain ⟨st, h1, h2, h3, h4, h5, h6, h7⟩ := h
  refine ⟨fun j => if j = i + 1 then n' + 1 else st j, ?_, ?_, fun j hj => ?_, fun j hj => ?_, by omega, fun _ => by omega, fun x hx => ?_⟩
  · dsimp only; rw [if_neg (by omega)]; exact h1
  · simp
  · by_cases c : j = i
    · subst c
      dsimp only
      rw [if_neg (by omega), if_pos rfl, h2]
      exact hA
    · dsimp only
      rw [if_neg (by omega), if_neg (by omega)]
      have q := h4 (j + 1) (by omega)
      have q0 := h4 j (by omega)
      exact lk_Ac (h3 j (by omega)) (fun x x1 x2 => e (x - 1) (by omega))
  · dsimp only
    by_cases c : j = i + 1
    · rw [if_pos c]; omega
    · rw [if_neg c]; have := h4 j (by omega); omega
  · by_cases c : x < n
    · rw [e x c]; exact h7 x c
    · exact ha x (by omega) hx
theorem lk_P {mk : Nat → Nat} {P n : Nat} {V : Nat → Nat} (h : lk_B mk P n V) : ∃ st, ln_P (vd_W V n) n P st (fun i l => lm_t mk l i = true) := by
  obtain ⟨st, h1, h2, h3, h4, -⟩ := h
  refine ⟨st, h1, h2, fun i hi => lk_Ac (h3 i hi) (fun x x1 x2 => ?_)⟩
  have q := h4 (i + 1) (by omega)
  have q0 := h4 i (by omega)
  unfold vd_W lk_s
  rw [if_neg (by omega), if_neg (by omega)]
section
variable {xk xn xc xS xP xt xl xp3 : Int32} {xF xp1 xp2 xN : Int64} {xV xeb xus xbs : Nat → Int32} {xfo xsl xss xws xuf xul xbf xbl : Nat → Int64}
variable {L P k : Nat} {xs : Nat → Int32} {J : Int64 → Int32 → Int32 → Int32 → Int32 → Int64 → Int32 → Int32 → Int32 → Int32 → Int64 → Int64 → Int32 → Int64 → (Nat → Int32) → (Nat → Int64) → (Nat → Int64) → (Nat → Int32) → (Nat → Int64) → (Nat → Int64) → (Nat → Int64) → (Nat → Int64) → (Nat → Int32) → (Nat → Int64) → (Nat → Int64) → (Nat → Int32) → Prop}
theorem lk_233 {mk : Nat → Nat} {i kc ks : Nat} {x3 x5 : Int32} (hi : i < 6) (hm : ∀ j, mk j < 32) (h : J (lN (dg_p 5 mk (i + 1))) (nI (i + 1)) xk xn xc xF xS xP xt xl xp1 xp2 xp3 xN xV xfo xsl xeb xss xws xuf xul xus xbf xbl xbs) :
    wL_law_233 (fun r => r = 1) L xs J x3 x5 (lN (dg_p 5 mk i)) (nI i) (nI (mk i)) kc ks xk xn xc xF xS xP xt xl xp1 xp2 xp3 xN xV xfo xsl xeb xss xws xuf xul xus xbf xbl xbs := by
  unfold wL_law_233
  refine nm_r (e' := lN (dg_p 5 mk (i + 1))) ?_ (nm_r (nI_1 i) h)
  have e1 := lm_sh (a := mk i) (k := i) (by have := hm i; omega) (by omega) 5 (by omega)
  have e5 : nI 5 = (5 : Int32) := rfl
  rw [e5] at e1
  rw [e1]
  exact dg_or (w := 5) (fun j _ => hm j) (by omega)
/-- the letters of a class -/
theorem lk_187 {mk : Nat → Nat} {i n0 cm kc ks : Nat} {x3 x5 : Int32} {V0 : Nat → Nat} (hi : i < 6) (hm : ∀ j, mk j < 32) (hmi : mk i = cm) (hcm : 1 ≤ cm ∧ cm ≤ 15) (hB : lk_B mk i n0 V0) (hn0 : n0 ≤ 36)
    (h : ∀ (n : Nat) (V : Nat → Nat), lk_B mk (i + 1) n V → ∀ (xk : Int32) (xn : Int32) (xc : Int32) (xF : Int64) (xS : Int32) (xP : Int32) (xt : Int32) (xl : Int32) (xp1 : Int64) (xp2 : Int64) (xp3 : Int32) (xN : Int64) (xV : Nat → Int32) (xfo : Nat → Int64) (xsl : Nat → Int64) (xeb : Nat → Int32) (xss : Nat → Int64) (xws : Nat → Int64) (xuf : Nat → Int64) (xul : Nat → Int64) (xus : Nat → Int32) (xbf : Nat → Int64) (xbl : Nat → Int64) (xbs : Nat → Int32), xk = nI k → xn = nI n → xV = (fun i => nI (V i)) → J (lN (dg_p 5 mk (i + 1))) (nI (i + 1)) xk xn xc xF xS xP xt xl xp1 xp2 xp3 xN xV xfo xsl xeb xss xws xuf xul xus xbf xbl xbs) :
    ∀ d b, b + d = 4 → ∀ (n : Nat) (V : Nat → Nat), n0 < n → n ≤ n0 + 1 + b → (∀ x, x < n0 → V x = V0 x) → V n0 = 91 → (∀ x, n0 < x → x < n → 97 ≤ V x ∧ V x < 97 + b) → (∀ l, l < b → (cm / 2 ^ l % 2 = 1 ↔ ∃ x, n0 < x ∧ x < n ∧ V x = 97 + l)) →
      ∀ (xk : Int32) (xn : Int32) (xc : Int32) (xF : Int64) (xS : Int32) (xP : Int32) (xt : Int32) (xl : Int32) (xp1 : Int64) (xp2 : Int64) (xp3 : Int32) (xN : Int64) (xV : Nat → Int32) (xfo : Nat → Int64) (xsl : Nat → Int64) (xeb : Nat → Int32) (xss : Nat → Int64) (xws : Nat → Int64) (xuf : Nat → Int64) (xul : Nat → Int64) (xus : Nat → Int32) (xbf : Nat → Int64) (xbl : Nat → Int64) (xbs : Nat → Int32), xk = nI k → xn = nI n → xV = (fun i => nI (V i)) → wL_law_187 (fun r => r = 1) L xs J x3 x5 (lN (dg_p 5 mk i)) (nI i) (nI cm) kc ks (d + 1) (nI b) xk xn xc xF xS xP xt xl xp1 xp2 xp3 xN xV xfo xsl xeb xss xws xuf xul xus xbf xbl xbs := by
  intro d
  induction d with
  | zero =>
    intro b hb n V h1 h2 h3 h4 h5 h6
    intro xk xn xc xF xS xP xt xl xp1 xp2 xp3 xN xV xfo xsl xeb xss xws xuf xul xus xbf xbl xbs ek en eV
    have : b = 4 := by omega
    subst this
    subst en eV
    rw [wL_law_187]
    refine br_t (by decide) ?_
    refine lx_pc (c := 93) (by omega) (by omega) ?_
    have e := hmi
    rw [← hmi]
    refine lk_233 hi hm (h (n + 1) _ (lk_B1 hB (by omega) (by omega) (fun x hx => ?_) (fun x x1 x2 => ?_) ?_) _ _ _ _ _ _ _ _ _ _ _ _ _ _ _ _ _ _ _ _ _ _ _ _ ek rfl rfl)
    · rw [if_neg (by omega)]; exact h3 x hx
    · by_cases c : x = n
      · rw [if_pos c]; omega
      · rw [if_neg c]
        by_cases c' : x = n0
        · rw [c', h4]; omega
        · have := h5 x (by omega) (by omega); omega
    · right; right
      have hne : n0 + 1 < n := by
        by_cases c : n0 + 1 < n
        · exact c
        · exfalso
          have nb : ∀ l, l < 4 → ¬ cm / 2 ^ l % 2 = 1 := fun l hl q => by
            obtain ⟨x, x1, x2, -⟩ := (h6 l hl).mp q
            omega
          have b0 := nb 0 (by omega)
          have b1 := nb 1 (by omega)
          have b2 := nb 2 (by omega)
          have b3 := nb 3 (by omega)
          simp only [Nat.pow_zero, Nat.pow_one, Nat.div_one, show (2 : Nat) ^ 2 = 4 from rfl, show (2 : Nat) ^ 3 = 8 from rfl] at b0 b1 b2 b3
          omega
      have lm1 : ∀ x, x ≠ n → (if x = n then 93 else V x) = V x := fun x hx => if_neg hx
      have lm0 : ∀ x, 1 ≤ x → x ≠ n + 1 → lk_s (fun i => if i = n then 93 else V i) x = V (x - 1) := fun x x1 hx => lm1 (x - 1) (by omega)
      have lmn : lk_s (fun i => if i = n then 93 else V i) (n + 1) = 93 := if_pos rfl
      refine ⟨?_, by omega, ?_, fun x x1 x2 => ?_, fun l hl => ?_⟩
      · rw [lm0 (n0 + 1) (by omega) (by omega), Nat.add_sub_cancel]; exact h4
      · rw [Nat.add_sub_cancel]; exact lmn
      · rw [lm0 x (by omega) (by omega)]
        have := h5 (x - 1) (by omega) (by omega); omega
      · show lm_t mk l i = true ↔ _
        unfold lm_t
        rw [decide_eq_true_iff, hmi]
        by_cases c : l < 4
        · rw [h6 l c]
          constructor
          · rintro ⟨x, x1, x2, x3⟩
            refine ⟨x + 1, by omega, by omega, ?_⟩
            rw [lm0 (x + 1) (by omega) (by omega), Nat.add_sub_cancel]; exact x3
          · rintro ⟨x, x1, x2, x3⟩
            rw [lm0 x (by omega) (by omega)] at x3
            exact ⟨x - 1, by omega, by omega, x3⟩
        · have : l = 4 := by omega
          subst this
          constructor
          · intro q
            rw [show (2 : Nat) ^ 4 = 16 from rfl] at q
            omega
          · rintro ⟨x, x1, x2, x3⟩
            rw [lm0 x (by omega) (by omega)] at x3
            have := h5 (x - 1) (by omega) (by omega); omega
  | succ d ih =>
    intro b hb n V h1 h2 h3 h4 h5 h6
    intro xk xn xc xF xS xP xt xl xp1 xp2 xp3 xN xV xfo xsl xeb xss xws xuf xul xus xbf xbl xbs ek en eV
    subst en eV
    rw [wL_law_187]
    refine br_f (nI_ge (b := 4) (by omega) (by omega)) ?_
    have hbit := lm_bit (k := cm) (x := b) (by omega) (by omega)
    by_cases c : cm / 2 ^ b % 2 = 1
    · refine br_f (fun q => hbit.mp q c) ?_
      rw [ll_ch (by omega)]
      refine lx_pc (by omega) (by omega) (nm_r (nI_1 b) (ih (b + 1) (by omega) (n + 1) _ (by omega) (by omega) (fun x hx => ?_) ?_ (fun x x1 x2 => ?_) (fun l hl => ?_) _ _ _ _ _ _ _ _ _ _ _ _ _ _ _ _ _ _ _ _ _ _ _ _ ek rfl rfl))
      · rw [if_neg (by omega)]; exact h3 x hx
      · rw [if_neg (by omega)]; exact h4
      · by_cases z : x = n
        · rw [if_pos z]; omega
        · rw [if_neg z]; have := h5 x x1 (by omega); omega
      · by_cases z : l = b
        · subst z
          exact ⟨fun _ => ⟨n, by omega, by omega, if_pos rfl⟩, fun _ => c⟩
        · rw [h6 l (by omega)]
          constructor
          · rintro ⟨x, x1, x2, x3⟩; exact ⟨x, x1, by omega, by rw [if_neg (by omega)]; exact x3⟩
          · rintro ⟨x, x1, x2, x3⟩
            by_cases y : x = n
            · rw [if_pos y] at x3; omega
            · rw [if_neg y] at x3; exact ⟨x, x1, by omega, x3⟩
    · refine br_t (hbit.mpr c) (nm_r (nI_1 b) (ih (b + 1) (by omega) n V h1 (by omega) h3 h4 (fun x x1 x2 => ?_) (fun l hl => ?_) _ _ _ _ _ _ _ _ _ _ _ _ _ _ _ _ _ _ _ _ _ _ _ _ ek rfl rfl))
      · have := h5 x x1 x2; omega
      · by_cases z : l = b
        · subst z
          refine ⟨fun q => absurd q c, ?_⟩
          rintro ⟨x, x1, x2, x3⟩
          have := h5 x x1 x2; omega
        · exact h6 l (by omega)
end
end
section
/-! The law from its head. -/
theorem lk_pw : ∀ w, w < 4 → ∀ l, l < 5 → (2 ^ w / 2 ^ l % 2 = 1 ↔ w = l) := by decide
theorem lk_31 : ∀ l, l < 5 → 31 / 2 ^ l % 2 = 1 := by decide
section
variable {xk xn xc xS xP xt xl xp3 : Int32} {xF xp1 xp2 xN : Int64} {xV xeb xus xbs : Nat → Int32} {xfo xsl xss xws xuf xul xbf xbl : Nat → Int64}
variable {L P k : Nat} {xs : Nat → Int32}
theorem lk_79 {kc ks : Nat} (hL : L ≤ 260) (hP0 : 0 < P) (hP : P ≤ 6) (hk : k ≤ 7) :
    ∀ d i, i + d = P → ∀ (n : Nat) (V : Nat → Nat), lk_B (lk_k L xs) i n V → ∀ (xk : Int32) (xn : Int32) (xc : Int32) (xF : Int64) (xS : Int32) (xP : Int32) (xt : Int32) (xl : Int32) (xp1 : Int64) (xp2 : Int64) (xp3 : Int32) (xN : Int64) (xV : Nat → Int32) (xfo : Nat → Int64) (xsl : Nat → Int64) (xeb : Nat → Int32) (xss : Nat → Int64) (xws : Nat → Int64) (xuf : Nat → Int64) (xul : Nat → Int64) (xus : Nat → Int32) (xbf : Nat → Int64) (xbl : Nat → Int64) (xbs : Nat → Int32), xk = nI k → xn = nI n → xV = (fun i => nI (V i)) →
      wL_law_79 (fun r => r = 1) L xs (nI (k + 1)) (nI P) kc ks (d + 1) (lN (dg_p 5 (lk_k L xs) i)) (nI i) xk xn xc xF xS xP xt xl xp1 xp2 xp3 xN xV xfo xsl xeb xss xws xuf xul xus xbf xbl xbs := by
  have hm : ∀ j, lk_k L xs j < 32 := fun j => lk_m32 _
  intro d
  induction d with
  | zero =>
    intro i hi n V hB
    intro xk xn xc xF xS xP xt xl xp1 xp2 xp3 xN xV xfo xsl xeb xss xws xuf xul xus xbf xbl xbs ek en eV
    have : i = P := by omega
    subst this
    subst ek en eV
    obtain ⟨st, hLn⟩ := lk_P hB
    obtain ⟨_, _, _, _, _, b5, b6, b7⟩ := hB
    rw [wL_law_79]
    refine br_t (nI_le (Nat.le_refl _) (by omega)) ?_
    refine lx_compile (y := fun j => ll_t L xs (8 + j)) hP0 hP hk (b6 hP0) (by omega) b7 hLn ?_
    intro xF xS xl xp1 xp2 xp3 xN xfo xsl xeb xss xws xuf xul xus xbf xbl xbs hG hT
    refine br_t rfl (lm_init hP (lm_init hP ?_))
    have go : ∀ e, 8 ≤ e → e ≤ 260 → ∀ (xk : Int32) (xn : Int32) (xc : Int32) (xF : Int64) (xS : Int32) (xP : Int32) (xt : Int32) (xl : Int32) (xp1 : Int64) (xp2 : Int64) (xp3 : Int32) (xN : Int64) (xV : Nat → Int32) (xfo : Nat → Int64) (xsl : Nat → Int64) (xeb : Nat → Int32) (xss : Nat → Int64) (xws : Nat → Int64) (xuf : Nat → Int64) (xul : Nat → Int64) (xus : Nat → Int32) (xbf : Nat → Int64) (xbl : Nat → Int64) (xbs : Nat → Int32), ll_X i k n 0 V (lk_k L xs) (fun j => ll_t L xs (8 + j)) xk xn xc xF xS xP xt xl xp1 xp2 xp3 xN xV xfo xsl xeb xss xws xuf xul xus xbf xbl xbs →
        ∃ fu, wL_law_305 (fun r => r = 1) L xs (nI (k + 1)) (nI i) (lN (dg_p 5 (lk_k L xs) i)) (nI e) kc ks fu (lN (dg_p 4 (fun i => i) (i + 1))) (lN (dg_p 4 (fun i => i) (i + 1))) (nI 0) (nI 8) (nI 8) xk xn xc xF xS xP xt xl xp1 xp2 xp3 xN xV xfo xsl xeb xss xws xuf xul xus xbf xbl xbs := by
      intro e e1 e2
      intro xk xn xc xF xS xP xt xl xp1 xp2 xp3 xN xV xfo xsl xeb xss xws xuf xul xus xbf xbl xbs hX
      exact ⟨e - 8 + 1, ll_305 hL e2 hP0 hP hk (b6 hP0) (by omega) b7 hLn (fun j _ => hm j) (e - 8) 8 0 (by omega) (by omega) _ _ _ _ _ _ _ _ _ _ _ _ _ _ _ _ _ _ _ _ _ _ _ _ hX⟩
    refine pk_le L 8 (fun q => ?_) (fun q => nm_e ?_)
    · exact go 8 (by omega) (by omega) _ _ _ _ _ _ _ _ _ _ _ _ _ _ _ _ _ _ _ _ _ _ _ _ ⟨rfl, rfl, rfl, rfl, nI_0.symm, hG, hT⟩
    · exact go L (by omega) hL _ _ _ _ _ _ _ _ _ _ _ _ _ _ _ _ _ _ _ _ _ _ _ _ ⟨rfl, rfl, rfl, rfl, nI_0.symm, hG, hT⟩
  | succ d ih =>
    intro i hi n V hB
    intro xk xn xc xF xS xP xt xl xp1 xp2 xp3 xN xV xfo xsl xeb xss xws xuf xul xus xbf xbl xbs ek en eV
    subst ek en eV
    have hB' := hB
    obtain ⟨_, _, _, _, _, b5, b6, b7⟩ := hB
    rw [wL_law_79]
    refine br_f (nI_ge (by omega) (by omega)) ?_
    have e2 : (2 : Int32) + nI i = nI (2 + i) := nI_add 2 i
    rw [e2]
    refine lm_cell hL (by omega) (lm_md (m := 64) (by omega) (by omega) ?_)
    have hc := lm_lt (lm_c L xs (2 + i)) (m := 64) (by omega) (by omega)
    have hmk : lk_k L xs i = lk_m (lm_r (lm_c L xs (2 + i)) 64) := rfl
    generalize lm_r (lm_c L xs (2 + i)) 64 = c at hc hmk ⊢
    refine ⟨by decide, nm_r (pk_rem (a := c) (d := 4) (by omega) (by omega) (by omega)) ⟨by decide, nm_r (pk_div (a := c) (d := 4) (by omega) (by omega) (by omega)) ?_⟩⟩
    have ap : ∀ (cc : Nat), vd_al cc → (cc = 46 ∨ gr_L cc) → (∀ l, l < 5 → (lm_t (lk_k L xs) l i = true ↔ cc = 46 ∨ cc = 97 + l)) → lk_B (lk_k L xs) (i + 1) (n + 1) (fun x => if x = n then cc else V x) := by
      intro cc ha hcc hmt
      refine lk_B1 hB' (by omega) (by omega) (fun x hx => if_neg (by omega)) (fun x x1 x2 => ?_) ?_
      · have : x = n := by omega
        subst this
        simp only [if_true]; exact ha
      · have es : lk_s (fun x => if x = n then cc else V x) (n + 1) = cc := if_pos rfl
        rcases hcc with z | z
        · right; left
          rw [es]
          exact ⟨rfl, z, fun l hl => (hmt l hl).mpr (Or.inl z)⟩
        · left
          rw [es]
          refine ⟨rfl, z, fun l hl => ?_⟩
          show lm_t (lk_k L xs) l i = true ↔ _
          rw [hmt l hl]
          exact ⟨fun q => q.elim (fun q => by omega) id, Or.inr⟩
    refine pk_lt 1 (c % 4) (fun h1 => ?_) (fun h1 => ⟨by decide, nm_r (pk_rem (a := c / 4) (d := 4) (by omega) (by omega) (by omega)) ?_⟩)
    · refine pk_eq (c % 4) 2 (fun h2 => ?_) (fun h2 => ⟨by decide, nm_r (e' := nI (c / 4 % 15 + 1)) ?_ ?_⟩)
      · have em : lk_k L xs i = 31 := by rw [hmk]; unfold lk_m; rw [if_neg (by omega), if_pos h2]
        refine lx_pc (c := 46) (by omega) (by omega) ?_
        have q := lk_233 (L := L) (xs := xs) (J := wL_law_79 (fun r => r = 1) L xs (nI (k + 1)) (nI P) kc ks (d + 1)) (kc := kc) (ks := ks) (x3 := nI (k + 1)) (x5 := nI P) (show i < 6 by omega) hm (ih (i + 1) (by omega) (n + 1) _ (ap 46 (by omega) (Or.inl rfl) (fun l hl => ?_)) (nI k) (nI (n + 1)) 0 xF xS xP 0 xl xp1 xp2 xp3 xN (fun i => nI (if i = n then 46 else V i)) xfo xsl xeb xss xws xuf xul xus xbf xbl xbs rfl rfl rfl)
        · rw [em] at q; exact q
        · unfold lm_t
          rw [decide_eq_true_iff, em]
          exact ⟨fun _ => Or.inl rfl, fun _ => lk_31 l hl⟩
      · have q := pk_rem (a := c / 4) (d := 15) (by omega) (by omega) (by omega)
        have e15 : nI 15 = (15 : Int32) := rfl
        rw [e15] at q
        rw [q, nI_1]
      · have em : lk_k L xs i = c / 4 % 15 + 1 := by rw [hmk]; unfold lk_m; rw [if_neg (by omega), if_neg h2]
        have hmod : c / 4 % 15 < 15 := Nat.mod_lt _ (by omega)
        refine lx_pc (c := 91) (by omega) (by omega) ⟨4 + 1, ?_⟩
        exact lk_187 (k := k) (mk := lk_k L xs) (n0 := n) (V0 := V) (show i < 6 by omega) hm em ⟨by omega, by omega⟩ hB' (by omega)
          (fun n V hb => ih (i + 1) (by omega) n V hb) 4 0 (by omega) (n + 1) (fun x => if x = n then 91 else V x) (by omega) (by omega) (fun x hx => if_neg (by omega)) (if_pos rfl) (fun x x1 x2 => by omega) (fun l hl => by omega) _ _ _ _ _ _ _ _ _ _ _ _ _ _ _ _ _ _ _ _ _ _ _ _ rfl rfl rfl
    · have hw : c / 4 % 4 < 4 := Nat.mod_lt _ (by omega)
      have em : lk_k L xs i = 2 ^ (c / 4 % 4) := by rw [hmk]; unfold lk_m; rw [if_pos (by omega)]
      rw [ll_ch (by omega)]
      refine lx_pc (by omega) (by omega) (nm_r (e' := nI (lk_k L xs i)) ?_ ?_)
      · rw [em]
        have q := pk_shlN (n := 1) (nI (c / 4 % 4) &&& 31) (c / 4 % 4) (s_l _ (by omega)) (by have : 2 ^ (c / 4 % 4) ≤ 2 ^ 3 := Nat.pow_le_pow_right (by omega) (by omega); omega)
        rw [Nat.one_mul] at q
        exact q
      · refine lk_233 (show i < 6 by omega) hm (ih (i + 1) (by omega) (n + 1) _ (ap (97 + c / 4 % 4) (by omega) (Or.inr (by omega)) (fun l hl => ?_)) _ _ _ _ _ _ _ _ _ _ _ _ _ _ _ _ _ _ _ _ _ _ _ _ rfl rfl rfl)
        unfold lm_t
        rw [decide_eq_true_iff, em, lk_pw _ hw l hl]
        omega
end
theorem lk_init {post : St2 → Prop} {x1 : Int32} {k : Nat} {u : St1} (h : (0 ≤ x1 ∧ x1 ≤ 7 ∧ x1 = nI k) ∨ (0 ≤ x1 ∧ ¬ x1 ≤ 7 ∧ k = 7) ∨ (¬ 0 ≤ x1 ∧ k = 0))
    (hp : post (nI k, 0, 0, 0, 0, 0, 0, 0, 0, 0, 0, 1, (fun _ => 0), (fun _ => 0), (fun _ => 0), (fun _ => 0), (fun _ => 0), (fun _ => 0), (fun _ => 0), (fun _ => 0), (fun _ => 0), (fun _ => 0), (fun _ => 0), (fun _ => 0))) : wpX_init post 12 817 u x1 := by
  obtain ⟨u1, u2, u3, u4, u5, u6, u7, u8, u9, u10, u11, u12⟩ := u
  unfold wpX_init
  refine ⟨by omega, by omega, by omega, by omega, by omega, by omega, by omega, by omega, by omega, by omega, by omega, by omega, by omega, by omega, by omega, by omega, by omega, by omega, by omega, by omega, by omega, by omega, by omega, by omega, ?_⟩
  rcases h with ⟨h1, h2, h3⟩ | ⟨h1, h2, h3⟩ | ⟨h1, h3⟩
  · subst h3; exact br_t h1 (br_t h2 hp)
  · subst h3; exact br_t h1 (br_f h2 hp)
  · subst h3; exact br_f h1 hp
theorem lk_33 {L k : Nat} {xs : Nat → Int32} {x1 : Int32} (hL : L ≤ 260) (hk : k ≤ 7) (h : (0 ≤ x1 ∧ x1 ≤ 7 ∧ x1 = nI k) ∨ (0 ≤ x1 ∧ ¬ x1 ≤ 7 ∧ k = 7) ∨ (¬ 0 ≤ x1 ∧ k = 0)) : wL_law_33 (fun r => r = 1) L xs x1 (nI k) 0 0 := by
  unfold wL_law_33
  refine nm_r (nI_1 k) ⟨by omega, by omega, 12, 817, by omega, by omega, lk_init h ?_⟩
  unfold wpX_getK
  refine br_t rfl (lm_cell (k := 1) hL (by omega) (lm_md (m := 6) (by omega) (by omega) ?_))
  have hr := lm_lt (lm_c L xs 1) (m := 6) (by omega) (by omega)
  refine nm_r (nI_add 1 _) ⟨1 + lm_r (lm_c L xs 1) 6 + 1, ?_⟩
  exact lk_79 hL (by omega) (by omega) hk _ 0 (by omega) 0 (fun _ => 0) lk_B0 _ _ _ _ _ _ _ _ _ _ _ _ _ _ _ _ _ _ _ _ _ _ _ _ rfl rfl rfl
theorem i_vc (xs : Nat → Int32) (L : Nat) (hL : L ≤ 260) : wpL_law (fun r => r = 1) L xs := by
  unfold wpL_law
  refine lm_cell (k := 0) hL (by omega) (lm_md (m := 10) (by omega) (by omega) ?_)
  have hr := lm_lt (lm_c L xs 0) (m := 10) (by omega) (by omega)
  generalize lm_r (lm_c L xs 0) 10 = r at hr ⊢
  cases r with
  | zero =>
    have h0 : ¬ (0 : Int32) ≤ nI 0 - 1 := by decide
    exact nm_e (br_f h0 (lk_33 (k := 0) hL (by omega) (Or.inr (Or.inr ⟨h0, rfl⟩))))
  | succ j =>
    refine nm_r (nI_pred j) ?_
    have h0 : (0 : Int32) ≤ nI j := nI_pos' (by omega)
    refine br_t h0 (pk_le j 7 (fun q => ?_) (fun q => ?_))
    · exact lk_33 (k := j) hL q (Or.inl ⟨h0, nI_le (b := 7) q (by omega), rfl⟩)
    · exact lk_33 (k := 7) hL (by omega) (Or.inr (Or.inl ⟨h0, nI_ge (a := 7) (b := j) q (by omega), rfl⟩))
end
