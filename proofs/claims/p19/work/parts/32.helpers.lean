/-! The law's small methods. -/
def lm_r (v : Int32) (m : Nat) : Nat := if 0 ≤ v - v / nI m * nI m then (v - v / nI m * nI m).toNatClampNeg else (v - v / nI m * nI m + nI m).toNatClampNeg
theorem lm_both (v : Int32) {m : Nat} (h0 : 0 < m) (hm : m < 2 ^ 30) : lm_r v m < m ∧ ((0 ≤ v - v / nI m * nI m) → v - v / nI m * nI m = nI (lm_r v m)) ∧ (¬ (0 ≤ v - v / nI m * nI m) → v - v / nI m * nI m + nI m = nI (lm_r v m)) := by
  have hr := rem_toInt v (nI m)
  rw [nI_toInt (by omega)] at hr
  have hb := tmod_bounds (a := v.toInt) (M := (m : Int)) (by omega)
  rw [← hr] at hb
  unfold lm_r
  by_cases c : 0 ≤ v - v / nI m * nI m
  · rw [if_pos c]
    obtain ⟨j, hj, e⟩ := nI_of (Int32.not_lt.mpr c)
    rw [e, nI_toInt hj] at hb
    rw [e, nI_clamp hj]
    refine ⟨by omega, fun _ => rfl, fun q => absurd ?_ q⟩
    rw [e] at c; exact c
  · rw [if_neg c]
    have h0' : (0 : Int32).toInt = 0 := by decide
    have hneg : (v - v / nI m * nI m).toInt < 0 := by
      have := Int32.lt_iff_toInt_lt.mp (Int32.not_le.mp c)
      omega
    have hs : (v - v / nI m * nI m + nI m).toInt = (v - v / nI m * nI m).toInt + m := by
      rw [Int32.toInt_add, nI_toInt (by omega)]
      exact Int.bmod_eq_of_le (by omega) (by omega)
    have hnn : ¬ (v - v / nI m * nI m + nI m) < 0 := by
      intro q
      have := Int32.lt_iff_toInt_lt.mp q
      omega
    obtain ⟨j, hj, e⟩ := nI_of hnn
    rw [e, nI_toInt hj] at hs
    rw [e, nI_clamp hj]
    exact ⟨by omega, fun q => absurd q c, fun _ => rfl⟩
theorem lm_lt (v : Int32) {m : Nat} (h0 : 0 < m) (hm : m < 2 ^ 30) : lm_r v m < m := (lm_both v h0 hm).1
theorem lm_md {post : Int32 → Prop} {v : Int32} {m : Nat} (h0 : 0 < m) (hm : m < 2 ^ 30) (h : post (nI (lm_r v m))) : wpL_md post () v (nI m) := by
  obtain ⟨-, h1, h2⟩ := lm_both v h0 hm
  unfold wpL_md
  refine ⟨nI_ne0 h0 (by omega), nm_e (br_c (fun c => ?_) (fun c => ?_))⟩
  · rw [h1 c]; exact h
  · rw [h2 c]; exact h
theorem lm_min {post : Int32 → Prop} {a b : Nat} (ha : a < 2 ^ 31) (hb : b < 2 ^ 31) (h : post (nI (min a b))) : wpL_min post () (nI a) (nI b) := by
  unfold wpL_min
  refine pk_le b a (fun q => ?_) (fun q => ?_)
  · rw [Nat.min_eq_right q] at h; exact h
  · rw [Nat.min_eq_left (by omega)] at h; exact h
def lm_c (L : Nat) (xs : Nat → Int32) (k : Nat) : Int32 := if L ≤ k then 0 else xs k
theorem lm_cell {post : Int32 → Prop} {L k : Nat} {xs : Nat → Int32} (hL : L ≤ 260) (hk : k < 2 ^ 31) (h : post (lm_c L xs k)) : wpL_cell post L xs () (nI k) := by
  unfold wpL_cell
  unfold lm_c at h
  refine pk_le L k (fun q => ?_) (fun q => ?_)
  · rw [if_pos q] at h; exact h
  · rw [if_neg (by omega)] at h
    rw [nI_clamp hk]
    exact ⟨vp_in_nI q (by omega), h⟩
theorem lm_sh {a k : Nat} (ha : a < 2 ^ 31) (hk : k < 64) (n : Nat) (e : n * k < 64) : (nI a).toInt64 <<< ((nI n * nI k).toInt64 &&& 63) = lN (a * 2 ^ (n * k)) := by
  rw [pk_mul, nI_l ha]
  exact wb_shl a e
theorem lm_get {post : Int32 → Prop} {f : Nat → Nat} {n i : Nat} (hf : ∀ i, i < n → f i < 16) (hi : i < n) (hn : 4 * n ≤ 63) (h : post (nI (f i))) : wpL_get post () (lN (dg_p 4 f n)) (nI i) := by
  unfold wpL_get
  have h1 := dg_lt (w := 4) n hf
  have h2 : 2 ^ (4 * n) ≤ 2 ^ 63 := Nat.pow_le_pow_right (by omega) hn
  have e1 : (4 : Int32) * nI i = nI (4 * i) := pk_mul 4 i
  have e2 : (15 : Int64) = lN (2 ^ 4 - 1) := rfl
  rw [e1, wb_shr (by omega) (by omega), e2, wb_mask (k := 4) (Nat.lt_of_le_of_lt (Nat.div_le_self _ _) (by omega)) (by omega), lN_i, dg_get (w := 4) n hf i hi]
  exact h
theorem lm_init {post : Int64 → Prop} {P : Nat} (hP : P ≤ 6) (h : post (lN (dg_p 4 (fun i => i) (P + 1)))) : wpL_initCol post () (nI P) := by
  unfold wpL_initCol
  refine pk_loop (fun n i (c : Int64) => wL_initCol_4 post (nI P) n c (nI i)) (fun i c => c = lN (dg_p 4 (fun i => i) i)) (P + 1) 0 0 (by omega) rfl ?_ ?_
  · intro n c hc
    rw [wL_initCol_4]
    subst hc
    exact br_t (nI_lt (by omega) (by omega)) h
  · intro n i c hi hc hn
    rw [wL_initCol_4]
    subst hc
    refine br_f (nI_nlt (by omega) (by omega)) (nm_r (e' := lN (dg_p 4 (fun i => i) (i + 1))) ?_ (nm_r (nI_1 i) (hn _ rfl)))
    have e1 := lm_sh (a := i) (k := i) (by omega) (by omega) 4 (by omega)
    have e4 : nI 4 = (4 : Int32) := rfl
    rw [e4] at e1
    rw [e1]
    exact dg_or (w := 4) (f := fun i => i) (fun j hj => by show j < 16; omega) (by omega)
/-- the atoms that take the letter x in, by the masks -/
def lm_t (mk : Nat → Nat) (x : Nat) : Nat → Bool := fun i => decide (mk i / 2 ^ x % 2 = 1)
theorem lm_bit {k x : Nat} (hk : k < 32) (hx : x < 5) : ((nI k >>> (nI x &&& 31)) &&& 1) = 0 ↔ ¬ k / 2 ^ x % 2 = 1 := by
  have hd : k / 2 ^ x ≤ k := Nat.div_le_self _ _
  rw [pk_shrN (by omega) _ x (s_l x (by omega)), pk_andN (by omega) 1 (by decide)]
  have hm : k / 2 ^ x % 2 ^ 1 < 2 := Nat.mod_lt _ (by omega)
  rw [← nI_0, nI_eq (by omega) (by omega)]
  omega
theorem lm_dc9 {mt : Nat → Bool} {col : Nat → Nat} {first : Nat} (h : first ≤ 9) : ∀ i, dc_s mt col first i ≤ 9 := by
  intro i
  cases i with
  | zero => exact h
  | succ i => exact Nat.min_le_right _ _
theorem lm_step {post : Int64 → Prop} {P x first : Nat} {col mk : Nat → Nat} (hP : P ≤ 6) (hx : x < 5) (hc : ∀ i, i ≤ P → col i ≤ 9) (hf : first ≤ 9) (hm : ∀ i, i < P → mk i < 32)
    (h : post (lN (dg_p 4 (dc_s (lm_t mk x) col first) (P + 1)))) : wpL_step post () (lN (dg_p 4 col (P + 1))) (lN (dg_p 5 mk P)) (nI P) (nI x) (nI first) := by
  have hS := lm_dc9 (mt := lm_t mk x) (col := col) hf
  have hM := dg_lt (w := 5) P (f := mk) hm
  have hM2 : 2 ^ (5 * P) ≤ 2 ^ 63 := Nat.pow_le_pow_right (by omega) (by omega)
  unfold wpL_step
  have e0 : (nI first).toInt64 = lN (dg_p 4 (dc_s (lm_t mk x) col first) 1) := by
    rw [nI_l (by omega)]
    show lN first = lN (0 + first * 2 ^ (4 * 0))
    rw [Nat.mul_zero, Nat.pow_zero, Nat.mul_one, Nat.zero_add]
  rw [e0]
  refine pk_loop (fun n i (s : Int64 × Int32) => wL_step_12 post (lN (dg_p 4 col (P + 1))) (lN (dg_p 5 mk P)) (nI P) (nI x) n s.1 s.2 (nI i))
    (fun i s => 1 ≤ i ∧ s = (lN (dg_p 4 (dc_s (lm_t mk x) col first) i), nI (dc_s (lm_t mk x) col first (i - 1)))) (P + 1) 1 (_, nI first) (by omega) ⟨by omega, rfl⟩ ?_ ?_
  · rintro n s ⟨-, rfl⟩
    dsimp only
    rw [wL_step_12]
    exact br_t (nI_lt (by omega) (by omega)) h
  · rintro n i s hi ⟨h1, rfl⟩ hn
    dsimp only
    rw [wL_step_12]
    obtain ⟨j, rfl⟩ : ∃ j, i = j + 1 := ⟨i - 1, by omega⟩
    rw [Nat.add_sub_cancel] at *
    refine br_f (nI_nlt (by omega) (by omega)) ?_
    rw [nI_pred]
    have e5 : (5 : Int32) * nI j = nI (5 * j) := pk_mul 5 j
    have e31 : (31 : Int64) = lN (2 ^ 5 - 1) := rfl
    rw [e5, wb_shr (by omega) (by omega), e31, wb_mask (k := 5) (Nat.lt_of_le_of_lt (Nat.div_le_self _ _) (by omega)) (by omega), lN_i, dg_get (w := 5) P hm j (by omega)]
    refine nm_e (lm_get (fun i hi => by have := hc i (by omega); omega) (by omega) (by omega) ?_)
    have hcj := hc j (by omega)
    have hcj1 := hc (j + 1) (by omega)
    have hSj := hS j
    have h57 : ∀ z, z = (if lm_t mk x j = true then 0 else 1) → wL_step_57 post (wL_step_12 post (lN (dg_p 4 col (P + 1))) (lN (dg_p 5 mk P)) (nI P) (nI x) n) (lN (dg_p 4 col (P + 1))) (lN (dg_p 5 mk P)) (nI P) (nI x) (lN (dg_p 4 (dc_s (lm_t mk x) col first) (j + 1))) (nI (dc_s (lm_t mk x) col first j)) (nI (j + 1)) (nI z) (nI (col j)) := by
      intro z hz
      have hz1 : z ≤ 1 := by rw [hz]; split <;> omega
      unfold wL_step_57
      refine nm_r (nI_add _ _) (lm_get (fun i hi => by have := hc i (by omega); omega) (by omega) (by omega) ?_)
      rw [nI_1 (col (j + 1)), nI_1 (dc_s (lm_t mk x) col first j)]
      refine lm_min (by omega) (by omega) (lm_min (by omega) (by omega) (lm_min (b := 9) (by omega) (by omega) ?_))
      have ev : min (min (col j + z) (min (col (j + 1) + 1) (dc_s (lm_t mk x) col first j + 1))) 9 = dc_s (lm_t mk x) col first (j + 1) := by rw [hz]; rfl
      rw [ev]
      refine nm_r (e' := lN (dg_p 4 (dc_s (lm_t mk x) col first) (j + 1 + 1))) ?_ (nm_r (nI_1 (j + 1)) (hn (_, _) ⟨by omega, rfl⟩))
      have hSj1 := hS (j + 1)
      have e1 := lm_sh (a := dc_s (lm_t mk x) col first (j + 1)) (k := j + 1) (by omega) (by omega) 4 (by omega)
      have e4 : nI 4 = (4 : Int32) := rfl
      rw [e4] at e1
      rw [e1]
      exact dg_or (w := 4) (fun i _ => by have := hS i; omega) (by omega)
    have hbit := lm_bit (hm j (by omega)) hx
    by_cases c : mk j / 2 ^ x % 2 = 1
    · refine br_f (fun q => hbit.mp q c) (h57 0 ?_)
      rw [if_pos (by unfold lm_t; exact decide_eq_true c)]
    · refine br_t (hbit.mpr c) (h57 1 ?_)
      rw [if_neg (by unfold lm_t; simp [c])]
