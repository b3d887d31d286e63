/-! The law from its head. -/
theorem lk_pw : ∀ w, w < 4 → ∀ l, l < 5 → (2 ^ w / 2 ^ l % 2 = 1 ↔ w = l) := by decide
theorem lk_31 : ∀ l, l < 5 → 31 / 2 ^ l % 2 = 1 := by decide
section
variable {xk xn xc xS xP xt xl xp3 : Int32} {xF xp1 xp2 xN : Int64} {xV xeb xus xbs : Nat → Int32} {xfo xsl xss xws xuf xul xbf xbl : Nat → Int64}
variable {L P k : Nat} {xs : Nat → Int32}
theorem lk_79 {kc ks : Nat} (hL : L ≤ 260) (hP0 : 0 < P) (hP : P ≤ 6) (hk : k ≤ 7) :
    ∀ d i, i + d = P → ∀ (n : Nat) (V : Nat → Nat), lk_B (lk_k L xs) i n V → ∀ (xk : Int32) (xn : Int32) (xc : Int32) (xF : Int64) (xS : Int32) (xP : Int32) (xt : Int32) (xl : Int32) (xp1 : Int64) (xp2 : Int64) (xp3 : Int32) (xN : Int64) (xV : Nat → Int32) (xfo : Nat → Int64) (xsl : Nat → Int64) (xeb : Nat → Int32) (xss : Nat → Int64) (xws : Nat → Int64) (xuf : Nat → Int64) (xul : Nat → Int64) (xus : Nat → Int32) (xbf : Nat → Int64) (xbl : Nat → Int64) (xbs : Nat → Int32), xk = nI k → xn = nI n → xV = (fun i => nI (V i)) →
      wL_law_79 (fun r => r = 1) L xs (nI (k + 1)) (nI P) kc ks (d + 1) (lN (dg_p 5 (lk_k L xs) i)) (nI i) xk xn xc xF xS xP xt xl xp1 xp2 xp3 xN xV xfo xsl xeb xss xws xuf xul xus xbf xbl xbs := by
  have hm : ∀ j, lk_k L xs j < 32 := fun j => lk_m32 _
  intro d
  induction d with
  | zero =>
    intro i hi n V hB
    intro xk xn xc xF xS xP xt xl xp1 xp2 xp3 xN xV xfo xsl xeb xss xws xuf xul xus xbf xbl xbs ek en eV
    have : i = P := by omega
    subst this
    subst ek en eV
    obtain ⟨st, hLn⟩ := lk_P hB
    obtain ⟨_, _, _, _, _, b5, b6, b7⟩ := hB
    rw [wL_law_79]
    refine br_t (nI_le (Nat.le_refl _) (by omega)) ?_
    refine lx_compile (y := fun j => ll_t L xs (8 + j)) hP0 hP hk (b6 hP0) (by omega) b7 hLn ?_
    intro xF xS xl xp1 xp2 xp3 xN xfo xsl xeb xss xws xuf xul xus xbf xbl xbs hG hT
    refine br_t rfl (lm_init hP (lm_init hP ?_))
    have go : ∀ e, 8 ≤ e → e ≤ 260 → ∀ (xk : Int32) (xn : Int32) (xc : Int32) (xF : Int64) (xS : Int32) (xP : Int32) (xt : Int32) (xl : Int32) (xp1 : Int64) (xp2 : Int64) (xp3 : Int32) (xN : Int64) (xV : Nat → Int32) (xfo : Nat → Int64) (xsl : Nat → Int64) (xeb : Nat → Int32) (xss : Nat → Int64) (xws : Nat → Int64) (xuf : Nat → Int64) (xul : Nat → Int64) (xus : Nat → Int32) (xbf : Nat → Int64) (xbl : Nat → Int64) (xbs : Nat → Int32), ll_X i k n 0 V (lk_k L xs) (fun j => ll_t L xs (8 + j)) xk xn xc xF xS xP xt xl xp1 xp2 xp3 xN xV xfo xsl xeb xss xws xuf xul xus xbf xbl xbs →
        ∃ fu, wL_law_305 (fun r => r = 1) L xs (nI (k + 1)) (nI i) (lN (dg_p 5 (lk_k L xs) i)) (nI e) kc ks fu (lN (dg_p 4 (fun i => i) (i + 1))) (lN (dg_p 4 (fun i => i) (i + 1))) (nI 0) (nI 8) (nI 8) xk xn xc xF xS xP xt xl xp1 xp2 xp3 xN xV xfo xsl xeb xss xws xuf xul xus xbf xbl xbs := by
      intro e e1 e2
      intro xk xn xc xF xS xP xt xl xp1 xp2 xp3 xN xV xfo xsl xeb xss xws xuf xul xus xbf xbl xbs hX
      exact ⟨e - 8 + 1, ll_305 hL e2 hP0 hP hk (b6 hP0) (by omega) b7 hLn (fun j _ => hm j) (e - 8) 8 0 (by omega) (by omega) _ _ _ _ _ _ _ _ _ _ _ _ _ _ _ _ _ _ _ _ _ _ _ _ hX⟩
    refine pk_le L 8 (fun q => ?_) (fun q => nm_e ?_)
    · exact go 8 (by omega) (by omega) _ _ _ _ _ _ _ _ _ _ _ _ _ _ _ _ _ _ _ _ _ _ _ _ ⟨rfl, rfl, rfl, rfl, nI_0.symm, hG, hT⟩
    · exact go L (by omega) hL _ _ _ _ _ _ _ _ _ _ _ _ _ _ _ _ _ _ _ _ _ _ _ _ ⟨rfl, rfl, rfl, rfl, nI_0.symm, hG, hT⟩
  | succ d ih =>
    intro i hi n V hB
    intro xk xn xc xF xS xP xt xl xp1 xp2 xp3 xN xV xfo xsl xeb xss xws xuf xul xus xbf xbl xbs ek en eV
    subst ek en eV
    have hB' := hB
    obtain ⟨_, _, _, _, _, b5, b6, b7⟩ := hB
    rw [wL_law_79]
    refine br_f (nI_ge (by omega) (by omega)) ?_
    have e2 : (2 : Int32) + nI i = nI (2 + i) := nI_add 2 i
    rw [e2]
    refine lm_cell hL (by omega) (lm_md (m := 64) (by omega) (by omega) ?_)
    have hc := lm_lt (lm_c L xs (2 + i)) (m := 64) (by omega) (by omega)
    have hmk : lk_k L xs i = lk_m (lm_r (lm_c L xs (2 + i)) 64) := rfl
    generalize lm_r (lm_c L xs (2 + i)) 64 = c at hc hmk ⊢
    refine ⟨by decide, nm_r (pk_rem (a := c) (d := 4) (by omega) (by omega) (by omega)) ⟨by decide, nm_r (pk_div (a := c) (d := 4) (by omega) (by omega) (by omega)) ?_⟩⟩
    have ap : ∀ (cc : Nat), vd_al cc → (cc = 46 ∨ gr_L cc) → (∀ l, l < 5 → (lm_t (lk_k L xs) l i = true ↔ cc = 46 ∨ cc = 97 + l)) → lk_B (lk_k L xs) (i + 1) (n + 1) (fun x => if x = n then cc else V x) := by
      intro cc ha hcc hmt
      refine lk_B1 hB' (by omega) (by omega) (fun x hx => if_neg (by omega)) (fun x x1 x2 => ?_) ?_
      · have : x = n := by omega
        subst this
        simp only [if_true]; exact ha
      · have es : lk_s (fun x => if x = n then cc else V x) (n + 1) = cc := if_pos rfl
        rcases hcc with z | z
        · right; left
          rw [es]
          exact ⟨rfl, z, fun l hl => (hmt l hl).mpr (Or.inl z)⟩
        · left
          rw [es]
          refine ⟨rfl, z, fun l hl => ?_⟩
          show lm_t (lk_k L xs) l i = true ↔ _
          rw [hmt l hl]
          exact ⟨fun q => q.elim (fun q => by omega) id, Or.inr⟩
    refine pk_lt 1 (c % 4) (fun h1 => ?_) (fun h1 => ⟨by decide, nm_r (pk_rem (a := c / 4) (d := 4) (by omega) (by omega) (by omega)) ?_⟩)
    · refine pk_eq (c % 4) 2 (fun h2 => ?_) (fun h2 => ⟨by decide, nm_r (e' := nI (c / 4 % 15 + 1)) ?_ ?_⟩)
      · have em : lk_k L xs i = 31 := by rw [hmk]; unfold lk_m; rw [if_neg (by omega), if_pos h2]
        refine lx_pc (c := 46) (by omega) (by omega) ?_
        have q := lk_233 (L := L) (xs := xs) (J := wL_law_79 (fun r => r = 1) L xs (nI (k + 1)) (nI P) kc ks (d + 1)) (kc := kc) (ks := ks) (x3 := nI (k + 1)) (x5 := nI P) (show i < 6 by omega) hm (ih (i + 1) (by omega) (n + 1) _ (ap 46 (by omega) (Or.inl rfl) (fun l hl => ?_)) (nI k) (nI (n + 1)) 0 xF xS xP 0 xl xp1 xp2 xp3 xN (fun i => nI (if i = n then 46 else V i)) xfo xsl xeb xss xws xuf xul xus xbf xbl xbs rfl rfl rfl)
        · rw [em] at q; exact q
        · unfold lm_t
          rw [decide_eq_true_iff, em]
          exact ⟨fun _ => Or.inl rfl, fun _ => lk_31 l hl⟩
      · have q := pk_rem (a := c / 4) (d := 15) (by omega) (by omega) (by omega)
        have e15 : nI 15 = (15 : Int32) := rfl
        rw [e15] at q
        rw [q, nI_1]
      · have em : lk_k L xs i = c / 4 % 15 + 1 := by rw [hmk]; unfold lk_m; rw [if_neg (by omega), if_neg h2]
        have hmod : c / 4 % 15 < 15 := Nat.mod_lt _ (by omega)
        refine lx_pc (c := 91) (by omega) (by omega) ⟨4 + 1, ?_⟩
        exact lk_187 (k := k) (mk := lk_k L xs) (n0 := n) (V0 := V) (show i < 6 by omega) hm em ⟨by omega, by omega⟩ hB' (by omega)
          (fun n V hb => ih (i + 1) (by omega) n V hb) 4 0 (by omega) (n + 1) (fun x => if x = n then 91 else V x) (by omega) (by omega) (fun x hx => if_neg (by omega)) (if_pos rfl) (fun x x1 x2 => by omega) (fun l hl => by omega) _ _ _ _ _ _ _ _ _ _ _ _ _ _ _ _ _ _ _ _ _ _ _ _ rfl rfl rfl
    · have hw : c / 4 % 4 < 4 := Nat.mod_lt _ (by omega)
      have em : lk_k L xs i = 2 ^ (c / 4 % 4) := by rw [hmk]; unfold lk_m; rw [if_pos (by omega)]
      rw [ll_ch (by omega)]
      refine lx_pc (by omega) (by omega) (nm_r (e' := nI (lk_k L xs i)) ?_ ?_)
      · rw [em]
        have q := pk_shlN (n := 1) (nI (c / 4 % 4) &&& 31) (c / 4 % 4) (s_l _ (by omega)) (by have : 2 ^ (c / 4 % 4) ≤ 2 ^ 3 := Nat.pow_le_pow_right (by omega) (by omega); omega)
        rw [Nat.one_mul] at q
        exact q
      · refine lk_233 (show i < 6 by omega) hm (ih (i + 1) (by omega) (n + 1) _ (ap (97 + c / 4 % 4) (by omega) (Or.inr (by omega)) (fun l hl => ?_)) _ _ _ _ _ _ _ _ _ _ _ _ _ _ _ _ _ _ _ _ _ _ _ _ rfl rfl rfl)
        unfold lm_t
        rw [decide_eq_true_iff, em, lk_pw _ hw l hl]
        omega
end
theorem lk_init {post : St2 → Prop} {x1 : Int32} {k : Nat} {u : St1} (h : (0 ≤ x1 ∧ x1 ≤ 7 ∧ x1 = nI k) ∨ (0 ≤ x1 ∧ ¬ x1 ≤ 7 ∧ k = 7) ∨ (¬ 0 ≤ x1 ∧ k = 0))
    (hp : post (nI k, 0, 0, 0, 0, 0, 0, 0, 0, 0, 0, 1, (fun _ => 0), (fun _ => 0), (fun _ => 0), (fun _ => 0), (fun _ => 0), (fun _ => 0), (fun _ => 0), (fun _ => 0), (fun _ => 0), (fun _ => 0), (fun _ => 0), (fun _ => 0))) : wpX_init post 12 817 u x1 := by
  obtain ⟨u1, u2, u3, u4, u5, u6, u7, u8, u9, u10, u11, u12⟩ := u
  unfold wpX_init
  refine ⟨by omega, by omega, by omega, by omega, by omega, by omega, by omega, by omega, by omega, by omega, by omega, by omega, by omega, by omega, by omega, by omega, by omega, by omega, by omega, by omega, by omega, by omega, by omega, by omega, ?_⟩
  rcases h with ⟨h1, h2, h3⟩ | ⟨h1, h2, h3⟩ | ⟨h1, h3⟩
  · subst h3; exact br_t h1 (br_t h2 hp)
  · subst h3; exact br_t h1 (br_f h2 hp)
  · subst h3; exact br_f h1 hp
theorem lk_33 {L k : Nat} {xs : Nat → Int32} {x1 : Int32} (hL : L ≤ 260) (hk : k ≤ 7) (h : (0 ≤ x1 ∧ x1 ≤ 7 ∧ x1 = nI k) ∨ (0 ≤ x1 ∧ ¬ x1 ≤ 7 ∧ k = 7) ∨ (¬ 0 ≤ x1 ∧ k = 0)) : wL_law_33 (fun r => r = 1) L xs x1 (nI k) 0 0 := by
  unfold wL_law_33
  refine nm_r (nI_1 k) ⟨by omega, by omega, 12, 817, by omega, by omega, lk_init h ?_⟩
  unfold wpX_getK
  refine br_t rfl (lm_cell (k := 1) hL (by omega) (lm_md (m := 6) (by omega) (by omega) ?_))
  have hr := lm_lt (lm_c L xs 1) (m := 6) (by omega) (by omega)
  refine nm_r (nI_add 1 _) ⟨1 + lm_r (lm_c L xs 1) 6 + 1, ?_⟩
  exact lk_79 hL (by omega) (by omega) hk _ 0 (by omega) 0 (fun _ => 0) lk_B0 _ _ _ _ _ _ _ _ _ _ _ _ _ _ _ _ _ _ _ _ _ _ _ _ rfl rfl rfl
theorem i_vc (xs : Nat → Int32) (L : Nat) (hL : L ≤ 260) : wpL_law (fun r => r = 1) L xs := by
  unfold wpL_law
  refine lm_cell (k := 0) hL (by omega) (lm_md (m := 10) (by omega) (by omega) ?_)
  have hr := lm_lt (lm_c L xs 0) (m := 10) (by omega) (by omega)
  generalize lm_r (lm_c L xs 0) 10 = r at hr ⊢
  cases r with
  | zero =>
    have h0 : ¬ (0 : Int32) ≤ nI 0 - 1 := by decide
    exact nm_e (br_f h0 (lk_33 (k := 0) hL (by omega) (Or.inr (Or.inr ⟨h0, rfl⟩))))
  | succ j =>
    refine nm_r (nI_pred j) ?_
    have h0 : (0 : Int32) ≤ nI j := nI_pos' (by omega)
    refine br_t h0 (pk_le j 7 (fun q => ?_) (fun q => ?_))
    · exact lk_33 (k := j) hL q (Or.inl ⟨h0, nI_le (b := 7) q (by omega), rfl⟩)
    · exact lk_33 (k := 7) hL (by omega) (Or.inr (Or.inl ⟨h0, nI_ge (a := 7) (b := j) q (by omega), rfl⟩))
