/-! The law's own loops over the text. -/
/-- the letter that the cell t feeds -/
def ll_t (L : Nat) (xs : Nat → Int32) (t : Nat) : Nat := lm_r (nI (lm_r (lm_c L xs t) 16) - 2) 5
def ll_X (P k n tl : Nat) (V mk y : Nat → Nat) (xk : Int32) (xn : Int32) (xc : Int32) (xF : Int64) (xS : Int32) (xP : Int32) (xt : Int32) (xl : Int32) (xp1 : Int64) (xp2 : Int64) (xp3 : Int32) (xN : Int64) (xV : Nat → Int32) (xfo : Nat → Int64) (xsl : Nat → Int64) (xeb : Nat → Int32) (xss : Nat → Int64) (xws : Nat → Int64) (xuf : Nat → Int64) (xul : Nat → Int64) (xus : Nat → Int32) (xbf : Nat → Int64) (xbl : Nat → Int64) (xbs : Nat → Int32) : Prop :=
  xk = nI k ∧ xn = nI n ∧ xV = (fun i => nI (V i)) ∧ xc = 1 ∧ xt = nI tl ∧ lx_G P mk xF xfo xsl ∧ lx_T P k tl mk y xeb xss xws
theorem ll_ch {v : Nat} (h : v < 100) : (((97 + nI v).toUInt32 % 65536).toInt32) = nI (97 + v) := by
  have e : (97 : Int32) + nI v = nI (97 + v) := nI_add 97 v
  rw [e, pk_char, pk_tn (by omega), Nat.mod_eq_of_lt (by omega)]
section
variable {xk xn xc xS xP xt xl xp3 : Int32} {xF xp1 xp2 xN : Int64} {xV xeb xus xbs : Nat → Int32} {xfo xsl xss xws xuf xul xbf xbl : Nat → Int64}
variable {L P k n : Nat} {xs : Nat → Int32} {V st mk : Nat → Nat} {J : Int64 → Int64 → Int32 → Int32 → Int32 → Int32 → Int32 → Int32 → Int64 → Int32 → Int32 → Int32 → Int32 → Int64 → Int64 → Int32 → Int64 → (Nat → Int32) → (Nat → Int64) → (Nat → Int64) → (Nat → Int32) → (Nat → Int64) → (Nat → Int64) → (Nat → Int64) → (Nat → Int64) → (Nat → Int32) → (Nat → Int64) → (Nat → Int64) → (Nat → Int32) → Prop}
theorem ll_513 {q : Nat} {x6 : Int64} {x14 : Int32} {kc ks : Nat} {y : Nat → Nat} (hP : P ≤ 6) (hk : k ≤ 7) (hX : ll_X P k n 0 V mk y xk xn xc xF xS xP xt xl xp1 xp2 xp3 xN xV xfo xsl xeb xss xws xuf xul xus xbf xbl xbs)
    (hJ : J (lN (dg_p 4 (fun i => i) (P + 1))) (lN (dg_p 4 (fun i => i) (P + 1))) 0 (nI (q + 1)) (nI (q + 1)) xk xn xc xF xS xP xt xl xp1 xp2 xp3 xN xV xfo xsl xeb xss xws xuf xul xus xbf xbl xbs) :
    wL_law_513 (fun r => r = 1) L xs J (nI (k + 1)) (nI P) x6 x14 (nI q) kc ks xk xn xc xF xS xP xt xl xp1 xp2 xp3 xN xV xfo xsl xeb xss xws xuf xul xus xbf xbl xbs := by
  obtain ⟨rfl, rfl, rfl, rfl, rfl, hG, hT⟩ := hX
  unfold wL_law_513
  refine lm_init hP (lm_init hP (nm_r (nI_1 q) ?_))
  unfold wpX_isCompiled
  refine ⟨rfl, br_f (by decide) ?_⟩
  unfold wpX_textLength
  refine br_t nI_0 ?_
  refine lx_err (j := 0) (tl := 0) (by omega) hT (Nat.le_refl _) (lm_min (by omega) (by omega) (br_t rfl ?_))
  refine lx_whole hP hk hG hT (lm_min (by omega) (by omega) (br_t rfl (nm_r (nI_1 q) hJ)))
theorem ll_373 {q seg tl : Nat} {x14 x16 x17 : Int32} {kc ks : Nat} (hL : L ≤ 260) (hP0 : 0 < P) (hP : P ≤ 6) (hk : k ≤ 7) (hn0 : 0 < n) (hn : n ≤ 64) (hal : ∀ i, i < n → vd_al (V i)) (hLn : ln_P (vd_W V n) n P st (fun i l => lm_t mk l i = true)) (hm : ∀ i, i < P → mk i < 32)
    (hq : seg + tl = q) (htl : tl < 256) (hqb : q < 1000) (hX : ll_X P k n tl V mk (fun j => ll_t L xs (seg + j)) xk xn xc xF xS xP xt xl xp1 xp2 xp3 xN xV xfo xsl xeb xss xws xuf xul xus xbf xbl xbs)
    (hJ : x16 = 0 → ∀ (xk : Int32) (xn : Int32) (xc : Int32) (xF : Int64) (xS : Int32) (xP : Int32) (xt : Int32) (xl : Int32) (xp1 : Int64) (xp2 : Int64) (xp3 : Int32) (xN : Int64) (xV : Nat → Int32) (xfo : Nat → Int64) (xsl : Nat → Int64) (xeb : Nat → Int32) (xss : Nat → Int64) (xws : Nat → Int64) (xuf : Nat → Int64) (xul : Nat → Int64) (xus : Nat → Int32) (xbf : Nat → Int64) (xbl : Nat → Int64) (xbs : Nat → Int32), ll_X P k n 0 V mk (fun j => ll_t L xs (q + 1 + j)) xk xn xc xF xS xP xt xl xp1 xp2 xp3 xN xV xfo xsl xeb xss xws xuf xul xus xbf xbl xbs → J (lN (dg_p 4 (fun i => i) (P + 1))) (lN (dg_p 4 (fun i => i) (P + 1))) 0 (nI (q + 1)) (nI (q + 1)) xk xn xc xF xS xP xt xl xp1 xp2 xp3 xN xV xfo xsl xeb xss xws xuf xul xus xbf xbl xbs) :
    ∀ d j, j + d = tl → wL_law_373 (fun r => r = 1) L xs J (nI (k + 1)) (nI P) (lN (dg_p 5 mk P)) x14 (nI q) x16 x17 kc ks xk xn xc xF xS xP xt xl xp1 xp2 xp3 xN xV xfo xsl xeb xss xws xuf xul xus xbf xbl xbs (d + 1) (lN (dg_p 4 (lx_D mk (fun j => ll_t L xs (seg + j)) j) (P + 1))) (nI j) (nI (seg + j)) := by
  obtain ⟨rfl, rfl, rfl, rfl, rfl, hG, hT⟩ := hX
  intro d
  induction d with
  | zero =>
    intro j hj
    have : j = tl := by omega
    subst this
    rw [wL_law_373]
    refine br_t (nI_le (by omega) (by omega)) ?_
    unfold wpX_textLength
    refine br_t rfl ?_
    refine lx_err (j := 0) (by omega) hT (Nat.zero_le _) (lm_min (by omega) (by omega) (br_t rfl (br_c (fun z => ?_) (fun z => rfl))))
    refine br_c (fun z' => ?_) (fun z' => ?_)
    · refine lx_reset (y := fun j => ll_t L xs (q + 1 + j)) hP hk hG ?_
      intro xeb xss xws hT'
      have hX' : ll_X P k n 0 V mk (fun j => ll_t L xs (q + 1 + j)) (nI k) (nI n) 1 xF xS xP 0 xl xp1 xp2 xp3 xN (fun i => nI (V i)) xfo xsl xeb xss xws xuf xul xus xbf xbl xbs := ⟨rfl, rfl, rfl, rfl, nI_0.symm, hG, hT'⟩
      exact ll_513 hP hk hX' (hJ z _ _ _ _ _ _ _ _ _ _ _ _ _ _ _ _ _ _ _ _ _ _ _ _ hX')
    · refine lx_compile (y := fun j => ll_t L xs (q + 1 + j)) hP0 hP hk hn0 hn hal hLn ?_
      intro xF xS xl xp1 xp2 xp3 xN xfo xsl xeb xss xws xuf xul xus xbf xbl xbs hG' hT'
      have hX' : ll_X P k n 0 V mk (fun j => ll_t L xs (q + 1 + j)) (nI k) (nI n) 1 xF xS (nI P) 0 xl xp1 xp2 xp3 xN (fun i => nI (V i)) xfo xsl xeb xss xws xuf xul xus xbf xbl xbs := ⟨rfl, rfl, rfl, rfl, nI_0.symm, hG', hT'⟩
      exact br_t rfl (ll_513 hP hk hX' (hJ z _ _ _ _ _ _ _ _ _ _ _ _ _ _ _ _ _ _ _ _ _ _ _ _ hX'))
  | succ d ih =>
    intro j hj
    rw [wL_law_373]
    refine br_f (nI_ge (by omega) (by omega)) (br_f (nI_ge (b := 256) (by omega) (by omega)) ?_)
    refine lm_cell hL (by omega) (lm_md (m := 16) (by omega) (by omega) (lm_md (m := 5) (by omega) (by omega) (nm_r (nI_1 j) ?_)))
    refine lm_step (first := 0) (x := ll_t L xs (seg + j)) hP (lm_lt _ (by omega) (by omega)) (fun i hi => lx_D9 _ _ (by omega)) (by omega) hm ?_
    refine lx_err (j := j + 1) (by omega) hT (by omega) (lm_get (f := lx_D mk (fun j => ll_t L xs (seg + j)) (j + 1)) (n := P + 1) (i := P) (fun i hi => by have := lx_D9 mk (fun j => ll_t L xs (seg + j)) (j := j + 1) (i := i) (by omega); omega) (by omega) (by omega) ?_)
    have h9 := lx_D9 mk (fun j => ll_t L xs (seg + j)) (j := j + 1) (i := P) hP
    exact lm_min (by omega) (by omega) (br_t rfl (nm_r (nI_1 (seg + j)) (ih (j + 1) (by omega))))
end
