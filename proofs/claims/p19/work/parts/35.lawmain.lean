/-! The law's main loop. -/
section
variable {xk xn xc xS xP xt xl xp3 : Int32} {xF xp1 xp2 xN : Int64} {xV xeb xus xbs : Nat → Int32} {xfo xsl xss xws xuf xul xbf xbl : Nat → Int64}
variable {L P k n : Nat} {xs : Nat → Int32} {V st mk : Nat → Nat}
theorem ll_305 {e kc ks : Nat} (hL : L ≤ 260) (he : e ≤ 260) (hP0 : 0 < P) (hP : P ≤ 6) (hk : k ≤ 7) (hn0 : 0 < n) (hn : n ≤ 64) (hal : ∀ i, i < n → vd_al (V i)) (hLn : ln_P (vd_W V n) n P st (fun i l => lm_t mk l i = true)) (hm : ∀ i, i < P → mk i < 32) :
    ∀ d seg tl, seg + tl + d = e → 8 ≤ seg → ∀ (xk : Int32) (xn : Int32) (xc : Int32) (xF : Int64) (xS : Int32) (xP : Int32) (xt : Int32) (xl : Int32) (xp1 : Int64) (xp2 : Int64) (xp3 : Int32) (xN : Int64) (xV : Nat → Int32) (xfo : Nat → Int64) (xsl : Nat → Int64) (xeb : Nat → Int32) (xss : Nat → Int64) (xws : Nat → Int64) (xuf : Nat → Int64) (xul : Nat → Int64) (xus : Nat → Int32) (xbf : Nat → Int64) (xbl : Nat → Int64) (xbs : Nat → Int32), ll_X P k n tl V mk (fun j => ll_t L xs (seg + j)) xk xn xc xF xS xP xt xl xp1 xp2 xp3 xN xV xfo xsl xeb xss xws xuf xul xus xbf xbl xbs →
      wL_law_305 (fun r => r = 1) L xs (nI (k + 1)) (nI P) (lN (dg_p 5 mk P)) (nI e) kc ks (d + 1) (lN (dg_p 4 (lx_D mk (fun j => ll_t L xs (seg + j)) tl) (P + 1))) (lN (dg_p 4 (lx_W mk (fun j => ll_t L xs (seg + j)) tl) (P + 1))) (nI tl) (nI seg) (nI (seg + tl)) xk xn xc xF xS xP xt xl xp1 xp2 xp3 xN xV xfo xsl xeb xss xws xuf xul xus xbf xbl xbs := by
  intro d
  induction d with
  | zero =>
    intro seg tl hs h8
    intro xk xn xc xF xS xP xt xl xp1 xp2 xp3 xN xV xfo xsl xeb xss xws xuf xul xus xbf xbl xbs hX
    rw [wL_law_305]
    refine br_f (nI_nlt (by omega) (by omega)) (br_t (by rw [← hs]; rfl) ?_)
    unfold wL_law_324
    refine br_f (by decide) ?_
    unfold wL_law_346
    refine br_f (by decide) ?_
    unfold wL_law_359
    refine lm_init hP ⟨tl + 1, ?_⟩
    exact ll_373 (seg := seg) (tl := tl) hL hP0 hP hk hn0 hn hal hLn hm rfl (by omega) (by omega) hX (fun z => absurd z (by decide)) tl 0 (by omega)
  | succ d ih =>
    intro seg tl hs h8
    intro xk xn xc xF xS xP xt xl xp1 xp2 xp3 xN xV xfo xsl xeb xss xws xuf xul xus xbf xbl xbs hX
    have hX' := hX
    rw [wL_law_305]
    refine br_f (nI_nlt (by omega) (by omega)) (br_f (fun z => ?_) ?_)
    · have := (nI_eq (by omega) (by omega)).mp z; omega
    unfold wL_law_324
    refine br_t rfl (lm_cell hL (by omega) (lm_md (m := 16) (by omega) (by omega) ?_))
    have hr := lm_lt (lm_c L xs (seg + tl)) (m := 16) (by omega) (by omega)
    unfold wL_law_346
    refine br_t rfl (pk_le 2 (lm_r (lm_c L xs (seg + tl)) 16) (fun h2 => ?_) (fun h2 => ?_))
    · obtain ⟨rfl, rfl, rfl, rfl, rfl, hG, hT⟩ := hX
      refine lm_md (m := 5) (by omega) (by omega) ?_
      have hl5 : ll_t L xs (seg + tl) < 5 := lm_lt _ (by omega) (by omega)
      have hch := ll_ch (v := ll_t L xs (seg + tl)) (by omega)
      unfold ll_t at hch
      rw [hch]
      refine lx_feed (y := fun j => ll_t L xs (seg + j)) (tl := tl) (l := ll_t L xs (seg + tl)) hP hk (by omega) hl5 rfl hG hT ?_
      intro xeb xss xws hT'
      refine pk_eq tl 256 (fun z => by omega) (fun _ => nm_r (nI_1 tl) ?_)
      refine lm_step (first := 0) (x := ll_t L xs (seg + tl)) hP hl5 (fun i hi => lx_D9 _ _ (by omega)) (by omega) hm ?_
      refine lm_min (a := 9) (by omega) (by omega) ?_
      refine lm_step (x := ll_t L xs (seg + tl)) hP hl5 (fun i hi => lx_W9 _ _ (by omega)) (Nat.min_le_left _ _) hm ?_
      have hD9 : ∀ i, i < P + 1 → lx_D mk (fun j => ll_t L xs (seg + j)) (tl + 1) i < 16 := fun i hi => by have := lx_D9 mk (fun j => ll_t L xs (seg + j)) (j := tl + 1) (i := i) (by omega); omega
      have hW9 : ∀ i, i < P + 1 → lx_W mk (fun j => ll_t L xs (seg + j)) (tl + 1) i < 16 := fun i hi => by have := lx_W9 mk (fun j => ll_t L xs (seg + j)) (j := tl + 1) (i := i) (by omega); omega
      have hDP := hD9 P (by omega)
      have hWP := hW9 P (by omega)
      refine lm_get (f := lx_D mk (fun j => ll_t L xs (seg + j)) (tl + 1)) (n := P + 1) (i := P) hD9 (by omega) (by omega) (lm_min (by omega) (by omega) (br_t rfl ?_))
      refine lx_err (j := tl + 1) (tl := tl + 1) (by omega) hT' (Nat.le_refl _) (br_t rfl ?_)
      refine lx_whole hP hk hG hT' (lm_get (f := lx_W mk (fun j => ll_t L xs (seg + j)) (tl + 1)) (n := P + 1) (i := P) hW9 (by omega) (by omega) (lm_min (by omega) (by omega) (br_t rfl ?_)))
      unfold wpX_textLength
      refine br_t rfl ?_
      unfold wpX_isCompiled
      refine ⟨rfl, br_f (by decide) (nm_r (nI_1 (seg + tl)) ?_)⟩
      exact ih seg (tl + 1) (by omega) h8 _ _ _ _ _ _ _ _ _ _ _ _ _ _ _ _ _ _ _ _ _ _ _ _ ⟨rfl, rfl, rfl, rfl, rfl, hG, hT'⟩
    · unfold wL_law_359
      refine lm_init hP ⟨tl + 1, ?_⟩
      refine ll_373 (seg := seg) (tl := tl) hL hP0 hP hk hn0 hn hal hLn hm rfl (by omega) (by omega) hX' (fun _ => ?_) tl 0 (by omega)
      intro xk xn xc xF xS xP xt xl xp1 xp2 xp3 xN xV xfo xsl xeb xss xws xuf xul xus xbf xbl xbs hX2
      exact ih (seg + tl + 1) 0 (by omega) (by omega) _ _ _ _ _ _ _ _ _ _ _ _ _ _ _ _ _ _ _ _ _ _ _ _ hX2
end
