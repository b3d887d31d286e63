/-! The component's methods, as the law meets them. -/
/-- the columns behind j letters of y: a match may begin anywhere; a match begins with the first letter -/
def lx_D (mk y : Nat → Nat) : Nat → Nat → Nat
  | 0 => fun i => i
  | j + 1 => dc_s (lm_t mk (y j)) (lx_D mk y j) 0
def lx_W (mk y : Nat → Nat) : Nat → Nat → Nat
  | 0 => fun i => i
  | j + 1 => dc_s (lm_t mk (y j)) (lx_W mk y j) (min 9 (j + 1))
theorem lx_W0 (mk y : Nat → Nat) (j : Nat) : lx_W mk y j 0 = min 9 j := by
  cases j with
  | zero => rfl
  | succ j => rfl
theorem lx_D9 (mk y : Nat → Nat) {j i : Nat} (hi : i ≤ 6) : lx_D mk y j i ≤ 9 := by
  cases j with
  | zero => show i ≤ 9; omega
  | succ j => exact lm_dc9 (by omega) i
theorem lx_W9 (mk y : Nat → Nat) {j i : Nat} (hi : i ≤ 6) : lx_W mk y j i ≤ 9 := by
  cases j with
  | zero => show i ≤ 9; omega
  | succ j => exact lm_dc9 (Nat.min_le_left _ _) i
theorem lx_Dc {mk y y' : Nat → Nat} : ∀ n, (∀ j, j < n → y j = y' j) → lx_D mk y n = lx_D mk y' n := by
  intro n
  induction n with
  | zero => intro _; rfl
  | succ n ih =>
    intro h
    show dc_s (lm_t mk (y n)) (lx_D mk y n) 0 = dc_s (lm_t mk (y' n)) (lx_D mk y' n) 0
    rw [ih (fun j hj => h j (by omega)), h n (by omega)]
/-- the compiled pattern -/
def lx_G (P : Nat) (mk : Nat → Nat) (xF : Int64) (xfo xsl : Nat → Int64) : Prop :=
  (∀ p q, xr_FO xfo p q ↔ q = p + 1 ∧ q ≤ P) ∧ (∀ p, p < 64 → (bs_b xF p = true ↔ p = P)) ∧ (∀ l q, l < 5 → 1 ≤ q → q ≤ P → (xr_M (xsl l) q ↔ lm_t mk l (q - 1) = true))
/-- the text -/
def lx_T (P k tl : Nat) (mk y : Nat → Nat) (xeb : Nat → Int32) (xss xws : Nat → Int64) : Prop :=
  (∀ j, j ≤ tl → xeb j = nI (min (k + 1) (lx_D mk y j P))) ∧ (∀ d q, d ≤ k → (xr_XS xss d q ↔ q ≤ P ∧ lx_D mk y tl q ≤ d)) ∧ (∀ d q, d ≤ k → (xr_XS xws d q ↔ q ≤ P ∧ lx_W mk y tl q ≤ d))
theorem lx_L {P k : Nat} {S : Nat → Int64} {F : Int64} {col : Nat → Nat} (hP : P < 64) (hF : ∀ p, p < 64 → (bs_b F p = true ↔ p = P)) (hS : ∀ d q, d ≤ k → (xr_XS S d q ↔ q ≤ P ∧ col q ≤ d)) : xt_L k S F (min (k + 1) (col P)) := by
  have key : ∀ d, d ≤ k → (¬ (S d &&& F) = 0 ↔ col P ≤ d) := by
    intro d hd
    rw [bs_ne0]
    constructor
    · rintro ⟨i, h1, h2⟩
      rw [bs_and, Bool.and_eq_true] at h2
      have := (hF i h1).mp h2.2
      subst this
      exact ((hS d i hd).mp ⟨h1, h2.1⟩).2
    · intro h
      have := (hS d P hd).mpr ⟨Nat.le_refl _, h⟩
      exact ⟨P, hP, by rw [bs_and, Bool.and_eq_true]; exact ⟨this.2, (hF P hP).mpr rfl⟩⟩
  refine ⟨Nat.min_le_left _ _, fun d h1 h2 => ?_, fun h => (key _ h).mpr ?_⟩
  · by_cases c : S d &&& F = 0
    · exact c
    · have := (key d h2).mp c
      omega
  · omega
section
variable {xk xn xc xS xP xt xl xp3 : Int32} {xF xp1 xp2 xN : Int64} {xV xeb xus xbs : Nat → Int32} {xfo xsl xss xws xuf xul xbf xbl : Nat → Int64}
theorem lx_isP {post : Int32 → Prop} {c : Nat} (hc : c < 65536) (h1 : vd_al c → post 1) (h0 : ¬ vd_al c → post 0) : wpX_isPatternChar post () (nI c) := by
  unfold wpX_isPatternChar
  refine xw_isL hc (fun hL => br_f (by decide) (h1 (Or.inl hL))) (fun hL => br_t rfl ?_)
  refine xw_isO hc (fun hO => br_f (by decide) (h1 (Or.inr (Or.inl hO)))) (fun hO => br_t rfl ?_)
  exact pk_eq c 46 (fun _ => h1 (by omega)) (fun _ => pk_eq c 124 (fun _ => h1 (by omega)) (fun _ => pk_eq c 91 (fun _ => h1 (by omega)) (fun _ => pk_eq c 93 (fun _ => h1 (by omega)) (fun _ => pk_eq c 40 (fun _ => h1 (by omega)) (fun _ => pk_eq c 41 (fun _ => h1 (by omega)) (fun _ => h0 (by omega)))))))
theorem lx_pc {post : Int32 → St2 → Prop} {V : Nat → Nat} {n c : Nat} (hn : n < 64) (hc : vd_al c) (h : post (nI (n + 1)) (xk, nI (n + 1), 0, xF, xS, xP, 0, xl, xp1, xp2, xp3, xN, fun i => nI (if i = n then c else V i), xfo, xsl, xeb, xss, xws, xuf, xul, xus, xbf, xbl, xbs)) :
    wpX_patternChar post (xk, nI n, xc, xF, xS, xP, xt, xl, xp1, xp2, xp3, xN, fun i => nI (V i), xfo, xsl, xeb, xss, xws, xuf, xul, xus, xbf, xbl, xbs) (nI c) := by
  have hc' : c < 65536 := by omega
  unfold wpX_patternChar
  refine lx_isP hc' (fun _ => br_f (by decide) (pk_lt n 64 (fun _ => ?_) (fun z => by omega))) (fun z => absurd hc z)
  have en : vp_nar .char (nI c) = nI c := by
    unfold vp_nar
    rw [(pk_charN hc').1]
  rw [nI_clamp (by omega), en, nI_1]
  refine ⟨vp_in_nI hn (by omega), nm_e (nm_e ?_)⟩
  unfold wpX_dropCompiled
  have eV : upd (fun i => nI (V i)) n (nI c) = fun i => nI (if i = n then c else V i) := by
    funext i
    unfold upd
    by_cases q : i = n
    · rw [if_pos q, if_pos q]
    · rw [if_neg q, if_neg q]
  rw [eV]
  exact h
theorem lx_start {post : St2 → Prop} {P k : Nat} {mk y : Nat → Nat} (hP : P ≤ 6) (hk : k ≤ 7) (hG : lx_G P mk xF xfo xsl)
    (h : ∀ xeb xss xws, lx_T P k 0 mk y xeb xss xws → post (nI k, xn, xc, xF, xS, xP, 0, xl, xp1, xp2, xp3, xN, xV, xfo, xsl, xeb, xss, xws, xuf, xul, xus, xbf, xbl, xbs)) : wpX_startText post (nI k, xn, xc, xF, xS, xP, xt, xl, xp1, xp2, xp3, xN, xV, xfo, xsl, xeb, xss, xws, xuf, xul, xus, xbf, xbl, xbs) := by
  obtain ⟨g1, g2, g3⟩ := hG
  have hX : ∀ d q, d ≤ k → (xr_XS (xr_rc xfo) d q ↔ q ≤ P ∧ lx_D mk y 0 q ≤ d) := by
    intro d q _
    have := xr_rcX xfo d q
    rw [dc_0 g1] at this
    exact this
  have mix : ∀ (f : Nat → Int64) d q, d ≤ k → (xr_XS (xt_mix (k + 1) (xr_rc xfo) f) d q ↔ q ≤ P ∧ q ≤ d) := by
    intro f d q hd
    rw [← show (xr_XS (xr_rc xfo) d q ↔ q ≤ P ∧ q ≤ d) from hX d q hd]
    unfold xr_XS xt_mix
    rw [if_pos (by omega)]
  refine xt_start hk (lx_L (by omega) g2 hX) (h _ _ _ ⟨fun j hj => ?_, fun d q hd => mix xss d q hd, fun d q hd => mix xws d q hd⟩)
  have : j = 0 := by omega
  subst this
  exact pk_us
theorem lx_reset {post : St2 → Prop} {P k : Nat} {mk y : Nat → Nat} (hP : P ≤ 6) (hk : k ≤ 7) (hG : lx_G P mk xF xfo xsl)
    (h : ∀ xeb xss xws, lx_T P k 0 mk y xeb xss xws → post (nI k, xn, 1, xF, xS, xP, 0, xl, xp1, xp2, xp3, xN, xV, xfo, xsl, xeb, xss, xws, xuf, xul, xus, xbf, xbl, xbs)) : wpX_resetText post (nI k, xn, 1, xF, xS, xP, xt, xl, xp1, xp2, xp3, xN, xV, xfo, xsl, xeb, xss, xws, xuf, xul, xus, xbf, xbl, xbs) := by
  unfold wpX_resetText
  exact br_f (by decide) (lx_start hP hk hG h)
theorem lx_err {post : Int32 → Prop} {P k tl j : Nat} {mk y : Nat → Nat} (htl : tl ≤ 256) (hT : lx_T P k tl mk y xeb xss xws) (hj : j ≤ tl) (h : post (nI (min (k + 1) (lx_D mk y j P)))) : wpX_errorsAt post (xk, xn, 1, xF, xS, xP, nI tl, xl, xp1, xp2, xp3, xN, xV, xfo, xsl, xeb, xss, xws, xuf, xul, xus, xbf, xbl, xbs) (nI j) := by
  unfold wpX_errorsAt
  refine br_f (by decide) (br_f (nI_pos (by omega)) (pk_le j tl (fun _ => ?_) (fun z => by omega)))
  rw [nI_clamp (by omega), hT.1 j hj]
  exact ⟨vp_in_nI (by omega) (by omega), h⟩
theorem lx_whole {post : Int32 → Prop} {P k tl : Nat} {mk y : Nat → Nat} (hP : P ≤ 6) (hk : k ≤ 7) (hG : lx_G P mk xF xfo xsl) (hT : lx_T P k tl mk y xeb xss xws) (h : post (nI (min (k + 1) (lx_W mk y tl P)))) : wpX_wholeDistance post (nI k, xn, 1, xF, xS, xP, xt, xl, xp1, xp2, xp3, xN, xV, xfo, xsl, xeb, xss, xws, xuf, xul, xus, xbf, xbl, xbs) := by
  unfold wpX_wholeDistance
  exact br_f (by decide) (xt_leastW hk (lx_L (by omega) hG.2.1 hT.2.2) h)
theorem lx_feed {post : Int32 → St2 → Prop} {P k tl l : Nat} {mk y : Nat → Nat} (hP : P ≤ 6) (hk : k ≤ 7) (htl : tl < 256) (hl : l < 5) (hy : y tl = l) (hG : lx_G P mk xF xfo xsl) (hT : lx_T P k tl mk y xeb xss xws)
    (h : ∀ xeb xss xws, lx_T P k (tl + 1) mk y xeb xss xws → post (nI (min (k + 1) (lx_D mk y (tl + 1) P))) (nI k, xn, 1, xF, xS, xP, nI (tl + 1), xl, xp1, xp2, xp3, xN, xV, xfo, xsl, xeb, xss, xws, xuf, xul, xus, xbf, xbl, xbs)) : wpX_feed post (nI k, xn, 1, xF, xS, xP, nI tl, xl, xp1, xp2, xp3, xN, xV, xfo, xsl, xeb, xss, xws, xuf, xul, xus, xbf, xbl, xbs) (nI (97 + l)) := by
  obtain ⟨g1, g2, g3⟩ := hG
  obtain ⟨t1, t2, t3⟩ := hT
  have hL : gr_L (97 + l) := by omega
  have hD : ∀ d q, d ≤ k → (xr_XS (xr_rl xfo xss (xsl l) 1) d q ↔ q ≤ P ∧ lx_D mk y (tl + 1) q ≤ d) := by
    intro d q hd
    have q1 := xr_rlX xfo xss (xsl l) 1 True xr_en1 d q
    rw [dc_1 hk g1 t2 (mt := lm_t mk l) (fun q q1 q2 => g3 l q hl q1 q2) (first := 0) (fun d _ => by simp) d q hd] at q1
    rw [show lx_D mk y (tl + 1) = dc_s (lm_t mk l) (lx_D mk y tl) 0 from by rw [← hy]; rfl]
    exact q1
  have hWq : ∀ d q, d ≤ k → (xr_XS (xr_rl xfo xws (xsl l) 0) d q ↔ q ≤ P ∧ lx_W mk y (tl + 1) q ≤ d) := by
    intro d q hd
    have q1 := xr_rlX xfo xws (xsl l) 0 False xr_en0 d q
    rw [dc_1 hk g1 t3 (mt := lm_t mk l) (fun q q1 q2 => g3 l q hl q1 q2) (first := min 9 (tl + 1)) (fun d hd => by rw [lx_W0]; exact ⟨fun q => Or.inr ⟨by omega, by omega⟩, fun q => by rcases q with q | q; exact q.elim; omega⟩) d q hd] at q1
    rw [show lx_W mk y (tl + 1) = dc_s (lm_t mk l) (lx_W mk y tl) (min 9 (tl + 1)) from by rw [← hy]; rfl]
    exact q1
  have mixE : ∀ (g f : Nat → Int64) d q, d ≤ k → (xr_XS (xt_mix (k + 1) g f) d q ↔ xr_XS g d q) := by
    intro g f d q hd
    unfold xr_XS xt_mix
    rw [if_pos (by omega)]
  unfold wpX_feed
  refine br_f (by decide) (xw_isL (by omega) (fun _ => br_f (by decide) (pk_lt tl 256 (fun _ => ?_) (fun z => by omega))) (fun z => absurd hL z))
  rw [xw_c97 hL, nI_clamp (by omega), Nat.add_sub_cancel_left]
  refine ⟨vp_in_nI (by omega) (by omega), nm_e (xt_readS hk (xt_readW hk (nm_r (nI_1 tl) ?_)))⟩
  refine xt_leastS hk (xt_Lc (lx_L (by omega) g2 hD) (fun d hd => if_pos (by omega))) ?_
  rw [nI_clamp (by omega)]
  refine ⟨vp_in_nI (by omega) (by omega), nm_e ⟨vp_in_nI (by omega) (by omega), ?_⟩⟩
  rw [pk_us]
  refine h _ _ _ ⟨fun j hj => ?_, fun d q hd => by rw [mixE _ _ d q hd]; exact hD d q hd, fun d q hd => by rw [mixE _ _ d q hd]; exact hWq d q hd⟩
  by_cases c : j = tl + 1
  · subst c; exact pk_us
  · rw [pk_un c]; exact t1 j (by omega)
theorem lx_compile {post : Int32 → St2 → Prop} {P k n : Nat} {V st : Nat → Nat} {mk y : Nat → Nat} (hP0 : 0 < P) (hP : P ≤ 6) (hk : k ≤ 7) (hn0 : 0 < n) (hn : n ≤ 64) (hal : ∀ i, i < n → vd_al (V i)) (hL : ln_P (vd_W V n) n P st (fun i l => lm_t mk l i = true))
    (h : ∀ xF xS xl xp1 xp2 xp3 xN xfo xsl xeb xss xws xuf xul xus xbf xbl xbs, lx_G P mk xF xfo xsl → lx_T P k 0 mk y xeb xss xws → post (nI P) (nI k, nI n, 1, xF, xS, nI P, 0, xl, xp1, xp2, xp3, xN, fun i => nI (V i), xfo, xsl, xeb, xss, xws, xuf, xul, xus, xbf, xbl, xbs)) :
    wpX_compile post (nI k, nI n, xc, xF, xS, xP, xt, xl, xp1, xp2, xp3, xN, fun i => nI (V i), xfo, xsl, xeb, xss, xws, xuf, xul, xus, xbf, xbl, xbs) := by
  obtain ⟨hv, hct⟩ := ln_V vd_W0 hP0 hL
  have gV : gr_V (vd_W V n) (n + 2) := vd_gr hn0 vd_W0 vd_Wm hv
  have hct2 : gr_ct (vd_W V n) (n + 2) ≤ 63 := by
    rw [xs_ctN (W := vd_W V n) (i := n + 1) (gs_nS (Or.inr (Or.inl vd_Wm))), hct]; omega
  unfold wpX_compile
  refine br_f (nI_ne0 hn0 (by omega)) ?_
  refine xv_valid hn rfl hal rfl rfl (fun _ => br_f (by decide) ?_) (fun z => absurd hv z)
  refine xv_count hn rfl hal rfl rfl ?_
  rw [hct]
  refine pk_le P 63 (fun _ => ?_) (fun z => by omega)
  refine xb_build hn0 hn rfl rfl gV hct2 hal rfl rfl ?_
  intro xF xS xl xp1 xp2 xp3 xN xfo xsl xuf xul xus xbf xbl xbs hR
  obtain ⟨n0, rfl, hb, hp, hmin, hA, hfin, hsl, -⟩ := hR
  have hFO : ∀ p q, xr_FO xfo p q ↔ q = p + 1 ∧ q ≤ P := by
    intro p q
    rw [hA.2.2.1 p q]
    exact ln_FO vd_W0 vd_Wm hn0 hL p q
  have hG : lx_G P mk xF xfo xsl := by
    refine ⟨hFO, fun p hp => by rw [hfin p hp]; exact ln_fin vd_W0 vd_Wm hn0 hP0 hL p, fun l q hl q1 q2 => ?_⟩
    obtain ⟨t, g, hS, -⟩ := (ln_FO vd_W0 vd_Wm hn0 hL (q - 1) q).mpr ⟨by omega, q2⟩
    have hS' := hS
    obtain ⟨s1, s2, s3, -⟩ := hS
    obtain ⟨i, i1, rfl⟩ := ln_src vd_W0 vd_Wm hL s2 s1
    rw [(ln_all vd_W0 hL i (by omega)).1.2.2.1] at s3
    have hq : q < 64 := by omega
    have e := hsl (97 + l) q (by omega) hq
    rw [Nat.add_sub_cancel_left, ft_iff gV (by omega) hS', ln_fit vd_W0 gV hL i1 hl] at e
    have ei : q - 1 = i := by omega
    rw [ei]
    unfold xr_M
    rw [e]
    exact ⟨fun z => z.2, fun z => ⟨hq, z⟩⟩
  refine lx_start (y := y) hP hk hG ?_
  intro xeb xss xws hT
  exact h _ _ _ _ _ _ _ _ _ _ _ _ _ _ _ _ _ _ hG hT
end
