/-! The relation between the two states. -/
/-- the sets for a match from the text's first letter on, behind j letters -/
def rl_W (fo sl : Nat → Int64) (t : Nat → Nat) : Nat → Nat → Nat → Prop
  | 0 => sm_X0 (xr_FO fo)
  | j + 1 => sm_X1 (xr_FO fo) (rl_W fo sl t j) (xr_M (sl (t j - 97))) False
/-- a compiled pattern: both sides hold its graph -/
def rl_G (W : Nat → Nat) (m : Nat) (xF : Int64) (xS : Int32) (xfo xsl : Nat → Int64) (ym ye : Int32) (yw yl yf yg : Nat → Int32) : Prop :=
  gr_V W m ∧ (∀ i, i < m → W i < 65536) ∧ xb_R W m xfo xsl xF xS ∧ ym = nI m ∧ (∀ i, i < m → yw i = nI (W i)) ∧ ∃ e, ye = nI e ∧ e < 256 ∧ ye_R e yf yg (fun a b => ∃ x, x < m ∧ gr_E W x a b 0) ∧ yb_T W m m yl
/-- the text and what both sides have found for it -/
def rl_T (W : Nat → Nat) (m K tl : Nat) (xfo xsl : Nat → Int64) (xeb : Nat → Int32) (xss xws : Nat → Int64) (yx yd yq : Nat → Int32) : Prop :=
  ∃ D t c : Nat → Nat, (∀ i, i < tl → gr_L (t i) ∧ yx i = nI (t i)) ∧ (∀ j, j ≤ tl → xeb j = nI (D j) ∧ yd j = nI (D j)) ∧
    (∀ c0, sm_C m K (sm_R W m) (sm_X0 (xr_FO xfo)) c0 → D 0 = c0 m) ∧
    (∀ s, s ≤ m → yq s = nI (c s)) ∧ sm_C m K (sm_R W m) (xr_XS xss) c ∧ (∀ d p, d ≤ K → (xr_XS xws d p ↔ rl_W xfo xsl t tl d p))
def rl_R (xk : Int32) (xn : Int32) (xc : Int32) (xF : Int64) (xS : Int32) (xP : Int32) (xt : Int32) (xl : Int32) (xp1 : Int64) (xp2 : Int64) (xp3 : Int32) (xN : Int64) (xV : Nat → Int32) (xfo : Nat → Int64) (xsl : Nat → Int64) (xeb : Nat → Int32) (xss : Nat → Int64) (xws : Nat → Int64) (xuf : Nat → Int64) (xul : Nat → Int64) (xus : Nat → Int32) (xbf : Nat → Int64) (xbl : Nat → Int64) (xbs : Nat → Int32) (yk : Int32) (yn : Int32) (yc : Int32) (ym : Int32) (ye : Int32) (yP : Int32) (yS : Int32) (yt : Int32) (yC : Int32) (yV : Nat → Int32) (yw : Nat → Int32) (yl : Nat → Int32) (yf : Nat → Int32) (yg : Nat → Int32) (yx : Nat → Int32) (yd : Nat → Int32) (yq : Nat → Int32) (yz : Nat → Int32) : Prop :=
  ∃ (K n tl : Nat) (V : Nat → Nat) (co : Bool), xk = nI K ∧ yk = nI K ∧ xn = nI n ∧ yn = nI n ∧ xV = (fun i => nI (V i)) ∧ yV = (fun i => nI (V i)) ∧ xc = xb_f co ∧ yc = xb_f co ∧ xt = nI tl ∧ yt = nI tl ∧ yC = nI (K + 1) ∧
    K ≤ 7 ∧ n ≤ 64 ∧ tl ≤ 256 ∧ (∀ i, i < n → vd_al (V i)) ∧ (co = false → tl = 0) ∧
    (co = true → xP = yP ∧ xS = yS ∧ rl_G (vd_W V n) (n + 2) xF xS xfo xsl ym ye yw yl yf yg ∧ rl_T (vd_W V n) (n + 2) K tl xfo xsl xeb xss xws yx yd yq)
def i_Rel (k : Nat) (u : SX) (v : SY) : Prop := match u with
  | (xk, xn, xc, xF, xS, xP, xt, xl, xp1, xp2, xp3, xN, xV, xfo, xsl, xeb, xss, xws, xuf, xul, xus, xbf, xbl, xbs) => match v with
    | (yk, yn, yc, ym, ye, yP, yS, yt, yC, yV, yw, yl, yf, yg, yx, yd, yq, yz) => rl_R xk xn xc xF xS xP xt xl xp1 xp2 xp3 xN xV xfo xsl xeb xss xws xuf xul xus xbf xbl xbs yk yn yc ym ye yP yS yt yC yV yw yl yf yg yx yd yq yz
theorem i_up {k : Nat} {u : SX} {v : SY} (h : i_Rel k u v) : i_Rel (k + 2) u v := h
theorem rl_0 {K : Nat} (hK : K ≤ 7) : i_Rel 1 (nI K, 0, 0, 0, 0, 0, 0, 0, 0, 0, 0, 1, (fun _ => 0), (fun _ => 0), (fun _ => 0), (fun _ => 0), (fun _ => 0), (fun _ => 0), (fun _ => 0), (fun _ => 0), (fun _ => 0), (fun _ => 0), (fun _ => 0), (fun _ => 0))
    (nI K, 0, 0, 0, 0, 0, 0, 0, nI (K + 1), (fun _ => 0), (fun _ => 0), (fun _ => 0), (fun _ => 0), (fun _ => 0), (fun _ => 0), (fun _ => 0), (fun _ => 0), (fun _ => 0)) :=
  ⟨K, 0, 0, fun _ => 0, false, rfl, rfl, nI_0.symm, nI_0.symm, by funext i; exact nI_0.symm, by funext i; exact nI_0.symm, rfl, rfl, nI_0.symm, nI_0.symm, rfl, hK, by omega, by omega, fun i h => absurd h (by omega), fun _ => rfl, fun h => Bool.noConfusion h⟩
theorem i_vc0 (k0 : Int32) : wpX_init (fun u => wpY_init (fun v => i_Rel 1 u v) k0) k0 := by
  unfold wpX_init wpY_init wY_init_102
  by_cases h0 : 0 ≤ k0
  · refine br_t h0 ?_
    by_cases h7 : k0 ≤ 7
    · refine br_t h7 (br_t h0 (br_t h7 ?_))
      obtain ⟨K, hK, rfl⟩ := nI_of2 (n := 7) (by decide) (Int32.not_lt.mpr h0) h7
      exact nm_r (nI_1 K) (rl_0 hK)
    · exact br_f h7 (br_t h0 (br_f h7 (nm_r (nI_1 7) (rl_0 (K := 7) (by omega)))))
  · exact br_f h0 (br_f h0 (nm_r (nI_1 0) (rl_0 (K := 0) (by omega))))
section
variable {xk xn xc xS xP xt xl xp3 : Int32} {xF xp1 xp2 xN : Int64} {xV xeb xus xbs : Nat → Int32} {xfo xsl xss xws xuf xul xbf xbl : Nat → Int64}
variable {yk yn yc ym ye yP yS yt yC : Int32} {yV yw yl yf yg yx yd yq yz : Nat → Int32}
theorem rl_isP {post : Int32 → Prop} {c : Nat} (hc : c < 65536) (h1 : vd_al c → post 1) (h0 : ¬ vd_al c → post 0) : wpX_isPatternChar post (nI c) := by
  unfold wpX_isPatternChar
  refine xw_isL hc (fun hL => br_f (by decide) (h1 (Or.inl hL))) (fun hL => br_t rfl ?_)
  refine xw_isO hc (fun hO => br_f (by decide) (h1 (Or.inr (Or.inl hO)))) (fun hO => br_t rfl ?_)
  exact pk_eq c 46 (fun _ => h1 (by omega)) (fun _ => pk_eq c 124 (fun _ => h1 (by omega)) (fun _ => pk_eq c 91 (fun _ => h1 (by omega)) (fun _ => pk_eq c 93 (fun _ => h1 (by omega)) (fun _ => pk_eq c 40 (fun _ => h1 (by omega)) (fun _ => pk_eq c 41 (fun _ => h1 (by omega)) (fun _ => h0 (by omega)))))))
theorem rl_isPY {post : Int32 → SY → Prop} {c : Nat} (hc : c < 65536) (h1 : vd_al c → wY_patternChar_57 post (nI c) 1 yk yn yc ym ye yP yS yt yC yV yw yl yf yg yx yd yq yz) (h0 : ¬ vd_al c → wY_patternChar_57 post (nI c) 0 yk yn yc ym ye yP yS yt yC yV yw yl yf yg yx yd yq yz) : wpY_patternChar post (yk, yn, yc, ym, ye, yP, yS, yt, yC, yV, yw, yl, yf, yg, yx, yd, yq, yz) (nI c) := by
  unfold wpY_patternChar
  dsimp only
  have h52 : vd_al c → wY_patternChar_52 post (nI c) yk yn yc ym ye yP yS yt yC yV yw yl yf yg yx yd yq yz := fun q => h1 q
  refine yw_isL hc (fun hL => br_f (by decide) (h52 (Or.inl hL))) (fun hL => br_t rfl ?_)
  refine pk_eq c 46 (fun _ => h52 (by omega)) (fun _ => pk_eq c 91 (fun _ => h52 (by omega)) (fun _ => pk_eq c 93 (fun _ => h52 (by omega)) (fun _ => pk_eq c 40 (fun _ => h52 (by omega)) (fun _ => pk_eq c 41 (fun _ => h52 (by omega)) (fun _ => pk_eq c 124 (fun _ => h52 (by omega)) (fun _ => ?_))))))
  exact yw_isO hc (fun hO => br_f (by decide) (h52 (Or.inr (Or.inl hO)))) (fun hO => br_t rfl (h0 (by omega)))
end
theorem i_vc_patternChar {k : Nat} {u : SX} {v : SY} (I : i_Rel k u v) (hk : k + 2 ≤ 1025) (v1 : Int32) : wpX_patternChar (fun r u' => wpY_patternChar (fun r' v' => r' = r ∧ i_Rel (k + 2) u' v') v (lw_u16 v1)) u (lw_u16 v1) := by
  have J := I
  obtain ⟨xk, xn, xc, xF, xS, xP, xt, xl, xp1, xp2, xp3, xN, xV, xfo, xsl, xeb, xss, xws, xuf, xul, xus, xbf, xbl, xbs⟩ := u
  obtain ⟨yk, yn, yc, ym, ye, yP, yS, yt, yC, yV, yw, yl, yf, yg, yx, yd, yq, yz⟩ := v
  obtain ⟨K, n, tl, V, co, rfl, rfl, rfl, rfl, rfl, rfl, rfl, rfl, rfl, rfl, rfl, hK, hn, htl, hal, hc0, hc1⟩ := I
  obtain ⟨c, hc, e, _⟩ := em_w v1
  have e : lw_u16 v1 = nI c := e
  rw [e]
  unfold wpX_patternChar
  refine rl_isP hc (fun ha => br_f (by decide) ?_) (fun ha => br_t rfl ?_)
  · refine pk_lt n 64 (fun hlt => ?_) (fun hge => ?_)
    · rw [nI_clamp (by omega), yb_nar hc, nI_1]
      refine ⟨vp_in_nI hlt (by omega), nm_e (nm_e ?_)⟩
      unfold wpX_dropCompiled
      refine rl_isPY hc (fun _ => ?_) (fun z => absurd ha z)
      unfold wY_patternChar_57
      refine br_f (by decide) (pk_lt n 64 (fun _ => ?_) (fun z => by omega))
      rw [nI_clamp (by omega), yb_nar hc, nI_1]
      refine ⟨vp_in_nI hlt (by omega), nm_e (nm_e ⟨rfl, ?_⟩)⟩
      have eV : upd (fun i => nI (V i)) n (nI c) = fun i => nI (if i = n then c else V i) := by
        funext i
        unfold upd
        by_cases q : i = n
        · rw [if_pos q, if_pos q]
        · rw [if_neg q, if_neg q]
      rw [eV]
      refine ⟨K, n + 1, 0, _, false, rfl, rfl, rfl, rfl, rfl, rfl, rfl, rfl, nI_0.symm, nI_0.symm, rfl, hK, by omega, by omega, fun i hi => ?_, fun _ => rfl, fun h => Bool.noConfusion h⟩
      by_cases q : i = n
      · rw [if_pos q]; exact ha
      · rw [if_neg q]; exact hal i (by omega)
    · refine rl_isPY hc (fun _ => ?_) (fun z => absurd ha z)
      unfold wY_patternChar_57
      exact br_f (by decide) (pk_lt n 64 (fun z => by omega) (fun _ => ⟨rfl, J⟩))
  · refine rl_isPY hc (fun z => absurd z ha) (fun _ => ?_)
    unfold wY_patternChar_57
    exact br_t rfl ⟨rfl, J⟩
theorem i_vc_clearPattern {k : Nat} {u : SX} {v : SY} (I : i_Rel k u v) (hk : k + 2 ≤ 1025) : wpX_clearPattern (fun u' => wpY_clearPattern (fun v' => i_Rel (k + 2) u' v') v) u := by
  obtain ⟨xk, xn, xc, xF, xS, xP, xt, xl, xp1, xp2, xp3, xN, xV, xfo, xsl, xeb, xss, xws, xuf, xul, xus, xbf, xbl, xbs⟩ := u
  obtain ⟨yk, yn, yc, ym, ye, yP, yS, yt, yC, yV, yw, yl, yf, yg, yx, yd, yq, yz⟩ := v
  obtain ⟨K, n, tl, V, co, rfl, rfl, rfl, rfl, rfl, rfl, rfl, rfl, rfl, rfl, rfl, hK, hn, htl, hal, hc0, hc1⟩ := I
  unfold wpX_clearPattern wpY_clearPattern wpX_dropCompiled
  exact ⟨K, 0, 0, V, false, rfl, rfl, nI_0.symm, nI_0.symm, rfl, rfl, rfl, rfl, nI_0.symm, nI_0.symm, rfl, hK, by omega, by omega, fun i h => absurd h (by omega), fun _ => rfl, fun h => Bool.noConfusion h⟩
theorem i_vc_getK {k : Nat} {u : SX} {v : SY} (I : i_Rel k u v) (hk : k + 2 ≤ 1025) : wpX_getK (fun r => wpY_getK (fun r' => r' = r ∧ i_Rel (k + 2) u v) v) u := by
  have J := I
  obtain ⟨xk, xn, xc, xF, xS, xP, xt, xl, xp1, xp2, xp3, xN, xV, xfo, xsl, xeb, xss, xws, xuf, xul, xus, xbf, xbl, xbs⟩ := u
  obtain ⟨yk, yn, yc, ym, ye, yP, yS, yt, yC, yV, yw, yl, yf, yg, yx, yd, yq, yz⟩ := v
  obtain ⟨K, n, tl, V, co, rfl, rfl, rfl, rfl, rfl, rfl, rfl, rfl, rfl, rfl, rfl, hK, hn, htl, hal, hc0, hc1⟩ := I
  exact ⟨rfl, J⟩
theorem i_vc_patternLength {k : Nat} {u : SX} {v : SY} (I : i_Rel k u v) (hk : k + 2 ≤ 1025) : wpX_patternLength (fun r => wpY_patternLength (fun r' => r' = r ∧ i_Rel (k + 2) u v) v) u := by
  have J := I
  obtain ⟨xk, xn, xc, xF, xS, xP, xt, xl, xp1, xp2, xp3, xN, xV, xfo, xsl, xeb, xss, xws, xuf, xul, xus, xbf, xbl, xbs⟩ := u
  obtain ⟨yk, yn, yc, ym, ye, yP, yS, yt, yC, yV, yw, yl, yf, yg, yx, yd, yq, yz⟩ := v
  obtain ⟨K, n, tl, V, co, rfl, rfl, rfl, rfl, rfl, rfl, rfl, rfl, rfl, rfl, rfl, hK, hn, htl, hal, hc0, hc1⟩ := I
  exact ⟨rfl, J⟩
theorem rl_nb (co : Bool) : narrow .boolean (.int (xb_f co)) = .int (xb_f co) := by
  cases co <;> rfl
theorem i_vc_isCompiled {k : Nat} {u : SX} {v : SY} (I : i_Rel k u v) (hk : k + 2 ≤ 1025) : wpX_isCompiled (fun r => wpY_isCompiled (fun r' => r' = r ∧ i_Rel (k + 2) u v) v) u := by
  have J := I
  obtain ⟨xk, xn, xc, xF, xS, xP, xt, xl, xp1, xp2, xp3, xN, xV, xfo, xsl, xeb, xss, xws, xuf, xul, xus, xbf, xbl, xbs⟩ := u
  obtain ⟨yk, yn, yc, ym, ye, yP, yS, yt, yC, yV, yw, yl, yf, yg, yx, yd, yq, yz⟩ := v
  obtain ⟨K, n, tl, V, co, rfl, rfl, rfl, rfl, rfl, rfl, rfl, rfl, rfl, rfl, rfl, hK, hn, htl, hal, hc0, hc1⟩ := I
  exact ⟨rl_nb co, rl_nb co, rfl, J⟩
theorem i_vc_positions {k : Nat} {u : SX} {v : SY} (I : i_Rel k u v) (hk : k + 2 ≤ 1025) : wpX_positions (fun r => wpY_positions (fun r' => r' = r ∧ i_Rel (k + 2) u v) v) u := by
  have J := I
  obtain ⟨xk, xn, xc, xF, xS, xP, xt, xl, xp1, xp2, xp3, xN, xV, xfo, xsl, xeb, xss, xws, xuf, xul, xus, xbf, xbl, xbs⟩ := u
  obtain ⟨yk, yn, yc, ym, ye, yP, yS, yt, yC, yV, yw, yl, yf, yg, yx, yd, yq, yz⟩ := v
  obtain ⟨K, n, tl, V, co, rfl, rfl, rfl, rfl, rfl, rfl, rfl, rfl, rfl, rfl, rfl, hK, hn, htl, hal, hc0, hc1⟩ := I
  unfold wpX_positions wpY_positions
  cases co with
  | false => exact br_t rfl (br_t rfl ⟨rfl, J⟩)
  | true => exact br_f (by decide) (br_f (by decide) ⟨(hc1 rfl).1.symm, J⟩)
theorem i_vc_nullable {k : Nat} {u : SX} {v : SY} (I : i_Rel k u v) (hk : k + 2 ≤ 1025) : wpX_nullable (fun r => wpY_nullable (fun r' => r' = r ∧ i_Rel (k + 2) u v) v) u := by
  have J := I
  obtain ⟨xk, xn, xc, xF, xS, xP, xt, xl, xp1, xp2, xp3, xN, xV, xfo, xsl, xeb, xss, xws, xuf, xul, xus, xbf, xbl, xbs⟩ := u
  obtain ⟨yk, yn, yc, ym, ye, yP, yS, yt, yC, yV, yw, yl, yf, yg, yx, yd, yq, yz⟩ := v
  obtain ⟨K, n, tl, V, co, rfl, rfl, rfl, rfl, rfl, rfl, rfl, rfl, rfl, rfl, rfl, hK, hn, htl, hal, hc0, hc1⟩ := I
  unfold wpX_nullable wpY_nullable
  cases co with
  | false => exact br_t rfl (br_t rfl ⟨rfl, J⟩)
  | true =>
    obtain ⟨_, rfl, _⟩ := hc1 rfl
    refine br_f (by decide) (br_c (fun z => br_f (by decide) (br_t z ⟨rfl, J⟩)) (fun z => br_f (by decide) (br_f z ⟨rfl, J⟩)))
theorem i_vc_minLength {k : Nat} {u : SX} {v : SY} (I : i_Rel k u v) (hk : k + 2 ≤ 1025) : wpX_minLength (fun r => wpY_minLength (fun r' => r' = r ∧ i_Rel (k + 2) u v) v) u := by
  have J := I
  obtain ⟨xk, xn, xc, xF, xS, xP, xt, xl, xp1, xp2, xp3, xN, xV, xfo, xsl, xeb, xss, xws, xuf, xul, xus, xbf, xbl, xbs⟩ := u
  obtain ⟨yk, yn, yc, ym, ye, yP, yS, yt, yC, yV, yw, yl, yf, yg, yx, yd, yq, yz⟩ := v
  obtain ⟨K, n, tl, V, co, rfl, rfl, rfl, rfl, rfl, rfl, rfl, rfl, rfl, rfl, rfl, hK, hn, htl, hal, hc0, hc1⟩ := I
  unfold wpX_minLength wpY_minLength
  cases co with
  | false => exact br_t rfl (br_t rfl ⟨rfl, J⟩)
  | true => exact br_f (by decide) (br_f (by decide) ⟨(hc1 rfl).2.1.symm, J⟩)
theorem i_vc_textLength {k : Nat} {u : SX} {v : SY} (I : i_Rel k u v) (hk : k + 2 ≤ 1025) : wpX_textLength (fun r => wpY_textLength (fun r' => r' = r ∧ i_Rel (k + 2) u v) v) u := by
  have J := I
  obtain ⟨xk, xn, xc, xF, xS, xP, xt, xl, xp1, xp2, xp3, xN, xV, xfo, xsl, xeb, xss, xws, xuf, xul, xus, xbf, xbl, xbs⟩ := u
  obtain ⟨yk, yn, yc, ym, ye, yP, yS, yt, yC, yV, yw, yl, yf, yg, yx, yd, yq, yz⟩ := v
  obtain ⟨K, n, tl, V, co, rfl, rfl, rfl, rfl, rfl, rfl, rfl, rfl, rfl, rfl, rfl, hK, hn, htl, hal, hc0, hc1⟩ := I
  unfold wpX_textLength wpY_textLength
  cases co with
  | false => exact br_t rfl ⟨by rw [hc0 rfl]; exact nI_0.symm, J⟩
  | true => exact br_f (by decide) ⟨rfl, J⟩
