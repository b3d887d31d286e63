/-! The calls that change or search the text. -/
theorem rl_rc {m K : Nat} {Rp : Nat → Nat → Prop} {fo : Nat → Int64} {u : Nat → Nat} (h : sm_C m K Rp (sm_X0 (xr_FO fo)) u) : sm_C m K Rp (xr_XS (xr_rc fo)) u :=
  xr_Cc h (fun d p _ => (xr_rcX fo d p).symm)
theorem rl_mix {K d p : Nat} {g f : Nat → Int64} (hd : d ≤ K) : xr_XS (xt_mix (K + 1) g f) d p ↔ xr_XS g d p := by
  unfold xr_XS xt_mix
  rw [if_pos (by omega)]
theorem rl_Wc {fo sl : Nat → Int64} {t t' : Nat → Nat} : ∀ n, (∀ j, j < n → t j = t' j) → rl_W fo sl t n = rl_W fo sl t' n := by
  intro n
  induction n with
  | zero => intro _; rfl
  | succ n ih =>
    intro h
    show sm_X1 (xr_FO fo) (rl_W fo sl t n) (xr_M (sl (t n - 97))) False = sm_X1 (xr_FO fo) (rl_W fo sl t' n) (xr_M (sl (t' n - 97))) False
    rw [ih (fun j hj => h j (by omega)), h n (by omega)]
theorem rl_M {W : Nat → Nat} {m x : Nat} {sl : Nat → Int64} (hV : gr_V W m) (hct : gr_ct W m ≤ 63) (hx : gr_L x) (h : xb_S W m sl) : ∀ q t g, sm_S W m q t g → (xr_M (sl (x - 97)) q ↔ ft_y W m x t) := by
  intro q t g hS
  have hq : q < 64 := by
    obtain ⟨h1, h2, h3, _⟩ := hS
    have := xb_ct hct h1 h2
    omega
  rw [← ft_iff hV hx hS, ← h x q hx hq]
  exact ⟨fun z => z.2, fun z => ⟨hq, z⟩⟩
theorem i_vc_resetText {k : Nat} {u : SX} {v : SY} (I : i_Rel k u v) (hk : k + 2 ≤ 1025) : wpX_resetText (fun u' => wpY_resetText (fun v' => i_Rel (k + 2) u' v') v) u := by
  obtain ⟨xk, xn, xc, xF, xS, xP, xt, xl, xp1, xp2, xp3, xN, xV, xfo, xsl, xeb, xss, xws, xuf, xul, xus, xbf, xbl, xbs⟩ := u
  obtain ⟨yk, yn, yc, ym, ye, yP, yS, yt, yC, yV, yw, yl, yf, yg, yx, yd, yq, yz⟩ := v
  obtain ⟨K, n, tl, V, co, rfl, rfl, rfl, rfl, rfl, rfl, rfl, rfl, rfl, rfl, rfl, hK, hn, htl, hal, hc0, hc1⟩ := I
  unfold wpX_resetText wpY_resetText
  cases co with
  | false =>
    have := hc0 rfl
    subst this
    exact br_t rfl (br_t rfl ⟨K, n, 0, V, false, rfl, rfl, rfl, rfl, rfl, rfl, rfl, rfl, rfl, nI_0.symm, rfl, hK, hn, htl, hal, fun _ => rfl, fun h => Bool.noConfusion h⟩)
  | true =>
    obtain ⟨eP, eS, hG, D, t, c, h1, h2, h3, h4, h5, h6⟩ := hc1 rfl
    have hG' := hG
    obtain ⟨gV, gW, ⟨n0, hS, hn0, hp, hmin, hA, hfin, hsl⟩, rfl, hw, e, rfl, he, hE, hT⟩ := hG
    obtain ⟨lv, hlv⟩ := xt_Lx K (xr_rc xfo) xF
    refine br_f (by decide) (xt_start hK hlv ?_)
    refine br_f (by decide) (yc_init (B := 0) (C := K + 1) (W := vd_W V n) (m := n + 2) (by omega) (by omega) (by omega) hA rfl rfl he hE hT rfl ?_)
    intro yq' yz u hu hq _
    have hI := sm_init (K := K) (v0 := fun s => if s = 0 then 0 else K + 1) hA (if_pos rfl) (fun s _ hs => if_neg hs) hu
    have e0 := h3 u hI
    have e1 := xt_Lu hlv (rl_rc hI) hfin
    refine ⟨K, n, 0, V, true, rfl, rfl, rfl, rfl, rfl, rfl, rfl, rfl, nI_0.symm, nI_0.symm, rfl, hK, hn, by omega, hal, fun h => Bool.noConfusion h, fun _ => ⟨eP, eS, hG', D, t, u, fun i hi => absurd hi (by omega), ?_, h3, fun s hs => ?_, xr_Cc (rl_rc hI) (fun d p hd => (rl_mix hd).symm), fun d p hd => ?_⟩⟩
    · intro j hj
      have : j = 0 := by omega
      subst this
      exact ⟨by rw [pk_us, e0, e1], (h2 0 (Nat.zero_le _)).2⟩
    · have := hq s hs
      rw [Nat.zero_add] at this; exact this
    · rw [rl_mix hd]; exact xr_rcX xfo d p
theorem i_vc_feed {k : Nat} {u : SX} {v : SY} (I : i_Rel k u v) (hk : k + 2 ≤ 1025) (v1 : Int32) : wpX_feed (fun r u' => wpY_feed (fun r' v' => r' = r ∧ i_Rel (k + 2) u' v') v (lw_u16 v1)) u (lw_u16 v1) := by
  have J := I
  obtain ⟨xk, xn, xc, xF, xS, xP, xt, xl, xp1, xp2, xp3, xN, xV, xfo, xsl, xeb, xss, xws, xuf, xul, xus, xbf, xbl, xbs⟩ := u
  obtain ⟨yk, yn, yc, ym, ye, yP, yS, yt, yC, yV, yw, yl, yf, yg, yx, yd, yq, yz⟩ := v
  obtain ⟨K, n, tl, V, co, rfl, rfl, rfl, rfl, rfl, rfl, rfl, rfl, rfl, rfl, rfl, hK, hn, htl, hal, hc0, hc1⟩ := I
  obtain ⟨x, hx, ex, _⟩ := em_w v1
  have ex : lw_u16 v1 = nI x := ex
  rw [ex]
  unfold wpX_feed wpY_feed
  cases co with
  | false => exact br_t rfl (br_t rfl ⟨rfl, J⟩)
  | true =>
    refine br_f (by decide) (xw_isL hx (fun hL => br_f (by decide) ?_) (fun hL => br_t rfl (br_f (by decide) (yw_isL hx (fun z => absurd z hL) (fun _ => br_t rfl ⟨rfl, J⟩)))))
    refine pk_lt tl 256 (fun hlt => ?_) (fun hge => br_f (by decide) (yw_isL hx (fun _ => br_f (by decide) (pk_lt tl 256 (fun z => by omega) (fun _ => ⟨rfl, J⟩))) (fun z => absurd hL z)))
    obtain ⟨eP, eS, hG, D, t, c, h1, h2, h3, h4, h5, h6⟩ := hc1 rfl
    have hG' := hG
    obtain ⟨gV, gW, ⟨n0, hS, hn0, hp, hmin, hA, hfin, hsl, hct⟩, rfl, hw, e, rfl, he, hE, hT⟩ := hG
    rw [xw_c97 hL, nI_clamp (by omega)]
    refine ⟨vp_in_nI (by omega) (by omega), nm_e (xt_readS hK (xt_readW hK (nm_r (nI_1 tl) ?_)))⟩
    obtain ⟨lv, hlv⟩ := xt_Lx K (xr_rl xfo xss (xsl (x - 97)) 1) xF
    refine xt_leastS hK (xt_Lc hlv (fun d hd => if_pos (by omega))) ?_
    rw [nI_clamp (by omega)]
    refine ⟨vp_in_nI (by omega) (by omega), nm_e ⟨vp_in_nI (by omega) (by omega), ?_⟩⟩
    rw [pk_us]
    refine br_f (by decide) (yw_isL hx (fun _ => br_f (by decide) (pk_lt tl 256 (fun _ => ?_) (fun z => by omega))) (fun z => absurd hL z))
    rw [nI_clamp (by omega), yb_nar hx]
    refine ⟨vp_in_nI (by omega) (by omega), nm_e (nm_r (nI_1 tl) ?_)⟩
    refine yc_step (B := 0) (K := K) (W := vd_W V n) (m := n + 2) (en := True) (M := xr_M (xsl (x - 97))) (XS := xr_XS xss) (c := c) (by omega) (by omega) hK gV hA rfl rfl he hE hT rfl hw gW hL (Or.inr ⟨by decide, trivial⟩) (rl_M gV hct hL hsl) (fun s hs => by rw [Nat.zero_add]; exact h4 s hs) h5 ?_
    intro yq' yz u hu hq _
    have hX : sm_C (n + 2) K (sm_R (vd_W V n) (n + 2)) (xr_XS (xr_rl xfo xss (xsl (x - 97)) 1)) u := xr_Cc hu (fun d p _ => (xr_rlX xfo xss (xsl (x - 97)) 1 True xr_en1 d p).symm)
    have e1 := xt_Lu hlv hX hfin
    have eq := hq (n + 2) (Nat.le_refl _)
    rw [Nat.zero_add] at eq
    dsimp only
    rw [nI_clamp (by omega), nI_clamp (by omega), eq, e1]
    refine ⟨vp_in_nI (by omega) (by omega), vp_in_nI (by omega) (by omega), nm_e ⟨vp_in_nI (by omega) (by omega), ?_⟩⟩
    rw [pk_us]
    refine ⟨rfl, K, n, tl + 1, V, true, rfl, rfl, rfl, rfl, rfl, rfl, rfl, rfl, rfl, rfl, rfl, hK, hn, by omega, hal, fun h => Bool.noConfusion h, fun _ => ⟨eP, eS, hG', fun j => if j = tl + 1 then lv else D j, fun i => if i = tl then x else t i, u, fun i hi => ?_, fun j hj => ?_, fun c0 hc => ?_, fun s hs => ?_, xr_Cc hX (fun d p hd => (rl_mix hd).symm), fun d p hd => ?_⟩⟩
    · by_cases q : i = tl
      · subst q; simp only [if_true]; exact ⟨hL, pk_us⟩
      · simp only [if_neg q]; rw [pk_un q]; exact h1 i (by omega)
    · by_cases q : j = tl + 1
      · subst q; simp only [if_true]; exact ⟨pk_us, pk_us⟩
      · simp only [if_neg q]; rw [pk_un q, pk_un q]; exact h2 j (by omega)
    · simp only [if_neg (show 0 ≠ tl + 1 by omega)]; exact h3 c0 hc
    · have := hq s hs
      rw [Nat.zero_add] at this; exact this
    · rw [rl_mix hd]
      show _ ↔ sm_X1 (xr_FO xfo) (rl_W xfo xsl (fun i => if i = tl then x else t i) tl) (xr_M (xsl ((if tl = tl then x else t tl) - 97))) False d p
      rw [if_pos rfl, rl_Wc (t' := t) tl (fun j hj => if_neg (by omega))]
      rw [← xr_X1c h6 d p hd]
      exact xr_rlX xfo xws (xsl (x - 97)) 0 False xr_en0 d p
section
variable {yk yn yc ym ye yP yS yt yC : Int32} {yV yw yl yf yg yx yd yq yz : Nat → Int32}
theorem rl_whole {post : Int32 → SY → Prop} {W : Nat → Nat} {m K e tl : Nat} {t : Nat → Nat} {fo sl : Nat → Int64} (hm : m ≤ 66) (hK : K ≤ 7) (htl : tl ≤ 256) (gV : gr_V W m) (hct : gr_ct W m ≤ 63) (gW : ∀ i, i < m → W i < 65536) (hA : sm_A m (sm_G W m) (sm_R W m) (sm_S W m) (xr_FO fo)) (hsl : xb_S W m sl)
    (hym : ym = nI m) (hye : ye = nI e) (he : e < 256) (hE : ye_R e yf yg (fun a b => ∃ x, x < m ∧ gr_E W x a b 0)) (hT : yb_T W m m yl) (hyC : yC = nI (K + 1)) (hw : ∀ i, i < m → yw i = nI (W i)) (hyt : yt = nI tl)
    (ht : ∀ i, i < tl → gr_L (t i) ∧ yx i = nI (t i)) {yq0 : Nat → Int32}
    (h : ∀ (yq yz : Nat → Int32) (u : Nat → Nat), sm_C m K (sm_R W m) (rl_W fo sl t tl) u → (∀ j, j < 68 → yq j = yq0 j) → post (nI (u m)) (yk, yn, yc, ym, ye, yP, yS, yt, yC, yV, yw, yl, yf, yg, yx, yd, yq, yz)) :
    ∀ d j, j + d = tl → ∀ (yq yz : Nat → Int32) (u : Nat → Nat), sm_C m K (sm_R W m) (rl_W fo sl t j) u → (∀ s, s ≤ m → yq (68 + s) = nI (u s)) → (∀ j, j < 68 → yq j = yq0 j) → wY_wholeDistance_18 post (d + 1) (nI j) yk yn yc ym ye yP yS yt yC yV yw yl yf yg yx yd yq yz := by
  intro d
  induction d with
  | zero =>
    intro j hj yq yz u hu hq h0
    have : j = tl := by omega
    subst this
    rw [wY_wholeDistance_18]
    subst hyt
    subst hym
    refine br_t (nI_le (Nat.le_refl _) (by omega)) ?_
    have e1 : (68 : Int32) + nI m = nI (68 + m) := nI_add 68 m
    rw [e1, nI_clamp (by omega), hq m (Nat.le_refl _)]
    exact ⟨vp_in_nI (by omega) (by omega), h yq yz u hu h0⟩
  | succ d ih =>
    intro j hj yq yz u hu hq h0
    rw [wY_wholeDistance_18]
    refine br_f (by rw [hyt]; exact nI_ge (by omega) (by omega)) ⟨vp_in_nI (by omega) (by omega), ?_⟩
    obtain ⟨hL, ex⟩ := ht j (by omega)
    rw [nI_clamp (by omega), ex]
    refine yc_step (B := 68) (K := K) (W := W) (m := m) (en := False) (M := xr_M (sl (t j - 97))) (XS := rl_W fo sl t j) (c := u) hm (by omega) hK gV hA hym hye he hE hT hyC hw gW hL (Or.inl ⟨rfl, id⟩) (rl_M gV hct hL hsl) hq hu ?_
    intro yq' yz u' hu' hq' hq0
    refine nm_r (nI_1 j) (ih (j + 1) (by omega) yq' yz u' hu' hq' (fun i hi => ?_))
    rw [hq0 i (Or.inl hi)]; exact h0 i hi
end
theorem i_vc_wholeDistance {k : Nat} {u : SX} {v : SY} (I : i_Rel k u v) (hk : k + 2 ≤ 1025) : wpX_wholeDistance (fun r => wpY_wholeDistance (fun r' v' => r' = r ∧ i_Rel (k + 2) u v') v) u := by
  have J := I
  obtain ⟨xk, xn, xc, xF, xS, xP, xt, xl, xp1, xp2, xp3, xN, xV, xfo, xsl, xeb, xss, xws, xuf, xul, xus, xbf, xbl, xbs⟩ := u
  obtain ⟨yk, yn, yc, ym, ye, yP, yS, yt, yC, yV, yw, yl, yf, yg, yx, yd, yq, yz⟩ := v
  obtain ⟨K, n, tl, V, co, rfl, rfl, rfl, rfl, rfl, rfl, rfl, rfl, rfl, rfl, rfl, hK, hn, htl, hal, hc0, hc1⟩ := I
  unfold wpX_wholeDistance wpY_wholeDistance
  cases co with
  | false => exact br_t rfl (br_t rfl ⟨rfl, J⟩)
  | true =>
    obtain ⟨eP, eS, hG, D, t, c, h1, h2, h3, h4, h5, h6⟩ := hc1 rfl
    have hG' := hG
    obtain ⟨gV, gW, ⟨n0, hS, hn0, hp, hmin, hA, hfin, hsl, hct⟩, rfl, hw, e, rfl, he, hE, hT⟩ := hG
    obtain ⟨lv, hlv⟩ := xt_Lx K xws xF
    refine br_f (by decide) (xt_leastW hK hlv ?_)
    refine br_f (by decide) (yc_init (B := 68) (C := K + 1) (W := vd_W V n) (m := n + 2) (by omega) (by omega) (by omega) hA rfl rfl he hE hT rfl ?_)
    intro yq' yz u hu hq hq0
    have hI := sm_init (K := K) (v0 := fun s => if s = 0 then 0 else K + 1) hA (if_pos rfl) (fun s _ hs => if_neg hs) hu
    refine ⟨tl + 1, ?_⟩
    refine rl_whole (W := vd_W V n) (m := n + 2) (K := K) (e := e) (tl := tl) (t := t) (fo := xfo) (sl := xsl) (yq0 := yq) (by omega) hK htl gV hct gW hA hsl rfl rfl he hE hT rfl hw rfl h1 ?_ tl 0 (by omega) yq' yz u hI hq (fun j hj => hq0 j (Or.inl hj))
    intro yq'' yz u' hu' hq''
    have e1 := xt_Lu hlv (xr_Cc hu' (fun d p hd => (h6 d p hd).symm)) hfin
    refine ⟨by rw [e1], K, n, tl, V, true, rfl, rfl, rfl, rfl, rfl, rfl, rfl, rfl, rfl, rfl, rfl, hK, hn, htl, hal, fun h => Bool.noConfusion h, fun _ => ⟨eP, eS, hG', D, t, c, h1, h2, h3, fun s hs => ?_, h5, h6⟩⟩
    rw [hq'' s (by omega)]; exact h4 s hs
