/-! The calls that read the text's values. -/
theorem i_vc_errorsAt {k : Nat} {u : SX} {v : SY} (I : i_Rel k u v) (hk : k + 2 ≤ 1025) (v1 : Int32) : wpX_errorsAt (fun r => wpY_errorsAt (fun r' => r' = r ∧ i_Rel (k + 2) u v) v v1) u v1 := by
  have J := I
  obtain ⟨xk, xn, xc, xF, xS, xP, xt, xl, xp1, xp2, xp3, xN, xV, xfo, xsl, xeb, xss, xws, xuf, xul, xus, xbf, xbl, xbs⟩ := u
  obtain ⟨yk, yn, yc, ym, ye, yP, yS, yt, yC, yV, yw, yl, yf, yg, yx, yd, yq, yz⟩ := v
  obtain ⟨K, n, tl, V, co, rfl, rfl, rfl, rfl, rfl, rfl, rfl, rfl, rfl, rfl, rfl, hK, hn, htl, hal, hc0, hc1⟩ := I
  unfold wpX_errorsAt wpY_errorsAt
  cases co with
  | false => exact br_t rfl (br_t rfl ⟨rfl, J⟩)
  | true =>
    obtain ⟨_, _, _, D, t, c, h1, h2, _⟩ := hc1 rfl
    refine br_f (by decide) (br_c (fun z => br_f (by decide) (br_t z ⟨rfl, J⟩)) (fun z => ?_))
    obtain ⟨j, hj, rfl⟩ := nI_of z
    refine pk_le j tl (fun q => ?_) (fun q => ?_)
    · rw [nI_clamp hj]
      refine ⟨vp_in_nI (by omega) (by omega), br_f (by decide) (br_f z (pk_le j tl (fun _ => ⟨vp_in_nI (by omega) (by omega), ?_, J⟩) (fun z => by omega)))⟩
      rw [(h2 j q).1, (h2 j q).2]
    · exact br_f (by decide) (br_f z (pk_le j tl (fun z => by omega) (fun _ => ⟨rfl, J⟩)))
section
variable {xk xn xc xS xP xt xl xp3 : Int32} {xF xp1 xp2 xN : Int64} {xV xeb xus xbs : Nat → Int32} {xfo xsl xss xws xuf xul xbf xbl : Nat → Int64}
variable {yk yn yc ym ye yP yS yt yC : Int32} {yV yw yl yf yg yx yd yq yz : Nat → Int32}
theorem rl_cnt {e : Int32} {tl : Nat} (htl : tl ≤ 256) (hD : ∀ j, j ≤ tl → xeb j = yd j) : ∀ d j, j + d = tl + 1 → ∀ x2 : Int32, ∃ r, (∀ post : Int32 → Prop, post r → wX_countWithin_14 post e xk xn xc xF xS xP (nI tl) xl xp1 xp2 xp3 xN xV xfo xsl xeb xss xws xuf xul xus xbf xbl xbs (d + 1) x2 (nI j)) ∧
    (∀ post : Int32 → Prop, post r → wY_countWithin_14 post e yk yn yc ym ye yP yS (nI tl) yC yV yw yl yf yg yx yd yq yz (d + 1) x2 (nI j)) := by
  intro d
  induction d with
  | zero =>
    intro j hj x2
    have h : nI tl < nI j := nI_lt (by omega) (by omega)
    exact ⟨x2, fun post hp => by rw [wX_countWithin_14]; exact br_t h hp, fun post hp => by rw [wY_countWithin_14]; exact br_t h hp⟩
  | succ d ih =>
    intro j hj x2
    have h : ¬ nI tl < nI j := nI_nlt (by omega) (by omega)
    have hi : vp_in (nI j) 257 := vp_in_nI (by omega) (by omega)
    by_cases c : e < xeb j
    · obtain ⟨r, r1, r2⟩ := ih (j + 1) (by omega) x2
      refine ⟨r, fun post hp => ?_, fun post hp => ?_⟩
      · rw [wX_countWithin_14]
        dsimp only
        rw [nI_clamp (by omega)]
        exact br_f h ⟨hi, br_t c (nm_r (nI_1 j) (r1 post hp))⟩
      · rw [wY_countWithin_14]
        dsimp only
        rw [nI_clamp (by omega), ← hD j (by omega)]
        exact br_f h ⟨hi, br_t c (nm_r (nI_1 j) (r2 post hp))⟩
    · obtain ⟨r, r1, r2⟩ := ih (j + 1) (by omega) (x2 + 1)
      refine ⟨r, fun post hp => ?_, fun post hp => ?_⟩
      · rw [wX_countWithin_14]
        dsimp only
        rw [nI_clamp (by omega)]
        exact br_f h ⟨hi, br_f c (nm_e (nm_r (nI_1 j) (r1 post hp)))⟩
      · rw [wY_countWithin_14]
        dsimp only
        rw [nI_clamp (by omega), ← hD j (by omega)]
        exact br_f h ⟨hi, br_f c (nm_e (nm_r (nI_1 j) (r2 post hp)))⟩
theorem rl_fst {e : Int32} {tl : Nat} (htl : tl ≤ 256) (hD : ∀ j, j ≤ tl → xeb j = yd j) : ∀ d j, j + d = tl + 1 → ∃ r, (∀ post : Int32 → Prop, post r → wX_firstWithin_12 post e xk xn xc xF xS xP (nI tl) xl xp1 xp2 xp3 xN xV xfo xsl xeb xss xws xuf xul xus xbf xbl xbs (d + 1) (nI j)) ∧
    (∀ post : Int32 → Prop, post r → wY_firstWithin_12 post e yk yn yc ym ye yP yS (nI tl) yC yV yw yl yf yg yx yd yq yz (d + 1) (nI j)) := by
  intro d
  induction d with
  | zero =>
    intro j hj
    have h : nI tl < nI j := nI_lt (by omega) (by omega)
    exact ⟨0, fun post hp => by rw [wX_firstWithin_12]; exact br_t h hp, fun post hp => by rw [wY_firstWithin_12]; exact br_t h hp⟩
  | succ d ih =>
    intro j hj
    have h : ¬ nI tl < nI j := nI_nlt (by omega) (by omega)
    have hi : vp_in (nI j) 257 := vp_in_nI (by omega) (by omega)
    by_cases c : e < xeb j
    · obtain ⟨r, r1, r2⟩ := ih (j + 1) (by omega)
      refine ⟨r, fun post hp => ?_, fun post hp => ?_⟩
      · rw [wX_firstWithin_12]
        dsimp only
        rw [nI_clamp (by omega)]
        exact br_f h ⟨hi, br_t c (nm_r (nI_1 j) (r1 post hp))⟩
      · rw [wY_firstWithin_12]
        dsimp only
        rw [nI_clamp (by omega), ← hD j (by omega)]
        exact br_f h ⟨hi, br_t c (nm_r (nI_1 j) (r2 post hp))⟩
    · refine ⟨nI j, fun post hp => ?_, fun post hp => ?_⟩
      · rw [wX_firstWithin_12]
        dsimp only
        rw [nI_clamp (by omega)]
        exact br_f h ⟨hi, br_f c hp⟩
      · rw [wY_firstWithin_12]
        dsimp only
        rw [nI_clamp (by omega), ← hD j (by omega)]
        exact br_f h ⟨hi, br_f c hp⟩
end
theorem i_vc_countWithin {k : Nat} {u : SX} {v : SY} (I : i_Rel k u v) (hk : k + 2 ≤ 1025) (v1 : Int32) : wpX_countWithin (fun r => wpY_countWithin (fun r' => r' = r ∧ i_Rel (k + 2) u v) v v1) u v1 := by
  have J := I
  obtain ⟨xk, xn, xc, xF, xS, xP, xt, xl, xp1, xp2, xp3, xN, xV, xfo, xsl, xeb, xss, xws, xuf, xul, xus, xbf, xbl, xbs⟩ := u
  obtain ⟨yk, yn, yc, ym, ye, yP, yS, yt, yC, yV, yw, yl, yf, yg, yx, yd, yq, yz⟩ := v
  obtain ⟨K, n, tl, V, co, rfl, rfl, rfl, rfl, rfl, rfl, rfl, rfl, rfl, rfl, rfl, hK, hn, htl, hal, hc0, hc1⟩ := I
  unfold wpX_countWithin wpY_countWithin
  cases co with
  | false => exact br_t rfl (br_t rfl ⟨rfl, J⟩)
  | true =>
    obtain ⟨_, _, _, D, t, c, h1, h2, _⟩ := hc1 rfl
    have hD : ∀ j, j ≤ tl → xeb j = yd j := fun j hj => by rw [(h2 j hj).1, (h2 j hj).2]
    obtain ⟨r, r1, r2⟩ := rl_cnt (xk := nI K) (xn := nI n) (xc := xb_f true) (xF := xF) (xS := xS) (xP := xP) (xl := xl) (xp1 := xp1) (xp2 := xp2) (xp3 := xp3) (xN := xN) (xV := fun i => nI (V i)) (xfo := xfo) (xsl := xsl) (xss := xss) (xws := xws) (xuf := xuf) (xul := xul) (xus := xus) (xbf := xbf) (xbl := xbl) (xbs := xbs) (yk := nI K) (yn := nI n) (yc := xb_f true) (ym := ym) (ye := ye) (yP := yP) (yS := yS) (yC := nI (K + 1)) (yV := fun i => nI (V i)) (yw := yw) (yl := yl) (yf := yf) (yg := yg) (yx := yx) (yq := yq) (yz := yz) (e := v1) htl hD tl 1 (by omega) 0
    exact br_f (by decide) ⟨_, r1 _ (br_f (by decide) ⟨_, r2 _ ⟨rfl, J⟩⟩)⟩
theorem i_vc_firstWithin {k : Nat} {u : SX} {v : SY} (I : i_Rel k u v) (hk : k + 2 ≤ 1025) (v1 : Int32) : wpX_firstWithin (fun r => wpY_firstWithin (fun r' => r' = r ∧ i_Rel (k + 2) u v) v v1) u v1 := by
  have J := I
  obtain ⟨xk, xn, xc, xF, xS, xP, xt, xl, xp1, xp2, xp3, xN, xV, xfo, xsl, xeb, xss, xws, xuf, xul, xus, xbf, xbl, xbs⟩ := u
  obtain ⟨yk, yn, yc, ym, ye, yP, yS, yt, yC, yV, yw, yl, yf, yg, yx, yd, yq, yz⟩ := v
  obtain ⟨K, n, tl, V, co, rfl, rfl, rfl, rfl, rfl, rfl, rfl, rfl, rfl, rfl, rfl, hK, hn, htl, hal, hc0, hc1⟩ := I
  unfold wpX_firstWithin wpY_firstWithin
  cases co with
  | false => exact br_t rfl (br_t rfl ⟨rfl, J⟩)
  | true =>
    obtain ⟨_, _, _, D, t, c, h1, h2, _⟩ := hc1 rfl
    have hD : ∀ j, j ≤ tl → xeb j = yd j := fun j hj => by rw [(h2 j hj).1, (h2 j hj).2]
    obtain ⟨r, r1, r2⟩ := rl_fst (xk := nI K) (xn := nI n) (xc := xb_f true) (xF := xF) (xS := xS) (xP := xP) (xl := xl) (xp1 := xp1) (xp2 := xp2) (xp3 := xp3) (xN := xN) (xV := fun i => nI (V i)) (xfo := xfo) (xsl := xsl) (xss := xss) (xws := xws) (xuf := xuf) (xul := xul) (xus := xus) (xbf := xbf) (xbl := xbl) (xbs := xbs) (yk := nI K) (yn := nI n) (yc := xb_f true) (ym := ym) (ye := ye) (yP := yP) (yS := yS) (yC := nI (K + 1)) (yV := fun i => nI (V i)) (yw := yw) (yl := yl) (yf := yf) (yg := yg) (yx := yx) (yq := yq) (yz := yz) (e := v1) htl hD tl 1 (by omega)
    exact br_f (by decide) ⟨_, r1 _ (br_f (by decide) ⟨_, r2 _ ⟨rfl, J⟩⟩)⟩
