/-! The component's other methods over one state. -/
section
variable {xk xn xc xS xP xt xl xp3 : Int32} {xF xp1 xp2 xN : Int64} {xV xeb xus xbs : Nat → Int32} {xfo xsl xss xws xuf xul xbf xbl : Nat → Int64}
variable {W : Nat → Nat}
theorem xv_ic {i : Nat} (hp : vd_p W (i + 1)) (h : gr_ic W (i + 1) = true) : W i = 91 ∨ gr_L (W i) := by
  rw [gr_ic1, Bool.or_eq_true, Bool.and_eq_true] at h
  rcases h with h | ⟨h1, h2⟩
  · left; exact eq_of_beq h
  · right
    have hi : 1 ≤ i := by
      cases i with
      | zero => exact absurd h1 (by simp [gr_ic])
      | succ i => omega
    rcases (hp i hi (by omega)).2.1 h1 with q | q
    · exact q
    · rw [q.1] at h2; exact absurd h2 (by decide)
theorem xv_dp {i : Nat} (h0 : W 0 = 40) (hp : vd_p W (i + 1)) : 1 ≤ gr_dp W (i + 1) := by
  cases i with
  | zero => rw [gr_dp1, if_pos h0]; omega
  | succ i => exact (hp (i + 1) (by omega) (by omega)).1
theorem xv_d1 {p : Prop} {d : Decidable p} (h : p) : xb_f (@decide p d) = 1 := by rw [decide_eq_true h]; rfl
theorem xv_d0 {p : Prop} {d : Decidable p} (h : ¬ p) : xb_f (@decide p d) = 0 := by rw [decide_eq_false h]; rfl
theorem xv_91 {i : Nat} (h : gr_ic W (i + 1) = false) : W i ≠ 91 := by
  intro e
  rw [gr_ic1] at h
  simp [e] at h
theorem xv_loop {post : Int32 → Prop} {V : Nat → Nat} {n : Nat} (hn : n ≤ 64) (hW : W = vd_W V n) (hal : ∀ i, i < n → vd_al (V i)) (hxn : xn = nI n) (hxV : xV = fun i => nI (V i))
    (h1 : vd_V W n → post 1) (h0 : ¬ vd_V W n → post 0) :
    ∀ d i, i + d = n → vd_p W (i + 1) → wX_isValidPattern_12 post xk xn xc xF xS xP xt xl xp1 xp2 xp3 xN xV xfo xsl xeb xss xws xuf xul xus xbf xbl xbs (d + 1) (nI (gr_dp W (i + 1) - 1)) (xb_f (decide (W i = 40 ∨ W i = 124))) (xb_f (gr_ic W (i + 1))) (xb_f (decide (W i = 91))) (nI i) := by
  have w0 : W 0 = 40 := by rw [hW]; rfl
  intro d
  induction d with
  | zero =>
    intro i hi hp
    have : i = n := by omega
    subst this
    have hd := xv_dp w0 hp
    have hdl := gr_dpl (W := W) (i + 1)
    rw [wX_isValidPattern_12]
    subst hxn
    refine br_t (nI_le (Nat.le_refl _) (by omega)) ?_
    refine pk_eq (gr_dp W (i + 1) - 1) 0 (fun e => ?_) (fun e => h0 (fun q => e (by have := q.2.1; omega)))
    by_cases c : W i = 40 ∨ W i = 124
    · rw [xv_d1 c]
      exact br_f (by decide) (h0 (fun q => by have := q.2.2.2; omega))
    · rw [xv_d0 c]
      refine br_t rfl ?_
      cases hc : gr_ic W (i + 1) with
      | false => exact br_t rfl (h1 ⟨hp, by omega, hc, by omega, by omega⟩)
      | true => exact br_f (by decide) (h0 (fun q => by have := q.2.2.1; rw [hc] at this; exact Bool.noConfusion this))
  | succ d ih =>
    intro i hi hp
    have hd := xv_dp w0 hp
    have hdl := gr_dpl (W := W) (i + 1)
    have hWi : W (i + 1) = V i := by rw [hW]; exact vd_W1 (by omega)
    have hali := hal i (by omega)
    rw [← hWi] at hali
    have hcl : W (i + 1) < 65536 := by omega
    have ex : xV (nI i).toNatClampNeg = nI (W (i + 1)) := by rw [hxV, nI_clamp (by omega), hWi]
    have bad : ¬ vd_c W (i + 1) → post 0 := fun q => h0 (fun v => q (v.1 (i + 1) (by omega) (by omega)))
    have next : vd_c W (i + 1) → ∀ (a b c e : Int32), a = nI (gr_dp W (i + 1 + 1) - 1) → b = xb_f (decide (W (i + 1) = 40 ∨ W (i + 1) = 124)) → c = xb_f (gr_ic W (i + 1 + 1)) → e = xb_f (decide (W (i + 1) = 91)) →
        wX_isValidPattern_12 post xk xn xc xF xS xP xt xl xp1 xp2 xp3 xN xV xfo xsl xeb xss xws xuf xul xus xbf xbl xbs (d + 1) a b c e (nI (i + 1)) := by
      intro q a b c e ea eb ec ee
      subst ea eb ec ee
      exact ih (i + 1) (by omega) (vd_p1 hp q)
    rw [wX_isValidPattern_12]
    refine br_f (by rw [hxn]; exact nI_ge (by omega) (by omega)) ⟨vp_in_nI (by omega) (by omega), nm_r ex ?_⟩
    cases hic : gr_ic W (i + 1) with
    | false =>
      have h91 := xv_91 hic
      rw [xv_d0 h91]
      have icn : W (i + 1) ≠ 91 → gr_ic W (i + 1 + 1) = false := fun e => xs_icL hic e
      refine br_t rfl ?_
      refine pk_eq (W (i + 1)) 91 (fun e => nm_r (nI_1 i) ?_) (fun e91 => ?_)
      · have hdp : gr_dp W (i + 1 + 1) = gr_dp W (i + 1) := xs_dpn (by omega) (by omega)
        refine next ⟨by omega, fun q => by rw [hic] at q; exact Bool.noConfusion q, fun _ => Or.inl (Or.inr (Or.inr e))⟩ _ _ _ _ (by rw [hdp]) (xv_d0 (by omega)).symm ?_ (xv_d1 e).symm
        rw [gr_ic1]; simp [e, xb_f]
      · refine pk_eq (W (i + 1)) 40 (fun e => nm_r (nI_1 _) (nm_r (nI_1 i) ?_)) (fun e40 => ?_)
        · have hdp : gr_dp W (i + 1 + 1) = gr_dp W (i + 1) + 1 := by rw [gr_dp1, if_pos e]
          exact next ⟨by omega, fun q => by rw [hic] at q; exact Bool.noConfusion q, fun _ => Or.inr (Or.inl e)⟩ _ _ _ _ (by rw [hdp]; congr 1; omega) (xv_d1 (Or.inl e)).symm (by rw [icn e91]) (xv_d0 e91).symm
        · have hdp : W (i + 1) ≠ 41 → gr_dp W (i + 1 + 1) = gr_dp W (i + 1) := fun q => xs_dpn e40 q
          have src : W (i + 1) ≠ 41 → W (i + 1) ≠ 124 → (gr_L (W (i + 1)) ∨ W (i + 1) = 46) → wX_isValidPattern_12 post xk xn xc xF xS xP xt xl xp1 xp2 xp3 xN xV xfo xsl xeb xss xws xuf xul xus xbf xbl xbs (d + 1) (nI (gr_dp W (i + 1) - 1)) 0 (xb_f false) 0 (nI (i + 1)) := by
            intro q1 q2 q3
            exact next ⟨by rw [hdp q1]; exact hd, fun q => by rw [hic] at q; exact Bool.noConfusion q, fun _ => Or.inl (by omega)⟩ _ _ _ _ (by rw [hdp q1]) (xv_d0 (by omega)).symm (by rw [icn e91]) (xv_d0 e91).symm
          refine xw_isL hcl (fun hL => br_f (by decide) (nm_r (nI_1 i) (src (by omega) (by omega) (Or.inl hL)))) (fun hL => br_t rfl ?_)
          refine pk_eq (W (i + 1)) 46 (fun e => nm_r (nI_1 i) (src (by omega) (by omega) (Or.inr e))) (fun e46 => ?_)
          by_cases c : W i = 40 ∨ W i = 124
          · rw [xv_d1 c]
            refine br_f (by decide) (bad (fun q => ?_))
            have := q.2.2 hic
            rw [Nat.add_sub_cancel] at this
            omega
          · rw [xv_d0 c]
            refine br_t rfl (pk_eq (W (i + 1)) 93 (fun e => bad (fun q => by have := q.2.2 hic; omega)) (fun e93 => ?_))
            have good : 1 ≤ gr_dp W (i + 1 + 1) → vd_c W (i + 1) := fun q => ⟨q, fun q => by rw [hic] at q; exact Bool.noConfusion q, fun _ => Or.inr (Or.inr ⟨by omega, by rw [Nat.add_sub_cancel]; omega, by rw [Nat.add_sub_cancel]; omega⟩)⟩
            refine pk_eq (W (i + 1)) 124 (fun e => nm_r (nI_1 i) (next (good (by rw [hdp (by omega)]; exact hd)) _ _ _ _ (by rw [hdp (by omega)]) (xv_d1 (Or.inr e)).symm (by rw [icn e91]) (xv_d0 e91).symm)) (fun e124 => ?_)
            refine pk_eq (W (i + 1)) 41 (fun e => ?_) (fun e41 => nm_r (nI_1 i) (next (good (by rw [hdp e41]; exact hd)) _ _ _ _ (by rw [hdp e41]) (xv_d0 (by omega)).symm (by rw [icn e91]) (xv_d0 e91).symm))
            have hdq : gr_dp W (i + 1 + 1) = gr_dp W (i + 1) - 1 := by rw [gr_dp1, if_neg e40, if_pos e]
            refine pk_eq (gr_dp W (i + 1) - 1) 0 (fun e0 => bad (fun q => by have := q.1; omega)) (fun e0 => ?_)
            refine nm_r (e' := nI (gr_dp W (i + 1 + 1) - 1)) ?_ (nm_r (nI_1 i) (next (good (by omega)) _ _ _ _ rfl (xv_d0 (by omega)).symm (by rw [icn e91]) (xv_d0 e91).symm))
            obtain ⟨k, hk⟩ : ∃ k, gr_dp W (i + 1) - 1 = k + 1 := ⟨gr_dp W (i + 1) - 2, by omega⟩
            rw [hk, pk_m1]
            congr 1
            omega
    | true =>
      have hprev := xv_ic hp hic
      rw [xv_d0 (p := W i = 40 ∨ W i = 124) (by omega)]
      have h56 : vd_c W (i + 1) → (gr_L (W (i + 1)) ∨ W (i + 1) = 93) → wX_isValidPattern_56 post (wX_isValidPattern_12 post xk xn xc xF xS xP xt xl xp1 xp2 xp3 xN xV xfo xsl xeb xss xws xuf xul xus xbf xbl xbs (d + 1)) (nI (gr_dp W (i + 1) - 1)) 0 (nI i) (nI (W (i + 1))) xk xn xc xF xS xP xt xl xp1 xp2 xp3 xN xV xfo xsl xeb xss xws xuf xul xus xbf xbl xbs := by
        intro q q2
        have hdp : gr_dp W (i + 1 + 1) = gr_dp W (i + 1) := xs_dpn (by omega) (by omega)
        unfold wX_isValidPattern_56
        refine pk_eq (W (i + 1)) 93 (fun e => nm_r (nI_1 i) (next q _ _ _ _ (by rw [hdp]) (xv_d0 (by omega)).symm ?_ (xv_d0 (by omega)).symm)) (fun e => nm_r (nI_1 i) (next q _ _ _ _ (by rw [hdp]) (xv_d0 (by omega)).symm ?_ (xv_d0 (by omega)).symm))
        · rw [gr_ic1, hic]; simp [e, xb_f]
        · rw [gr_ic1, hic, beq_false_of_ne e]; simp [xb_f]
      refine br_f (by decide) ?_
      have hdp : gr_dp W (i + 1 + 1) = if W (i + 1) = 40 then gr_dp W (i + 1) + 1 else if W (i + 1) = 41 then gr_dp W (i + 1) - 1 else gr_dp W (i + 1) := gr_dp1
      refine xw_isL hcl (fun hL => br_f (by decide) (h56 ⟨?_, fun _ => Or.inl hL, fun q => by rw [hic] at q; exact Bool.noConfusion q⟩ (Or.inl hL))) (fun hL => br_t rfl ?_)
      · rw [hdp, if_neg (by omega), if_neg (by omega)]; exact hd
      · refine pk_eq (W (i + 1)) 93 (fun e => ?_) (fun e => bad (fun q => by have := q.2.1 hic; omega))
        by_cases c : W i = 91
        · rw [xv_d1 c]
          refine br_f (by decide) (bad (fun q => ?_))
          have := q.2.1 hic
          rw [Nat.add_sub_cancel] at this
          omega
        · rw [xv_d0 c]
          refine br_t rfl (h56 ⟨?_, fun _ => Or.inr ⟨e, by rw [Nat.add_sub_cancel]; exact c⟩, fun q => by rw [hic] at q; exact Bool.noConfusion q⟩ (Or.inr e))
          rw [hdp, if_neg (by omega), if_neg (by omega)]; exact hd
theorem xv_valid {post : Int32 → Prop} {V : Nat → Nat} {n : Nat} (hn : n ≤ 64) (hW : W = vd_W V n) (hal : ∀ i, i < n → vd_al (V i)) (hxn : xn = nI n) (hxV : xV = fun i => nI (V i))
    (h1 : vd_V W n → post 1) (h0 : ¬ vd_V W n → post 0) : wpX_isValidPattern post (xk, xn, xc, xF, xS, xP, xt, xl, xp1, xp2, xp3, xN, xV, xfo, xsl, xeb, xss, xws, xuf, xul, xus, xbf, xbl, xbs) := by
  have w0 : W 0 = 40 := by rw [hW]; rfl
  unfold wpX_isValidPattern
  dsimp only
  refine ⟨n + 1, ?_⟩
  have q := xv_loop (xk := xk) (xc := xc) (xF := xF) (xS := xS) (xP := xP) (xt := xt) (xl := xl) (xp1 := xp1) (xp2 := xp2) (xp3 := xp3) (xN := xN) (xfo := xfo) (xsl := xsl) (xeb := xeb) (xss := xss) (xws := xws) (xuf := xuf) (xul := xul) (xus := xus) (xbf := xbf) (xbl := xbl) (xbs := xbs) hn hW hal hxn hxV h1 h0 n 0 (by omega) (fun x q1 q2 => by omega)
  have e1 : gr_dp W (0 + 1) - 1 = 0 := by rw [gr_dp1, if_pos w0]; rfl
  have e2 : gr_ic W (0 + 1) = false := by rw [gr_ic1]; simp [w0, gr_ic]
  rw [e1, xv_d1 (Or.inl w0), e2, xv_d0 (by omega)] at q
  exact q
theorem xv_cloop {post : Int32 → Prop} {V : Nat → Nat} {n : Nat} (hn : n ≤ 64) (hW : W = vd_W V n) (hal : ∀ i, i < n → vd_al (V i)) (hxn : xn = nI n) (hxV : xV = fun i => nI (V i)) (h : post (nI (gr_ct W (n + 1)))) :
    ∀ d i, i + d = n → wX_countPositions_6 post xk xn xc xF xS xP xt xl xp1 xp2 xp3 xN xV xfo xsl xeb xss xws xuf xul xus xbf xbl xbs (d + 1) (nI (gr_ct W (i + 1))) (xb_f (gr_ic W (i + 1))) (nI i) := by
  intro d
  induction d with
  | zero =>
    intro i hi
    have : i = n := by omega
    subst this
    rw [wX_countPositions_6]
    subst hxn
    exact br_t (nI_le (Nat.le_refl _) (by omega)) h
  | succ d ih =>
    intro i hi
    have hWi : W (i + 1) = V i := by rw [hW]; exact vd_W1 (by omega)
    have hali := hal i (by omega)
    rw [← hWi] at hali
    have hcl : W (i + 1) < 65536 := by omega
    have ex : xV (nI i).toNatClampNeg = nI (W (i + 1)) := by rw [hxV, nI_clamp (by omega), hWi]
    rw [wX_countPositions_6]
    refine br_f (by rw [hxn]; exact nI_ge (by omega) (by omega)) ⟨vp_in_nI (by omega) (by omega), nm_r ex ?_⟩
    have h51 : ∀ a, a = nI (gr_ct W (i + 1 + 1)) → wX_countPositions_51 post (wX_countPositions_6 post xk xn xc xF xS xP xt xl xp1 xp2 xp3 xN xV xfo xsl xeb xss xws xuf xul xus xbf xbl xbs (d + 1)) a (xb_f (gr_ic W (i + 1))) (nI i) (nI (W (i + 1))) xk xn xc xF xS xP xt xl xp1 xp2 xp3 xN xV xfo xsl xeb xss xws xuf xul xus xbf xbl xbs := by
      intro a ea
      subst ea
      have q := ih (i + 1) (by omega)
      unfold wX_countPositions_51
      rw [gr_ic1 (i := i + 1)] at q
      refine pk_eq (W (i + 1)) 91 (fun e => nm_r (nI_1 i) ?_) (fun e => ?_)
      · rw [e] at q; exact q
      · rw [beq_false_of_ne e] at q
        cases hi : gr_ic W (i + 1) with
        | false => rw [hi] at q; exact br_t rfl (nm_r (nI_1 i) q)
        | true =>
          rw [hi] at q
          refine br_f (by decide) (pk_eq (W (i + 1)) 93 (fun e' => nm_r (nI_1 i) ?_) (fun e' => nm_r (nI_1 i) ?_))
          · rw [e'] at q; exact q
          · rw [beq_false_of_ne e'] at q; exact q
    have h48 : gr_S W (i + 1) → wX_countPositions_48 post (wX_countPositions_6 post xk xn xc xF xS xP xt xl xp1 xp2 xp3 xN xV xfo xsl xeb xss xws xuf xul xus xbf xbl xbs (d + 1)) (nI (gr_ct W (i + 1))) (xb_f (gr_ic W (i + 1))) (nI i) (nI (W (i + 1))) xk xn xc xF xS xP xt xl xp1 xp2 xp3 xN xV xfo xsl xeb xss xws xuf xul xus xbf xbl xbs := by
      intro q
      unfold wX_countPositions_48
      exact nm_e (h51 _ (by rw [nI_1, xs_ctS q]))
    refine pk_eq (W (i + 1)) 46 (fun e => h48 (Or.inl e)) (fun e46 => pk_eq (W (i + 1)) 91 (fun e => h48 (Or.inr (Or.inl e))) (fun e91 => ?_))
    refine xw_isL hcl (fun hL => br_f (by decide) ?_) (fun hL => br_t rfl (h51 _ (by rw [xs_ctN (i := i + 1) (by rintro (q | q | ⟨q, _⟩) <;> omega)])))
    cases hi : gr_ic W (i + 1) with
    | false =>
      have q := h48 (Or.inr (Or.inr ⟨hL, hi⟩))
      rw [hi] at q
      exact br_t rfl q
    | true =>
      have q := h51 (nI (gr_ct W (i + 1))) (by rw [xs_ctN (i := i + 1) (by rintro (q | q | ⟨_, q⟩); omega; omega; (rw [hi] at q; exact Bool.noConfusion q))])
      rw [hi] at q
      exact br_f (by decide) q
theorem xv_count {post : Int32 → Prop} {V : Nat → Nat} {n : Nat} (hn : n ≤ 64) (hW : W = vd_W V n) (hal : ∀ i, i < n → vd_al (V i)) (hxn : xn = nI n) (hxV : xV = fun i => nI (V i)) (h : post (nI (gr_ct W (n + 1)))) :
    wpX_countPositions post (xk, xn, xc, xF, xS, xP, xt, xl, xp1, xp2, xp3, xN, xV, xfo, xsl, xeb, xss, xws, xuf, xul, xus, xbf, xbl, xbs) := by
  have w0 : W 0 = 40 := by rw [hW]; rfl
  unfold wpX_countPositions
  dsimp only
  refine ⟨n + 1, ?_⟩
  have q := xv_cloop (xk := xk) (xc := xc) (xF := xF) (xS := xS) (xP := xP) (xt := xt) (xl := xl) (xp1 := xp1) (xp2 := xp2) (xp3 := xp3) (xN := xN) (xfo := xfo) (xsl := xsl) (xeb := xeb) (xss := xss) (xws := xws) (xuf := xuf) (xul := xul) (xus := xus) (xbf := xbf) (xbl := xbl) (xbs := xbs) hn hW hal hxn hxV h n 0 (by omega)
  have e1 : gr_ct W (0 + 1) = 0 := by rw [xs_ctN (gs_nS (by omega))]; rfl
  have e2 : gr_ic W (0 + 1) = false := by rw [gr_ic1]; simp [w0, gr_ic]
  rw [e1, e2] at q
  exact q
end
