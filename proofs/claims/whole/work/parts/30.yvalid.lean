/-! The reference: validity and the count of positions. -/
section
variable {yk yn yc ym ye yP yS yt yC : Int32} {yV yw yl yf yg yx yd yq yz : Nat → Int32}
variable {W : Nat → Nat}
theorem yw_isL {post : Int32 → Prop} {c : Nat} (hc : c < 65536) (h1 : gr_L c → post 1) (h0 : ¬ gr_L c → post 0) : wpY_isLetter post (yk, yn, yc, ym, ye, yP, yS, yt, yC, yV, yw, yl, yf, yg, yx, yd, yq, yz) (nI c) := by
  unfold wpY_isLetter
  dsimp only
  exact pk_lt c 97 (fun h => h0 (by omega)) (fun h => pk_lt 122 c (fun h' => h0 (by omega)) (fun h' => h1 ⟨h, h'⟩))
theorem yw_isO {post : Int32 → Prop} {c : Nat} (hc : c < 65536) (h1 : gr_O c → post 1) (h0 : ¬ gr_O c → post 0) : wpY_isOp post (yk, yn, yc, ym, ye, yP, yS, yt, yC, yV, yw, yl, yf, yg, yx, yd, yq, yz) (nI c) := by
  unfold wpY_isOp
  dsimp only
  exact pk_eq c 42 (fun h => h1 (by omega)) (fun h => pk_eq c 43 (fun h' => h1 (by omega)) (fun h' => pk_eq c 63 (fun h'' => h1 (by omega)) (fun h'' => h0 (by omega))))
theorem yv_loop {post : Int32 → Prop} {V : Nat → Nat} {n : Nat} (hn : n ≤ 64) (hW : W = vd_W V n) (hal : ∀ i, i < n → vd_al (V i)) (hyn : yn = nI n) (hyV : yV = fun i => nI (V i))
    (h1 : vd_V W n → post 1) (h0 : ¬ vd_V W n → post 0) :
    ∀ d i, i + d = n → vd_p W (i + 1) → ∀ x2 x4 : Int32, (gr_ic W (i + 1) = false → x2 = xb_f (decide (W i = 40 ∨ W i = 124))) → (gr_ic W (i + 1) = true → ∃ c, c ≤ i ∧ x4 = nI c ∧ (c = 0 ↔ W i = 91)) →
      wY_valid_12 post yk yn yc ym ye yP yS yt yC yV yw yl yf yg yx yd yq yz (d + 1) (nI (gr_dp W (i + 1) - 1)) x2 (xb_f (gr_ic W (i + 1))) x4 (nI i) := by
  have w0 : W 0 = 40 := by rw [hW]; rfl
  intro d
  induction d with
  | zero =>
    intro i hi hp x2 x4 hx2 hx4
    have : i = n := by omega
    subst this
    have hd := xv_dp w0 hp
    have hdl := gr_dpl (W := W) (i + 1)
    rw [wY_valid_12]
    subst hyn
    refine br_t (nI_le (Nat.le_refl _) (by omega)) ?_
    cases hc : gr_ic W (i + 1) with
    | true => exact br_f (by decide) (h0 (fun q => by have := q.2.2.1; rw [hc] at this; exact Bool.noConfusion this))
    | false =>
      refine br_t rfl ?_
      rw [hx2 hc]
      by_cases c : W i = 40 ∨ W i = 124
      · rw [xv_d1 c]
        exact br_f (by decide) (h0 (fun q => by have := q.2.2.2; omega))
      · rw [xv_d0 c]
        refine br_t rfl ?_
        exact pk_eq (gr_dp W (i + 1) - 1) 0 (fun e => h1 ⟨hp, by omega, hc, by omega, by omega⟩) (fun e => h0 (fun q => e (by have := q.2.1; omega)))
  | succ d ih =>
    intro i hi hp x2 x4 hx2 hx4
    have hd := xv_dp w0 hp
    have hdl := gr_dpl (W := W) (i + 1)
    have hWi : W (i + 1) = V i := by rw [hW]; exact vd_W1 (by omega)
    have hali := hal i (by omega)
    rw [← hWi] at hali
    have hcl : W (i + 1) < 65536 := by omega
    have ex : yV (nI i).toNatClampNeg = nI (W (i + 1)) := by rw [hyV, nI_clamp (by omega), hWi]
    have bad : ¬ vd_c W (i + 1) → post 0 := fun q => h0 (fun v => q (v.1 (i + 1) (by omega) (by omega)))
    have next : vd_c W (i + 1) → ∀ (a b c e : Int32), a = nI (gr_dp W (i + 1 + 1) - 1) → (gr_ic W (i + 1 + 1) = false → b = xb_f (decide (W (i + 1) = 40 ∨ W (i + 1) = 124))) → c = xb_f (gr_ic W (i + 1 + 1)) → (gr_ic W (i + 1 + 1) = true → ∃ c, c ≤ i + 1 ∧ e = nI c ∧ (c = 0 ↔ W (i + 1) = 91)) →
        wY_valid_12 post yk yn yc ym ye yP yS yt yC yV yw yl yf yg yx yd yq yz (d + 1) a b c e (nI (i + 1)) := by
      intro q a b c e ea eb ec ee
      subst ea ec
      exact ih (i + 1) (by omega) (vd_p1 hp q) b e eb ee
    rw [wY_valid_12]
    refine br_f (by rw [hyn]; exact nI_ge (by omega) (by omega)) ⟨vp_in_nI (by omega) (by omega), nm_r ex ?_⟩
    cases hic : gr_ic W (i + 1) with
    | false =>
      have icn : W (i + 1) ≠ 91 → gr_ic W (i + 1 + 1) = false := fun e => xs_icL hic e
      have nt : ∀ {P : Prop}, gr_ic W (i + 1) = true → P := fun q => by rw [hic] at q; exact Bool.noConfusion q
      have nt2 : W (i + 1) ≠ 91 → ∀ {P : Prop}, gr_ic W (i + 1 + 1) = true → P := fun e _ q => by rw [icn e] at q; exact Bool.noConfusion q
      refine br_t rfl ?_
      have hdp : W (i + 1) ≠ 40 → W (i + 1) ≠ 41 → gr_dp W (i + 1 + 1) = gr_dp W (i + 1) := fun p q => xs_dpn p q
      have src : W (i + 1) ≠ 40 → W (i + 1) ≠ 41 → W (i + 1) ≠ 91 → W (i + 1) ≠ 124 → (gr_L (W (i + 1)) ∨ W (i + 1) = 46) → wY_valid_12 post yk yn yc ym ye yP yS yt yC yV yw yl yf yg yx yd yq yz (d + 1) (nI (gr_dp W (i + 1) - 1)) 0 (xb_f false) x4 (nI (i + 1)) := by
        intro q0 q1 q2 q4 q3
        exact next ⟨by rw [hdp q0 q1]; exact hd, nt, fun _ => Or.inl (by omega)⟩ _ _ _ _ (by rw [hdp q0 q1]) (fun _ => (xv_d0 (by omega)).symm) (by rw [icn q2]) (nt2 q2)
      refine yw_isL hcl (fun hL => br_f (by decide) (nm_r (nI_1 i) (src (by omega) (by omega) (by omega) (by omega) (Or.inl hL)))) (fun hL => br_t rfl ?_)
      refine pk_eq (W (i + 1)) 46 (fun e => nm_r (nI_1 i) (src (by omega) (by omega) (by omega) (by omega) (Or.inr e))) (fun e46 => ?_)
      refine pk_eq (W (i + 1)) 91 (fun e => nm_r (nI_1 i) ?_) (fun e91 => ?_)
      · have hic2 : gr_ic W (i + 1 + 1) = true := by rw [gr_ic1]; simp [e]
        refine next ⟨by rw [hdp (by omega) (by omega)]; exact hd, nt, fun _ => Or.inl (Or.inr (Or.inr e))⟩ _ _ _ _ (by rw [hdp (by omega) (by omega)]) (fun q => by rw [hic2] at q; exact Bool.noConfusion q) (by rw [hic2]; rfl) (fun _ => ⟨0, by omega, nI_0.symm, by simp [e]⟩)
      · refine pk_eq (W (i + 1)) 40 (fun e => nm_r (nI_1 _) (nm_r (nI_1 i) ?_)) (fun e40 => ?_)
        · have hdq : gr_dp W (i + 1 + 1) = gr_dp W (i + 1) + 1 := by rw [gr_dp1, if_pos e]
          exact next ⟨by omega, nt, fun _ => Or.inr (Or.inl e)⟩ _ _ _ _ (by rw [hdq]; congr 1; omega) (fun _ => (xv_d1 (Or.inl e)).symm) (by rw [icn e91]) (nt2 e91)
        · rw [hx2 hic]
          by_cases c : W i = 40 ∨ W i = 124
          · rw [xv_d1 c]
            refine br_f (by decide) (bad (fun q => ?_))
            have := q.2.2 hic
            rw [Nat.add_sub_cancel] at this
            omega
          · rw [xv_d0 c]
            refine br_t rfl ?_
            have good : W (i + 1) ≠ 93 → 1 ≤ gr_dp W (i + 1 + 1) → vd_c W (i + 1) := fun p q => ⟨q, nt, fun _ => Or.inr (Or.inr ⟨by omega, by rw [Nat.add_sub_cancel]; omega, by rw [Nat.add_sub_cancel]; omega⟩)⟩
            refine pk_eq (W (i + 1)) 124 (fun e => nm_r (nI_1 i) (next (good (by omega) (by rw [hdp e40 (by omega)]; exact hd)) _ _ _ _ (by rw [hdp e40 (by omega)]) (fun _ => (xv_d1 (Or.inr e)).symm) (by rw [icn e91]) (nt2 e91))) (fun e124 => ?_)
            refine pk_eq (W (i + 1)) 41 (fun e => ?_) (fun e41 => ?_)
            · have hdq : gr_dp W (i + 1 + 1) = gr_dp W (i + 1) - 1 := by rw [gr_dp1, if_neg e40, if_pos e]
              refine pk_eq (gr_dp W (i + 1) - 1) 0 (fun e0 => bad (fun q => by have := q.1; omega)) (fun e0 => ?_)
              refine nm_r (e' := nI (gr_dp W (i + 1 + 1) - 1)) ?_ (nm_r (nI_1 i) (next (good (by omega) (by omega)) _ _ _ _ rfl (fun _ => (xv_d0 (by omega)).symm) (by rw [icn e91]) (nt2 e91)))
              obtain ⟨k, hk⟩ : ∃ k, gr_dp W (i + 1) - 1 = k + 1 := ⟨gr_dp W (i + 1) - 2, by omega⟩
              rw [hk, pk_m1]
              congr 1
              omega
            · refine yw_isO hcl (fun hO => br_f (by decide) (nm_r (nI_1 i) ?_)) (fun hO => br_t rfl (bad (fun q => by have := q.2.2 hic; omega)))
              exact next (good (by omega) (by rw [hdp e40 e41]; exact hd)) _ _ _ _ (by rw [hdp e40 e41]) (fun _ => (xv_d0 (by omega)).symm) (by rw [icn e91]) (nt2 e91)
    | true =>
      obtain ⟨k, hk1, hk2, hk3⟩ := hx4 hic
      subst hk2
      have nf : ∀ {P : Prop}, gr_ic W (i + 1) = false → P := fun q => by rw [hic] at q; exact Bool.noConfusion q
      refine br_f (by decide) ?_
      refine yw_isL hcl (fun hL => br_f (by decide) (nm_r (nI_1 k) (nm_r (nI_1 i) ?_))) (fun hL => br_t rfl ?_)
      · have hdp : gr_dp W (i + 1 + 1) = gr_dp W (i + 1) := xs_dpn (by omega) (by omega)
        have hic2 : gr_ic W (i + 1 + 1) = true := by
          rw [gr_ic1, hic, beq_false_of_ne (a := W (i + 1)) (b := 93) (by omega)]; simp
        exact next ⟨by rw [hdp]; exact hd, fun _ => Or.inl hL, nf⟩ _ _ _ _ (by rw [hdp]) (fun q => by rw [hic2] at q; exact Bool.noConfusion q) (by rw [hic2]) (fun _ => ⟨k + 1, by omega, rfl, by omega⟩)
      · refine pk_eq (W (i + 1)) 93 (fun e => ?_) (fun e => bad (fun q => by have := q.2.1 hic; omega))
        have hdp : gr_dp W (i + 1 + 1) = gr_dp W (i + 1) := xs_dpn (by omega) (by omega)
        have hic2 : gr_ic W (i + 1 + 1) = false := by rw [gr_ic1, hic]; simp [e]
        refine pk_le k 0 (fun q => bad (fun v => ?_)) (fun q => nm_r (nI_1 i) ?_)
        · have := v.2.1 hic
          rw [Nat.add_sub_cancel] at this
          omega
        · exact next ⟨by rw [hdp]; exact hd, fun _ => Or.inr ⟨e, by rw [Nat.add_sub_cancel]; omega⟩, nf⟩ _ _ _ _ (by rw [hdp]) (fun _ => (xv_d0 (by omega)).symm) (by rw [hic2]; rfl) (fun q => by rw [hic2] at q; exact Bool.noConfusion q)
theorem yv_valid {post : Int32 → Prop} {V : Nat → Nat} {n : Nat} (hn : n ≤ 64) (hW : W = vd_W V n) (hal : ∀ i, i < n → vd_al (V i)) (hyn : yn = nI n) (hyV : yV = fun i => nI (V i))
    (h1 : vd_V W n → post 1) (h0 : ¬ vd_V W n → post 0) : wpY_valid post (yk, yn, yc, ym, ye, yP, yS, yt, yC, yV, yw, yl, yf, yg, yx, yd, yq, yz) := by
  have w0 : W 0 = 40 := by rw [hW]; rfl
  unfold wpY_valid
  dsimp only
  refine ⟨n + 1, ?_⟩
  have e1 : gr_dp W (0 + 1) - 1 = 0 := by rw [gr_dp1, if_pos w0]; rfl
  have e2 : gr_ic W (0 + 1) = false := by rw [gr_ic1]; simp [w0, gr_ic]
  have q := yv_loop (yk := yk) (yc := yc) (ym := ym) (ye := ye) (yP := yP) (yS := yS) (yt := yt) (yC := yC) (yw := yw) (yl := yl) (yf := yf) (yg := yg) (yx := yx) (yd := yd) (yq := yq) (yz := yz) hn hW hal hyn hyV h1 h0 n 0 (by omega) (fun x q1 q2 => by omega) 1 0 (fun _ => (xv_d1 (Or.inl w0)).symm) (fun q => by rw [e2] at q; exact Bool.noConfusion q)
  rw [e1, e2] at q
  exact q
theorem yv_cloop {post : Int32 → Prop} {V : Nat → Nat} {n : Nat} (hn : n ≤ 64) (hW : W = vd_W V n) (hal : ∀ i, i < n → vd_al (V i)) (hyn : yn = nI n) (hyV : yV = fun i => nI (V i)) (hp : vd_p W (n + 1)) (h : post (nI (gr_ct W (n + 1)))) :
    ∀ d i, i + d = n → wY_countPositions_6 post yk yn yc ym ye yP yS yt yC yV yw yl yf yg yx yd yq yz (d + 1) (nI (gr_ct W (i + 1))) (xb_f (gr_ic W (i + 1))) (nI i) := by
  intro d
  induction d with
  | zero =>
    intro i hi
    have : i = n := by omega
    subst this
    rw [wY_countPositions_6]
    subst hyn
    exact br_t (nI_le (Nat.le_refl _) (by omega)) h
  | succ d ih =>
    intro i hi
    have hWi : W (i + 1) = V i := by rw [hW]; exact vd_W1 (by omega)
    have hali := hal i (by omega)
    rw [← hWi] at hali
    have hcl : W (i + 1) < 65536 := by omega
    have ex : yV (nI i).toNatClampNeg = nI (W (i + 1)) := by rw [hyV, nI_clamp (by omega), hWi]
    have hv := hp (i + 1) (by omega) (by omega)
    rw [wY_countPositions_6]
    refine br_f (by rw [hyn]; exact nI_ge (by omega) (by omega)) ⟨vp_in_nI (by omega) (by omega), nm_r ex ?_⟩
    have next : ∀ a b : Int32, a = nI (gr_ct W (i + 1 + 1)) → b = xb_f (gr_ic W (i + 1 + 1)) → wY_countPositions_6 post yk yn yc ym ye yP yS yt yC yV yw yl yf yg yx yd yq yz (d + 1) a b (nI (i + 1)) := by
      intro a b ea eb
      subst ea eb
      exact ih (i + 1) (by omega)
    cases hic : gr_ic W (i + 1) with
    | false =>
      have icn : W (i + 1) ≠ 91 → gr_ic W (i + 1 + 1) = false := fun e => xs_icL hic e
      refine br_t rfl (yw_isL hcl (fun hL => br_f (by decide) (nm_r (nI_1 _) (nm_r (nI_1 i) ?_))) (fun hL => br_t rfl ?_))
      · exact next _ _ (by rw [xs_ctS (i := i + 1) (Or.inr (Or.inr ⟨hL, hic⟩))]) (by rw [icn (by omega)])
      · refine pk_eq (W (i + 1)) 46 (fun e => nm_r (nI_1 _) (nm_r (nI_1 i) (next _ _ (by rw [xs_ctS (i := i + 1) (Or.inl e)]) (by rw [icn (by omega)])))) (fun e46 => ?_)
        refine pk_eq (W (i + 1)) 91 (fun e => nm_r (nI_1 _) (nm_r (nI_1 i) (next _ _ (by rw [xs_ctS (i := i + 1) (Or.inr (Or.inl e))]) ?_))) (fun e91 => ?_)
        · rw [gr_ic1]; simp [e, xb_f]
        · exact nm_r (nI_1 i) (next _ _ (by rw [xs_ctN (i := i + 1) (by rintro (q | q | ⟨q, _⟩) <;> omega)]) (by rw [icn e91]))
    | true =>
      have hq := hv.2.1 hic
      have hN : gr_ct W (i + 1 + 1) = gr_ct W (i + 1) := xs_ctN (by rintro (q | q | ⟨_, q⟩); omega; omega; (rw [hic] at q; exact Bool.noConfusion q))
      refine br_f (by decide) (pk_eq (W (i + 1)) 93 (fun e => nm_r (nI_1 i) (next _ _ (by rw [hN]) ?_)) (fun e => nm_r (nI_1 i) (next _ _ (by rw [hN]) ?_)))
      · rw [gr_ic1, hic]; simp [e, xb_f]
      · rw [gr_ic1, hic, beq_false_of_ne e]; simp [xb_f]
theorem yv_count {post : Int32 → Prop} {V : Nat → Nat} {n : Nat} (hn : n ≤ 64) (hW : W = vd_W V n) (hal : ∀ i, i < n → vd_al (V i)) (hyn : yn = nI n) (hyV : yV = fun i => nI (V i)) (hp : vd_p W (n + 1)) (h : post (nI (gr_ct W (n + 1)))) :
    wpY_countPositions post (yk, yn, yc, ym, ye, yP, yS, yt, yC, yV, yw, yl, yf, yg, yx, yd, yq, yz) := by
  have w0 : W 0 = 40 := by rw [hW]; rfl
  unfold wpY_countPositions
  dsimp only
  refine ⟨n + 1, ?_⟩
  have q := yv_cloop (yk := yk) (yc := yc) (ym := ym) (ye := ye) (yP := yP) (yS := yS) (yt := yt) (yC := yC) (yw := yw) (yl := yl) (yf := yf) (yg := yg) (yx := yx) (yd := yd) (yq := yq) (yz := yz) hn hW hal hyn hyV hp h n 0 (by omega)
  have e1 : gr_ct W (0 + 1) = 0 := by rw [xs_ctN (gs_nS (by omega))]; rfl
  have e2 : gr_ic W (0 + 1) = false := by rw [gr_ic1]; simp [w0, gr_ic]
  rw [e1, e2] at q
  exact q
end
