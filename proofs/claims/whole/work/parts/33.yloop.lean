/-! The reference: the loop that builds the graph. -/
def yb_T (W : Nat → Nat) (m s : Nat) (l : Nat → Int32) : Prop := ∀ j, j < s → (gr_S W j → l j = nI (gr_tg W m j)) ∧ (¬ gr_S W j → l j = -1)
theorem yb_T1 {W : Nat → Nat} {m s : Nat} {l l' : Nat → Int32} (h : yb_T W m s l) (h1 : ∀ j, j < s → l' j = l j) (h2 : gr_S W s → l' s = nI (gr_tg W m s)) (h3 : ¬ gr_S W s → l' s = -1) : yb_T W m (s + 1) l' := by
  intro j hj
  by_cases c : j = s
  · subst c; exact ⟨h2, h3⟩
  · rw [h1 j (by omega)]; exact h j (by omega)
theorem yb_En {W : Nat → Nat} {m s a b : Nat} (h : W s ≠ 40) (h1 : W s ≠ 41) (h2 : ¬ gr_O (W s)) : ¬ gy_E W m s a b := by
  rintro (⟨z, -⟩ | ⟨z, -⟩ | ⟨z, -⟩)
  · exact h z
  · exact h1 z
  · exact h2 z
theorem yb_Ex {W : Nat → Nat} {m s : Nat} (a b : Nat) : ((∃ s', s' < s ∧ gy_E W m s' a b) ∨ gy_E W m s a b) ↔ ∃ s', s' < s + 1 ∧ gy_E W m s' a b := by
  constructor
  · rintro (⟨x, h1, h2⟩ | h)
    · exact ⟨x, by omega, h2⟩
    · exact ⟨s, by omega, h⟩
  · rintro ⟨x, h1, h2⟩
    by_cases c : x = s
    · subst c; exact Or.inr h2
    · exact Or.inl ⟨x, by omega, h2⟩
theorem yb_Ek {W : Nat → Nat} {m s : Nat} (h : ∀ a b, ¬ gy_E W m s a b) (a b : Nat) : (∃ s', s' < s ∧ gy_E W m s' a b) ↔ ∃ s', s' < s + 1 ∧ gy_E W m s' a b := by
  rw [← yb_Ex]
  exact ⟨Or.inl, fun q => q.elim id (fun z => absurd z (h a b))⟩
section
variable {yk yn yc ym ye yP yS yt yC : Int32} {yV yw yl yf yg yx yd yq yz : Nat → Int32}
variable {W : Nat → Nat} {m : Nat}
theorem yb_loop {post : SY → Prop} (hm : m ≤ 66) (hV : gr_V W m) (hym : ym = nI m) (hw : ∀ i, i < m → yw i = nI (W i)) (hW : ∀ i, i < m → W i < 65536)
    (h : ∀ ye yl yf yg e, ye = nI e → e < 256 → ye_R e yf yg (fun a b => ∃ x, x < m ∧ gr_E W x a b 0) → yb_T W m m yl → post (yk, yn, yc, ym, ye, yP, yS, yt, yC, yV, yw, yl, yf, yg, yx, yd, yq, yz)) :
    ∀ d s, s + d = m → ∀ e yl yf yg, e ≤ 3 * gy_nb W s + 2 * gy_bc W s m → ye_R e yf yg (fun a b => ∃ s', s' < s ∧ gy_E W m s' a b) → yb_T W m s yl →
      wY_build_70 post (d + 1) (xb_f (gr_ic W s)) (nI s) yk yn yc ym (nI e) yP yS yt yC yV yw yl yf yg yx yd yq yz := by
  have hV' := hV
  obtain ⟨v1, v0, vm, vi, vd, v6, vc, vn⟩ := hV
  have bound : ∀ s, s ≤ m → 3 * gy_nb W s + 2 * gy_bc W s m ≤ 198 := by
    intro s hs
    have a := gy_bcl (W := W) s m
    have b := gy_nbm (W := W) (y := s) (m - s)
    rw [show s + (m - s) = m from by omega] at b
    omega
  intro d
  induction d with
  | zero =>
    intro s hs e yl yf yg he hR hT
    have : s = m := by omega
    subst this
    have hb := bound s (Nat.le_refl _)
    rw [wY_build_70]
    subst hym
    refine br_t (nI_le (Nat.le_refl _) (by omega)) ?_
    rw [nI_clamp (by omega)]
    refine ⟨vp_in_nI (by omega) (by omega), nm_e (h _ _ _ _ e rfl (by omega) (ye_Rc hR (fun a b => gy_iff hV' a b)) (fun j hj => ?_))⟩
    rw [pk_un (by omega)]; exact hT j hj
  | succ d ih =>
    intro s hs e yl yf yg he hR hT
    have hb := bound s (by omega)
    have hcl := hW s (by omega)
    have nb1 : gy_nb W (s + 1) = gy_nb W s + (if W s = 124 then 0 else 1) := rfl
    have bc1 := gy_bcs (W := W) s m
    rw [wY_build_70]
    refine br_f (by rw [hym]; exact nI_ge (by omega) (by omega)) ?_
    rw [nI_clamp (by omega), hw s (by omega)]
    refine ⟨vp_in_nI (by omega) (by omega), nm_e ⟨vp_in_nI (by omega) (by omega), nm_e ?_⟩⟩
    have hb1 := bound (s + 1) (by omega)
    have un1 : ∀ (l : Nat → Int32) (x y : Int32) j, j < s → upd (upd l s x) s y j = l j := fun l x y j hj => by rw [pk_un (by omega), pk_un (by omega)]
    have next : ∀ (b : Int32) yl' yf' yg' e', b = xb_f (gr_ic W (s + 1)) → e' ≤ 3 * gy_nb W (s + 1) + 2 * gy_bc W (s + 1) m → ye_R e' yf' yg' (fun a b => ∃ s', s' < s + 1 ∧ gy_E W m s' a b) → yb_T W m (s + 1) yl' →
        wY_build_70 post (d + 1) b (nI (s + 1)) yk yn yc ym (nI e') yP yS yt yC yV yw yl' yf' yg' yx yd yq yz := by
      intro b yl' yf' yg' e' eb h1 h2 h3
      subst eb
      exact ih (s + 1) (by omega) e' yl' yf' yg' h1 h2 h3
    cases hic : gr_ic W s with
    | true =>
      have hs1 : 1 ≤ s := by
        cases s with
        | zero => exact absurd hic (by simp [gr_ic])
        | succ s => omega
      have hcc := vc s hs1 (by omega) hic
      have hNS : ¬ gr_S W s := by
        rintro (q | q | ⟨_, q⟩)
        · omega
        · omega
        · rw [hic] at q; exact Bool.noConfusion q
      have hR' := ye_Rc hR (yb_Ek (fun a b => yb_En (W := W) (m := m) (s := s) (a := a) (b := b) (by omega) (by omega) (by omega)))
      have hT' : yb_T W m (s + 1) (upd yl s (-1)) := yb_T1 hT (fun j hj => pk_un (by omega)) (fun q => absurd q hNS) (fun _ => pk_us)
      refine br_f (by decide) (pk_eq (W s) 93 (fun z => nm_r (nI_1 s) (next _ _ _ _ _ ?_ (by rw [if_neg (by omega)] at nb1; omega) hR' hT')) (fun z => nm_r (nI_1 s) (next _ _ _ _ _ ?_ (by rw [if_neg (by omega)] at nb1; omega) hR' hT')))
      · rw [gr_ic1, hic]; simp [z, xb_f]
      · rw [gr_ic1, hic, beq_false_of_ne z]; simp [xb_f]
    | false =>
      have icn : W s ≠ 91 → gr_ic W (s + 1) = false := fun z => xs_icL hic z
      have hcase : (gr_L (W s) ∨ W s = 46 ∨ W s = 91) ∨ W s = 40 ∨ W s = 124 ∨ W s = 41 ∨ gr_O (W s) := by
        by_cases c : s = 0
        · subst c; exact Or.inr (Or.inl v0)
        · have := vn s (by omega) (by omega) hic; omega
      have hT0 : ¬ gr_S W s → yb_T W m (s + 1) (upd yl s (-1)) := fun q => yb_T1 hT (fun j hj => pk_un (by omega)) (fun z => absurd z q) (fun _ => pk_us)
      refine br_t rfl ?_
      have src : (gr_L (W s) ∨ W s = 46) → wY_build_121 post (wY_build_70 post (d + 1)) (xb_f false) (nI s) yk yn yc ym (nI e) yP yS yt yC yV yw (upd yl s (-1)) yf yg yx yd yq yz := by
        intro z
        unfold wY_build_121
        rw [nI_clamp (by omega), nI_1]
        refine ⟨vp_in_nI (by omega) (by omega), nm_e (nm_e (next _ _ _ _ _ (by rw [icn (by omega)]) (by rw [if_neg (by omega)] at nb1; omega) (ye_Rc hR (yb_Ek (fun a b => yb_En (by omega) (by omega) (by omega)))) (yb_T1 hT (un1 yl _ _) (fun _ => ?_) (fun q => absurd ?_ q))))⟩
        · rw [pk_us, gr_tg1 (by omega)]
        · rcases z with z | z
          · exact Or.inr (Or.inr ⟨z, hic⟩)
          · exact Or.inl z
      refine yw_isL hcl (fun hL => br_f (by decide) (src (Or.inl hL))) (fun hL => br_t rfl ?_)
      refine pk_eq (W s) 46 (fun z => src (Or.inr z)) (fun z46 => ?_)
      refine pk_eq (W s) 91 (fun z => ?_) (fun z91 => ?_)
      · obtain ⟨c, c1, c2, c3, c4, c5⟩ := gv_cls hV' (show s < m by omega) z
        obtain ⟨_, _, _, _, p5⟩ := gr_icP hV' c c2 c4
        rw [c5] at p5
        have hN : ∀ j, s < j → j < c → W j ≠ 93 := fun j h1 h2 => by have := (p5 j h1 h2).1; omega
        refine yw_clEnd hm hym hw hW c1 c2 c3 hN ?_
        rw [nI_1, nI_1]
        refine ⟨vp_in_nI (by omega) (by omega), nm_e (nm_e (next _ _ _ _ _ ?_ (by rw [if_neg (by omega)] at nb1; omega) (ye_Rc hR (yb_Ek (fun a b => yb_En (by omega) (by omega) (by omega)))) (yb_T1 hT (un1 yl _ _) (fun _ => ?_) (fun q => absurd (Or.inr (Or.inl z)) q))))⟩
        · rw [gr_ic1]; simp [z, xb_f]
        · rw [pk_us, gr_tg2 z c1 (by omega) c3 hN]
      · refine pk_eq (W s) 40 (fun z => ?_) (fun z40 => ?_)
        · obtain ⟨c, hC⟩ := gy_cl hV' (show s < m by omega) z
          rw [if_neg (by omega)] at nb1
          refine yb_paren hm hV' hym hw hW z hC (by omega) hR (fun ye yf yg e' he' h1 h2 => ?_)
          subst he'
          exact nm_r (nI_1 s) (next _ _ _ _ _ (by rw [icn z91]) (by omega) (ye_Rc h2 yb_Ex) (hT0 (gs_nS (by omega))))
        · refine pk_eq (W s) 41 (fun z => ?_) (fun z41 => ?_)
          · rw [if_neg (by omega)] at nb1
            rw [nI_1]
            refine yw_add (by omega) (nm_e (next _ _ _ _ _ (by rw [icn z91]) (by omega) (ye_Rc (ye_Ra hR) (fun a b => ?_)) (hT0 (gs_nS (by omega)))))
            rw [← yb_Ex]
            constructor
            · rintro (y | y)
              · exact Or.inl y
              · exact Or.inr (Or.inr (Or.inl ⟨z, y⟩))
            · rintro (y | ⟨y, -⟩ | ⟨-, y⟩ | ⟨y, -⟩)
              · exact Or.inl y
              · exact absurd y z40
              · exact Or.inr y
              · omega
          · refine yw_isO hcl (fun z => br_f (by decide) ?_) (fun z => br_t rfl (nm_r (nI_1 s) ?_))
            · have hs1 : 1 ≤ s := by
                by_cases c : s = 0
                · subst c; omega
                · omega
              rw [if_neg (by omega)] at nb1
              refine yb_op hm hV' hw hW hs1 (by omega) z (by omega) hR (fun ye yf yg e' he' h1 h2 => ?_)
              subst he'
              exact nm_r (nI_1 s) (next _ _ _ _ _ (by rw [icn z91]) (by omega) (ye_Rc h2 yb_Ex) (hT0 (gs_nS (by omega))))
            · have z124 : W s = 124 := by omega
              rw [if_pos z124] at nb1
              exact next _ _ _ _ _ (by rw [icn z91]) (by omega) (ye_Rc hR (yb_Ek (fun a b => yb_En z40 z41 z))) (hT0 (gs_nS (by omega)))
theorem yb_nar {c : Nat} (h : c < 65536) : vp_nar .char (nI c) = nI c := by
  unfold vp_nar
  rw [(pk_charN h).1]
theorem yb_build {post : SY → Prop} {V : Nat → Nat} {n : Nat} (hn0 : 0 < n) (hn : n ≤ 64) (hWd : W = vd_W V n) (hmd : m = n + 2) (hV : gr_V W m) (hal : ∀ i, i < n → vd_al (V i)) (hyn : yn = nI n) (hyV : yV = fun i => nI (V i))
    (h : ∀ ym ye yw yl yf yg e, ym = nI m → (∀ i, i < m → yw i = nI (W i)) → ye = nI e → e < 256 → ye_R e yf yg (fun a b => ∃ x, x < m ∧ gr_E W x a b 0) → yb_T W m m yl → post (yk, yn, yc, ym, ye, yP, yS, yt, yC, yV, yw, yl, yf, yg, yx, yd, yq, yz)) :
    wpY_build post (yk, yn, yc, ym, ye, yP, yS, yt, yC, yV, yw, yl, yf, yg, yx, yd, yq, yz) := by
  have hW : ∀ i, i < m → W i < 65536 := by
    intro i hi
    by_cases c0 : i = 0
    · subst c0; rw [hWd, vd_W0]; omega
    · by_cases c1 : i = n + 1
      · subst c1; rw [hWd, vd_Wm]; omega
      · obtain ⟨j, rfl⟩ : ∃ j, i = j + 1 := ⟨i - 1, by omega⟩
        rw [hWd, vd_W1 (by omega)]
        have := hal j (by omega)
        omega
  unfold wpY_build
  dsimp only
  subst hyn
  have e2 : nI n + 2 = nI m := by rw [hmd]; exact nI_add n 2
  refine nm_r e2 (nm_e ?_)
  refine pk_loop (fun N i (w : Nat → Int32) => wY_build_20 post yk (nI n) yc (nI m) ye yP yS yt yC N (nI i) yV w yl yf yg yx yd yq yz) (fun i w => ∀ j, j ≤ i → w j = nI (W j)) n 0 _ (by omega) ?_ ?_ ?_
  · intro j hj
    have : j = 0 := by omega
    subst this
    rw [pk_us, hWd, vd_W0]
    exact yb_nar (c := 40) (by omega)
  · intro N w hw
    rw [wY_build_20]
    refine br_t (nI_le (Nat.le_refl _) (by omega)) ?_
    have e3 : nI m - 1 = nI (n + 1) := by rw [hmd]; exact nI_pred (n + 1)
    rw [e3, nI_clamp (by omega)]
    refine ⟨vp_in_nI (by omega) (by omega), nm_e ⟨m + 1, ?_⟩⟩
    have hw2 : ∀ i, i < m → upd w (n + 1) (vp_nar .char 41) i = nI (W i) := by
      intro i hi
      by_cases c1 : i = n + 1
      · subst c1
        rw [pk_us, hWd, vd_Wm]
        exact yb_nar (c := 41) (by omega)
      · rw [pk_un c1]; exact hw i (by omega)
    have q := yb_loop (yk := yk) (yn := nI n) (yc := yc) (yP := yP) (yS := yS) (yt := yt) (yC := yC) (yV := yV) (yx := yx) (yd := yd) (yq := yq) (yz := yz) (post := post) (show m ≤ 66 by omega) hV (ym := nI m) rfl hw2 hW (fun ye yl yf yg e h1 h2 h3 h4 => h _ _ _ _ _ _ e rfl hw2 h1 h2 h3 h4) m 0 (by omega) 0 yl yf yg (by omega) (ye_Rc ye_R0 (fun a b => ⟨False.elim, fun ⟨x, hx, _⟩ => absurd hx (by omega)⟩)) (fun j hj => absurd hj (by omega))
    exact q
  · intro N i w hi hw hN
    have hali := hal i hi
    rw [wY_build_20]
    refine br_f (nI_ge hi (by omega)) ?_
    rw [nI_1, nI_clamp (by omega), nI_clamp (by omega)]
    refine ⟨vp_in_nI (by omega) (by omega), vp_in_nI (by omega) (by omega), nm_e (nm_e (hN _ (fun j hj => ?_)))⟩
    by_cases c : j = i + 1
    · subst c
      rw [pk_us, hyV, hWd, vd_W1 hi]
      exact yb_nar (by omega)
    · rw [pk_un c]; exact hw j (by omega)
end
