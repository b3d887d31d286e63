/-! The reference: building the graph. -/
section
variable {yk yn yc ym ye yP yS yt yC : Int32} {yV yw yl yf yg yx yd yq yz : Nat → Int32}
variable {W : Nat → Nat} {m : Nat}
theorem yb_paren {post : SY → Prop} {i c e : Nat} {P : Nat → Nat → Prop} (hm : m ≤ 66) (hV : gr_V W m) (hym : ym = nI m) (hw : ∀ i, i < m → yw i = nI (W i)) (hW : ∀ i, i < m → W i < 65536) (hi : W i = 40) (hC : gy_C W m i c)
    (he : e + 1 + 2 * gy_bb W i m < 256) (hR : ye_R e yf yg P)
    (h : ∀ ye yf yg e', ye = nI e' → e' ≤ e + 1 + 2 * gy_bb W i m → ye_R e' yf yg (fun a b => P a b ∨ gy_E W m i a b) → post (yk, yn, yc, ym, ye, yP, yS, yt, yC, yV, yw, yl, yf, yg, yx, yd, yq, yz)) : wpY_addParenEdges post (yk, yn, yc, ym, nI e, yP, yS, yt, yC, yV, yw, yl, yf, yg, yx, yd, yq, yz) (nI i) := by
  have hC' := hC
  obtain ⟨g1, g2, g3, g4, g5⟩ := hC
  have hV' := hV
  obtain ⟨v1, v0, vm, vi, vd, v6, vc, vn⟩ := hV
  have hbar0 : gy_bb W i (i + 1) = 0 := by
    refine gy_bb0 (fun y hy h124 => ?_) (i + 1) (Nat.le_refl _) (by omega)
    have hy1 : 1 ≤ y := by
      by_cases c : y = 0
      · subst c; omega
      · omega
    exact (gr_enP (W := W) (v6 y hy1 (by omega))).1
  unfold wpY_addParenEdges
  dsimp only
  refine yw_close hm hym hw hW hi hC' ?_
  rw [nI_1]
  refine yw_add (by omega) (nm_e ?_)
  have L : ∀ d p, p + d = c → i < p → ∀ e' yf yg, e' ≤ e + 1 + 2 * gy_bb W i p →
      ye_R e' yf yg (fun a b => P a b ∨ (a = i ∧ b = i + 1) ∨ ∃ x, x < p ∧ gr_Ba W i x ∧ ((a = i ∧ b = x + 1) ∨ (a = x ∧ b = c))) →
      wY_addParenEdges_21 post (nI i) (nI c) (d + 1) (nI (gr_dp W p - (gr_dp W i + 1))) (nI p) yk yn yc ym (nI e') yP yS yt yC yV yw yl yf yg yx yd yq yz := by
    intro d
    induction d with
    | zero =>
      intro p hp hs e' yf yg he' hR'
      have : p = c := by omega
      subst this
      rw [wY_addParenEdges_21]
      refine br_t (nI_le (Nat.le_refl _) (by omega)) (h _ _ _ e' rfl ?_ (ye_Rc hR' ?_))
      · have := gy_bbm (W := W) (s := i) (y := p) (m - p)
        rw [show p + (m - p) = m from by omega] at this
        omega
      · intro a b
        constructor
        · rintro (q | q | ⟨x, q1, q2, q3⟩)
          · exact Or.inl q
          · exact Or.inr (Or.inl ⟨hi, Or.inl q⟩)
          · exact Or.inr (Or.inl ⟨hi, Or.inr ⟨x, p, q2, hC', q1, q3⟩⟩)
        · rintro (q | ⟨_, q | ⟨x, c', q1, q2, q3, q4⟩⟩ | ⟨q, _⟩ | ⟨q, _⟩)
          · exact Or.inl q
          · exact Or.inr (Or.inl q)
          · have := gy_Cu hC' q2
            subst this
            exact Or.inr (Or.inr ⟨x, q3, q1, q4⟩)
          · omega
          · omega
    | succ d ih =>
      intro p hp hs e' yf yg he' hR'
      have hb := hW p (by omega)
      have hdl := gr_dpl (W := W) p
      have q1 := g5 p hs (by omega)
      have q2 := g5 (p + 1) (by omega) (by omega)
      have hbb := gy_bbm (W := W) (s := i) (y := p + 1) (m - (p + 1))
      rw [show p + 1 + (m - (p + 1)) = m from by omega] at hbb
      have hbp : gy_bb W i (p + 1) = gy_bb W i p + (if W p = 124 ∧ gr_en W p = i then 1 else 0) := rfl
      have keep : ¬ (W p = 124 ∧ gr_en W p = i) → e' ≤ e + 1 + 2 * gy_bb W i (p + 1) ∧ ye_R e' yf yg (fun a b => P a b ∨ (a = i ∧ b = i + 1) ∨ ∃ x, x < p + 1 ∧ gr_Ba W i x ∧ ((a = i ∧ b = x + 1) ∨ (a = x ∧ b = c))) := by
        intro q
        rw [if_neg q] at hbp
        refine ⟨by omega, ye_Rc hR' (fun a b => ?_)⟩
        constructor
        · rintro (z | z | ⟨x, z1, z2⟩)
          · exact Or.inl z
          · exact Or.inr (Or.inl z)
          · exact Or.inr (Or.inr ⟨x, by omega, z2⟩)
        · rintro (z | z | ⟨x, z1, z2⟩)
          · exact Or.inl z
          · exact Or.inr (Or.inl z)
          · refine Or.inr (Or.inr ⟨x, ?_, z2⟩)
            by_cases e : x = p
            · subst e; exact absurd ⟨z2.1.1, z2.1.2.1⟩ q
            · omega
      rw [wY_addParenEdges_21]
      refine br_f (nI_ge (by omega) (by omega)) ⟨vp_in_nI (by omega) (by omega), ?_⟩
      rw [nI_clamp (by omega), hw p (by omega)]
      refine pk_eq (W p) 40 (fun z => ?_) (fun z40 => ⟨vp_in_nI (by omega) (by omega), pk_eq (W p) 41 (fun z => ?_) (fun z41 => ⟨vp_in_nI (by omega) (by omega), pk_eq (W p) 124 (fun z => ?_) (fun z124 => ?_)⟩)⟩)
      · refine nm_r (e' := nI (gr_dp W (p + 1) - (gr_dp W i + 1))) ?_ (nm_r (nI_1 p) (ih (p + 1) (by omega) (by omega) e' yf yg (keep (by omega)).1 (keep (by omega)).2))
        rw [nI_1, gr_dp1, if_pos z]; congr 1; omega
      · refine nm_r (e' := nI (gr_dp W (p + 1) - (gr_dp W i + 1))) ?_ (nm_r (nI_1 p) (ih (p + 1) (by omega) (by omega) e' yf yg (keep (by omega)).1 (keep (by omega)).2))
        have z3 : gr_dp W (p + 1) = gr_dp W p - 1 := by rw [gr_dp1, if_neg z40, if_pos z]
        have z4 : gr_dp W p - (gr_dp W i + 1) = (gr_dp W (p + 1) - (gr_dp W i + 1)) + 1 := by omega
        rw [z4, pk_m1]
      · have hdp : gr_dp W (p + 1) = gr_dp W p := xs_dpn z40 z41
        have gb := gy_bar hi hC' hs (show p < c by omega)
        refine pk_eq (gr_dp W p - (gr_dp W i + 1)) 0 (fun z0 => ?_) (fun z0 => nm_r (nI_1 p) ?_)
        · have hen : gr_en W p = i := gb.mp (by omega)
          rw [if_pos ⟨z, hen⟩] at hbp
          rw [nI_1]
          refine yw_add (by omega) (yw_add (by omega) (nm_e ?_))
          have n1 := ih (p + 1) (by omega) (by omega) (e' + 1 + 1) (upd (upd yf e' (nI i)) (e' + 1) (nI p)) (upd (upd yg e' (nI (p + 1))) (e' + 1) (nI c)) (by omega) (ye_Rc (ye_Ra (ye_Ra hR')) (fun a b => ?_))
          · rw [hdp] at n1; exact n1
          · constructor
            · rintro (((z | z | ⟨x, z1, z2⟩) | z) | z)
              · exact Or.inl z
              · exact Or.inr (Or.inl z)
              · exact Or.inr (Or.inr ⟨x, by omega, z2⟩)
              · exact Or.inr (Or.inr ⟨p, by omega, ⟨‹W p = 124›, hen, hs⟩, Or.inl z⟩)
              · exact Or.inr (Or.inr ⟨p, by omega, ⟨‹W p = 124›, hen, hs⟩, Or.inr z⟩)
            · rintro (z | z | ⟨x, z1, z2, z3⟩)
              · exact Or.inl (Or.inl (Or.inl z))
              · exact Or.inl (Or.inl (Or.inr (Or.inl z)))
              · by_cases e : x = p
                · subst e
                  rcases z3 with z3 | z3
                  · exact Or.inl (Or.inr z3)
                  · exact Or.inr z3
                · exact Or.inl (Or.inl (Or.inr (Or.inr ⟨x, by omega, z2, z3⟩)))
        · have hen : ¬ (W p = 124 ∧ gr_en W p = i) := fun q => z0 (by have := gb.mpr q.2; omega)
          have n1 := ih (p + 1) (by omega) (by omega) e' yf yg (keep hen).1 (keep hen).2
          rw [hdp] at n1; exact n1
      · have hdp : gr_dp W (p + 1) = gr_dp W p := xs_dpn z40 z41
        have hen : ¬ (W p = 124 ∧ gr_en W p = i) := fun q => z124 q.1
        have n1 := ih (p + 1) (by omega) (by omega) e' yf yg (keep hen).1 (keep hen).2
        rw [hdp] at n1
        exact nm_r (nI_1 p) n1
  refine ⟨(c - (i + 1)) + 1, ?_⟩
  have n1 := L (c - (i + 1)) (i + 1) (by omega) (by omega) (e + 1) (upd yf e (nI i)) (upd yg e (nI (i + 1))) (by omega) (ye_Rc (ye_Ra hR) (fun a b => ?_))
  · rw [gr_dp1, if_pos hi, Nat.sub_self] at n1
    exact n1
  · constructor
    · rintro (z | z)
      · exact Or.inl z
      · exact Or.inr (Or.inl z)
    · rintro (z | z | ⟨x, z1, z2, _⟩)
      · exact Or.inl z
      · exact Or.inr z
      · have := z2.2.2; omega
theorem yb_op {post : SY → Prop} {q e : Nat} {P : Nat → Nat → Prop} (hm : m ≤ 66) (hV : gr_V W m) (hw : ∀ i, i < m → yw i = nI (W i)) (hW : ∀ i, i < m → W i < 65536) (hq1 : 1 ≤ q) (hq : q < m) (hO : gr_O (W q))
    (he : e + 3 < 256) (hR : ye_R e yf yg P)
    (h : ∀ ye yf yg e', ye = nI e' → e' ≤ e + 3 → ye_R e' yf yg (fun a b => P a b ∨ gy_E W m q a b) → post (yk, yn, yc, ym, ye, yP, yS, yt, yC, yV, yw, yl, yf, yg, yx, yd, yq, yz)) : wpY_addOpEdges post (yk, yn, yc, ym, nI e, yP, yS, yt, yC, yV, yw, yl, yf, yg, yx, yd, yq, yz) (nI q) := by
  have hV' := hV
  obtain ⟨v1, v0, vm, vi, vd, v6, vc, vn⟩ := hV
  have h118 : ∀ yf yg e', e' < 256 → e' ≤ e + 2 → ye_R e' yf yg (fun a b => P a b ∨ (W q ≠ 43 ∧ a = gr_as W q ∧ b = q) ∨ (W q ≠ 63 ∧ a = q ∧ b = gr_as W q)) → wY_addOpEdges_118 post (nI q) yk yn yc ym (nI e') yP yS yt yC yV yw yl yf yg yx yd yq yz := by
    intro yf yg e' h1 h2 h3
    unfold wY_addOpEdges_118
    rw [nI_1]
    refine yw_add h1 (h _ _ _ (e' + 1) rfl (by omega) (ye_Rc (ye_Ra h3) (fun a b => ?_)))
    constructor
    · rintro ((z | z | z) | z)
      · exact Or.inl z
      · exact Or.inr (Or.inr (Or.inr ⟨hO, Or.inl z⟩))
      · exact Or.inr (Or.inr (Or.inr ⟨hO, Or.inr (Or.inl z)⟩))
      · exact Or.inr (Or.inr (Or.inr ⟨hO, Or.inr (Or.inr z)⟩))
    · rintro (z | ⟨z, -⟩ | ⟨z, -⟩ | ⟨_, z | z | z⟩)
      · exact Or.inl (Or.inl z)
      · omega
      · omega
      · exact Or.inl (Or.inr (Or.inl z))
      · exact Or.inl (Or.inr (Or.inr z))
      · exact Or.inr z
  have h66 : wY_addOpEdges_66 post (nI q) (nI (gr_as W q)) yk yn yc ym (nI e) yP yS yt yC yV yw yl yf yg yx yd yq yz := by
    unfold wY_addOpEdges_66
    have hb := hW q hq
    refine ⟨vp_in_nI (by omega) (by omega), nm_r (e' := nI (W q)) (by rw [nI_clamp (by omega), hw q hq]) ?_⟩
    refine pk_eq (W q) 42 (fun z => ?_) (fun z => pk_eq (W q) 43 (fun z' => ?_) (fun z' => ?_))
    · refine yw_add (by omega) (yw_add (by omega) (h118 _ _ _ (by omega) (by omega) (ye_Rc (ye_Ra (ye_Ra hR)) (fun a b => ?_))))
      constructor
      · rintro ((y | y) | y)
        · exact Or.inl y
        · exact Or.inr (Or.inl ⟨by omega, y⟩)
        · exact Or.inr (Or.inr ⟨by omega, y⟩)
      · rintro (y | ⟨_, y⟩ | ⟨_, y⟩)
        · exact Or.inl (Or.inl y)
        · exact Or.inl (Or.inr y)
        · exact Or.inr y
    · refine yw_add (by omega) (h118 _ _ _ (by omega) (by omega) (ye_Rc (ye_Ra hR) (fun a b => ?_)))
      constructor
      · rintro (y | y)
        · exact Or.inl y
        · exact Or.inr (Or.inr ⟨by omega, y⟩)
      · rintro (y | ⟨y, _⟩ | ⟨_, y⟩)
        · exact Or.inl y
        · exact absurd z' y
        · exact Or.inr y
    · refine yw_add (by omega) (h118 _ _ _ (by omega) (by omega) (ye_Rc (ye_Ra hR) (fun a b => ?_)))
      constructor
      · rintro (y | y)
        · exact Or.inl y
        · exact Or.inr (Or.inl ⟨by omega, y⟩)
      · rintro (y | ⟨_, y⟩ | ⟨y, _⟩)
        · exact Or.inl y
        · exact Or.inr y
        · omega
  have h27 : ∀ p, p < q → ¬ gr_O (W p) → gr_as W q = gr_as W (p + 1) → wY_addOpEdges_27 post (nI q) (nI p) yk yn yc ym (nI e) yP yS yt yC yV yw yl yf yg yx yd yq yz := by
    intro p hp hnO has
    have hb := hW p (by omega)
    rw [gr_as1, if_neg hnO] at has
    unfold wY_addOpEdges_27
    refine ⟨vp_in_nI (by omega) (by omega), ?_⟩
    rw [nI_clamp (by omega), hw p (by omega)]
    refine pk_eq (W p) 93 (fun z => ?_) (fun z => ⟨vp_in_nI (by omega) (by omega), pk_eq (W p) 41 (fun z' => ?_) (fun z' => ?_)⟩)
    · rw [if_pos z] at has
      rw [has] at h66
      have hic := gv_93 hV' (by omega) z
      obtain ⟨c1, c2, c3, c4, c5⟩ := gr_icP hV' p (by omega) hic
      refine yw_clStart hm hw hW (Nat.le_of_lt c2) (by omega) c3 (fun j j1 j2 => ?_) h66
      by_cases y : j = p
      · subst y; omega
      · have := (c5 j j1 (by omega)).1; omega
    · rw [if_neg z, if_pos z'] at has
      rw [has] at h66
      have hp1 : 1 ≤ p := by
        by_cases y : p = 0
        · subst y; omega
        · omega
      exact yw_open hm hw hW (by omega) z' (v6 p hp1 (by omega)) v6 h66
    · rw [if_neg z, if_neg z'] at has
      rw [has] at h66
      exact h66
  have L : ∀ p, p < q → gr_as W q = gr_as W (p + 1) → wY_addOpEdges_4 post (nI q) yk yn yc ym (nI e) yP yS yt yC yV yw yl yf yg yx yd yq yz (p + 1) (nI p) := by
    intro p
    induction p with
    | zero =>
      intro hp has
      rw [wY_addOpEdges_4]
      exact br_t (by decide) (h27 0 hp (by omega) has)
    | succ p ih =>
      intro hp has
      have hb := hW (p + 1) (by omega)
      rw [wY_addOpEdges_4]
      refine br_f (nI_nle (by omega) (by omega)) ⟨vp_in_nI (by omega) (by omega), ?_⟩
      rw [nI_clamp (by omega), hw (p + 1) (by omega)]
      refine yw_isO hb (fun z => br_f (by decide) (nm_r (pk_m1 p) (ih (by omega) ?_))) (fun z => br_t rfl (h27 (p + 1) hp z has))
      rw [has, gr_as1, if_pos z]
  unfold wpY_addOpEdges
  dsimp only
  obtain ⟨p, rfl⟩ : ∃ p, q = p + 1 := ⟨q - 1, by omega⟩
  exact nm_r (nI_pred p) ⟨p + 1, L p (by omega) rfl⟩
end
