/-! The component's compile loop. -/
def xb_f (b : Bool) : Int32 := if b = true then 1 else 0
theorem xb_f1 : xb_f true = 1 := rfl
theorem xb_f0 : xb_f false = 0 := rfl
theorem gr_dpl {W : Nat → Nat} : ∀ i, gr_dp W i ≤ i := by
  intro i
  induction i with
  | zero => exact Nat.le_refl _
  | succ i ih => rw [gr_dp1]; split; · omega
                 split <;> omega
section
variable {xk xn xc xS xP xt xl xp3 : Int32} {xF xp1 xp2 xN : Int64} {xV xeb xus xbs : Nat → Int32} {xfo xsl xss xws xuf xul xbf xbl : Nat → Int64}
variable {W : Nat → Nat} {m : Nat}
theorem xb_72 {post : St2 → Prop} {J : Int32 → Int32 → Int32 → Int32 → Int32 → Int64 → Int32 → Int32 → Int32 → Int32 → Int64 → Int64 → Int32 → Int64 → (Nat → Int32) → (Nat → Int64) → (Nat → Int64) → (Nat → Int32) → (Nat → Int64) → (Nat → Int64) → (Nat → Int64) → (Nat → Int64) → (Nat → Int32) → (Nat → Int64) → (Nat → Int64) → (Nat → Int32) → Prop} {x i : Nat}
    (hc : W x < 65536) (h : J (xb_f (gr_ic W (x + 1))) (nI (i + 1)) xk xn xc xF xS xP xt xl xp1 xp2 xp3 xN xV xfo xsl xeb xss xws xuf xul xus xbf xbl xbs) : wX_buildAutomaton_72 post J (xb_f (gr_ic W x)) (nI i) (nI (W x)) xk xn xc xF xS xP xt xl xp1 xp2 xp3 xN xV xfo xsl xeb xss xws xuf xul xus xbf xbl xbs := by
  unfold wX_buildAutomaton_72
  rw [gr_ic1] at h
  refine pk_eq (W x) 91 (fun e => nm_r (nI_1 i) ?_) (fun e => ?_)
  · simp [e] at h; exact h
  · cases hi : gr_ic W x with
    | false =>
      rw [hi, beq_false_of_ne e] at h
      exact br_t rfl (nm_r (nI_1 i) h)
    | true =>
      rw [hi, beq_false_of_ne e] at h
      refine br_f (by decide) (pk_eq (W x) 93 (fun e' => nm_r (nI_1 i) ?_) (fun e' => nm_r (nI_1 i) ?_))
      · rw [e'] at h; exact h
      · rw [beq_false_of_ne e'] at h; exact h
/-- joinPiece and one character behind it -/
theorem xb_take {post : St2 → Prop} {x : Nat} (hV : gr_V W m) (hm : gr_ct W m ≤ 63) (hx1 : 1 ≤ x) (hx : x < m - 1) (hx64 : x ≤ 64) (hi : gr_ic W x = false) (hno : ¬ gr_O (W x)) (hc : W x < 65536)
    (hI : xl_I W m x xl xuf xul xus xbf xbl xbs xp1 xp2 xp3 xfo) (hN : xN = lN (2 ^ gr_ct W x)) (hS : xb_S W x xsl)
    (h : ∀ xl xp1 xp2 xp3 xN xfo xsl xuf xul xus xbf xbl xbs, xl_I W m (x + 1) xl xuf xul xus xbf xbl xbs xp1 xp2 xp3 xfo → xN = lN (2 ^ gr_ct W (x + 1)) → xb_S W (x + 1) xsl → post (xk, xn, xc, xF, xS, xP, xt, xl, xp1, xp2, xp3, xN, xV, xfo, xsl, xeb, xss, xws, xuf, xul, xus, xbf, xbl, xbs))
    {Q : St2 → Prop} (hq : ∀ xl xp1 xp2 xp3 xN xfo xsl xuf xul xus xbf xbl xbs, wpX_takePatternChar post (xk, xn, xc, xF, xS, xP, xt, xl, xp1, xp2, xp3, xN, xV, xfo, xsl, xeb, xss, xws, xuf, xul, xus, xbf, xbl, xbs) (nI (W x)) → Q (xk, xn, xc, xF, xS, xP, xt, xl, xp1, xp2, xp3, xN, xV, xfo, xsl, xeb, xss, xws, xuf, xul, xus, xbf, xbl, xbs)) :
    wpX_joinPiece Q (xk, xn, xc, xF, xS, xP, xt, xl, xp1, xp2, xp3, xN, xV, xfo, xsl, xeb, xss, xws, xuf, xul, xus, xbf, xbl, xbs) := by
  have hV' := hV
  obtain ⟨w1, w2, w3, w4, w5, w6, w7, w8⟩ := hV
  have hd := w6 x hx1 (by omega)
  obtain ⟨l, hl⟩ : ∃ l, gr_dp W x = l + 1 := ⟨gr_dp W x - 1, by omega⟩
  have hdl := gr_dpl (W := W) x
  have hctm := gr_ctM (W := W) (show x + 1 ≤ m from by omega)
  have hctx := gr_ctM (W := W) (show x ≤ x + 1 from by omega)
  obtain ⟨el, R, hJ, hF⟩ := xl_stepJ (by omega) hi hI hl rfl rfl rfl rfl
  subst el
  subst hN
  refine xw_join (by omega) (hq _ _ _ _ _ _ _ _ _ _ _ _ _ ?_)
  unfold wpX_takePatternChar
  dsimp only
  have hcase := w8 x hx1 (by omega) hi
  refine pk_eq (W x) 40 (fun e => ?_) (fun e40 => ?_)
  · refine nm_r (nI_1 l) (xw_eB (l := l + 1) (by omega) (xw_eU (l := l + 1) (by omega) (h _ _ _ _ _ _ _ _ _ _ _ _ _ (xs_open hi e hl hJ hF rfl rfl rfl rfl rfl rfl) ?_ (xb_Sn hS ?_))))
    · rw [xs_ctN (gs_nS (by omega))]
    · rintro c b hc (⟨q, _⟩ | ⟨q, _⟩ | ⟨_, q, _⟩) <;> omega
  · refine pk_eq (W x) 41 (fun e => ?_) (fun e41 => ?_)
    · have hd2 : 1 ≤ gr_dp W (x + 1) := w6 (x + 1) (by omega) (by omega)
      rw [gr_dp1, if_neg (by omega), if_pos e, hl] at hd2
      obtain ⟨l', rfl⟩ : ∃ l', l = l' + 1 := ⟨l - 1, by omega⟩
      refine xw_endB (by omega) (xw_closeL (by omega) ?_)
      refine h _ _ _ _ _ _ _ _ _ _ _ _ _ ?_ (by rw [xs_ctN (gs_nS (by omega))]) (xb_Sn hS ?_)
      · have q := xs_close (by omega) hi e hl hJ hF (uf' := fun j => if j = l' + 1 then xuf (l' + 1) ||| (if l' + 1 = l' + 1 then (if xbs (l' + 1) = 0 then xbf (l' + 1) ||| xp1 else xbf (l' + 1)) else xbf (l' + 1)) else xuf j) (fun j hj => if_neg (by omega))
          (ul' := fun j => if j = l' + 1 then xul (l' + 1) ||| (if l' + 1 = l' + 1 then (if 0 < xp3 then 0 else xbl (l' + 1)) ||| xp2 else xbl (l' + 1)) else xul j) (fun j hj => if_neg (by omega))
          (us' := fun j => if j = l' + 1 then (if (if l' + 1 = l' + 1 then xbs (l' + 1) + xp3 else xbs (l' + 1)) < xus (l' + 1) then (if l' + 1 = l' + 1 then xbs (l' + 1) + xp3 else xbs (l' + 1)) else xus (l' + 1)) else xus j) (fun j hj => if_neg (by omega))
          (bf' := fun j => if j = l' + 1 then 0 else (if j = l' + 1 then (if xbs (l' + 1) = 0 then xbf (l' + 1) ||| xp1 else xbf (l' + 1)) else xbf j)) (fun j hj => if_neg (by omega))
          (bl' := fun j => if j = l' + 1 then 0 else (if j = l' + 1 then (if 0 < xp3 then 0 else xbl (l' + 1)) ||| xp2 else xbl j)) (fun j hj => if_neg (by omega))
          (bs' := fun j => if j = l' + 1 then 0 else (if j = l' + 1 then xbs (l' + 1) + xp3 else xbs j)) (fun j hj => if_neg (by omega))
        simp only [if_true] at q ⊢
        exact q
      · rintro c b hc (⟨q, _⟩ | ⟨q, _⟩ | ⟨_, q, _⟩) <;> omega
    · refine pk_eq (W x) 124 (fun e => ?_) (fun e124 => ?_)
      · refine xw_endB (by omega) (h _ _ _ _ _ _ _ _ _ _ _ _ _ (xs_bar (by omega) hi e hl hJ hF rfl rfl rfl rfl rfl rfl) (by rw [xs_ctN (gs_nS (by omega))]) (xb_Sn hS ?_))
        rintro c b hc (⟨q, _⟩ | ⟨q, _⟩ | ⟨_, q, _⟩) <;> omega
      · refine pk_eq (W x) 91 (fun e => ?_) (fun e91 => ?_)
        · refine xw_begin (h _ _ _ _ _ _ _ _ _ _ _ _ _ (xs_brack (by omega) e hJ hF) (by rw [xs_ctS (Or.inr (Or.inl e))]) (xb_Sn hS ?_))
          rintro c b hc (⟨q, _⟩ | ⟨q, _⟩ | ⟨_, q, _⟩) <;> omega
        · refine pk_eq (W x) 46 (fun e => ?_) (fun e46 => ?_)
          · have hct := xs_ctS (W := W) (i := x) (Or.inl e)
            refine xw_begin (xw_every (h _ _ _ _ _ _ _ _ _ _ _ _ _ (xs_letter (by omega) hi (Or.inr e) hJ hF) (by rw [hct]) (xb_Sd hS e hi (by omega))))
          · have hL : gr_L (W x) := by omega
            have hct := xs_ctS (W := W) (i := x) (Or.inr (Or.inr ⟨hL, hi⟩))
            refine xw_isL hc (fun _ => br_f (by decide) ?_) (fun q => absurd hL q)
            refine xw_begin (xw_acc hL (h _ _ _ _ _ _ _ _ _ _ _ _ _ (xs_letter (by omega) hi (Or.inl hL) hJ hF) (by rw [hct]) (xb_Sl hS hL (by omega) ?_)))
            intro b
            constructor
            · rintro (⟨_, _, q⟩ | ⟨q, _⟩ | ⟨q, _⟩)
              · exact q.symm
              · omega
              · rw [hi] at q; exact Bool.noConfusion q
            · rintro rfl; exact Or.inl ⟨rfl, hi, rfl⟩
/-- the whole loop -/
theorem xb_loop {post : St2 → Prop} {V : Nat → Nat} {n : Nat} (hn0 : 0 < n) (hn : n ≤ 64) (hW : W = vd_W V n) (hm : m = n + 2) (hV : gr_V W m) (hct : gr_ct W m ≤ 63) (hal : ∀ i, i < n → vd_al (V i))
    (hxn : xn = nI n) (hxV : xV = fun i => nI (V i))
    (h : ∀ xF xS xl xp1 xp2 xp3 xN xfo xsl xuf xul xus xbf xbl xbs, xb_R W m xfo xsl xF xS → post (xk, xn, xc, xF, xS, xP, xt, xl, xp1, xp2, xp3, xN, xV, xfo, xsl, xeb, xss, xws, xuf, xul, xus, xbf, xbl, xbs)) :
    ∀ d i, i + d = n → ∀ xl xp1 xp2 xp3 xN xfo xsl xuf xul xus xbf xbl xbs, xl_I W m (i + 1) xl xuf xul xus xbf xbl xbs xp1 xp2 xp3 xfo → xN = lN (2 ^ gr_ct W (i + 1)) → xb_S W (i + 1) xsl →
      wX_buildAutomaton_8 post (d + 1) (xb_f (gr_ic W (i + 1))) (nI i) xk xn xc xF xS xP xt xl xp1 xp2 xp3 xN xV xfo xsl xeb xss xws xuf xul xus xbf xbl xbs := by
  intro d
  induction d with
  | zero =>
    intro i hi xl xp1 xp2 xp3 xN xfo xsl xuf xul xus xbf xbl xbs hI hN hS
    have : i = n := by omega
    subst this
    rw [wX_buildAutomaton_8]
    subst hxn
    refine br_t (nI_le (Nat.le_refl _) (by omega)) ?_
    have hV' := hV
    obtain ⟨w1, w2, w3, w4, w5, w6, w7, w8⟩ := hV
    have em : m - 1 = i + 1 := by omega
    rw [← em] at hI hN hS
    have hctm := gr_ctM (W := W) (show m - 1 ≤ m from by omega)
    obtain ⟨el, R, hJ, hF⟩ := xl_stepJ (l := 0) (by omega) w4 hI w5 rfl rfl rfl rfl
    subst el
    refine xw_join (by omega) (xw_endB (by omega) ?_)
    obtain ⟨F, L, n0, g1, g2, g3, g4, g5⟩ := xs_end hV' hct hJ hF
    have hSm : xb_S W m xsl := by
      have := xb_Sn hS (fun c b hc => by rintro (⟨q, _⟩ | ⟨q, _⟩ | ⟨_, q, _⟩) <;> omega)
      rw [show m - 1 + 1 = m from by omega] at this
      exact this
    simp only [if_true] at g2 g3 g4 ⊢
    have hA := gv_A hV' g1 (xb_fo hct g1 g2 hF)
    have hmin : fg_P (gr_E W) 0 m 0 m n0 ∧ ∀ k, fg_P (gr_E W) 0 m 0 m k → n0 ≤ k := ⟨g1.2.2.2.2.2.2.1, g1.2.2.2.2.2.2.2⟩
    refine nm_e (nm_e (nm_r g4 ?_))
    by_cases c : n0 = 0
    · refine br_t (by rw [c]; exact nI_0) (nm_e (h _ _ _ _ _ _ _ _ _ _ _ _ _ _ _ ⟨n0, rfl, g5, hmin.1, hmin.2, hA, xb_fin g1 g3 (by rw [if_pos c]), hSm, hct⟩))
    · refine br_f (nI_ne0 (by omega) (by omega)) (h _ _ _ _ _ _ _ _ _ _ _ _ _ _ _ ⟨n0, rfl, g5, hmin.1, hmin.2, hA, xb_fin g1 g3 (by rw [if_neg c]), hSm, hct⟩)
  | succ d ih =>
    intro i hi xl xp1 xp2 xp3 xN xfo xsl xuf xul xus xbf xbl xbs hI hN hS
    rw [wX_buildAutomaton_8]
    have hWi : W (i + 1) = V i := by rw [hW]; exact vd_W1 (by omega)
    have hali := hal i (by omega)
    have hcl : W (i + 1) < 65536 := by rw [hWi]; omega
    have hV' := hV
    obtain ⟨w1, w2, w3, w4, w5, w6, w7, w8⟩ := hV
    have ex : xV (nI i).toNatClampNeg = nI (W (i + 1)) := by rw [hxV, nI_clamp (by omega), hWi]
    refine br_f (by rw [hxn]; exact nI_ge (by omega) (by omega)) ⟨vp_in_nI (by omega) (by omega), nm_r ex ?_⟩
    have next : ∀ xl xp1 xp2 xp3 xN xfo xsl xuf xul xus xbf xbl xbs, xl_I W m (i + 1 + 1) xl xuf xul xus xbf xbl xbs xp1 xp2 xp3 xfo → xN = lN (2 ^ gr_ct W (i + 1 + 1)) → xb_S W (i + 1 + 1) xsl →
        wX_buildAutomaton_72 post (wX_buildAutomaton_8 post (d + 1)) (xb_f (gr_ic W (i + 1))) (nI i) (nI (W (i + 1))) xk xn xc xF xS xP xt xl xp1 xp2 xp3 xN xV xfo xsl xeb xss xws xuf xul xus xbf xbl xbs :=
      fun xl xp1 xp2 xp3 xN xfo xsl xuf xul xus xbf xbl xbs a b c => xb_72 hcl (ih (i + 1) (by omega) _ _ _ _ _ _ _ _ _ _ _ _ _ a b c)
    cases hic : gr_ic W (i + 1) with
    | false =>
      rw [hic] at next
      have hcase := w8 (i + 1) (by omega) (by omega) hic
      refine xw_isO hcl (fun hO => br_f (by decide) ?_) (fun hO => br_t rfl (br_t rfl ?_))
      · refine xw_post hcl (next _ _ _ _ _ _ _ _ _ _ _ _ _ (xs_op hic hO (by rcases hcase with q | q | q; omega; omega; exact q.2) hI rfl rfl) (by rw [xs_ctN (gs_nS (by omega))]; exact hN) (xb_Sn hS ?_))
        rintro c b hc (⟨q, _⟩ | ⟨q, _⟩ | ⟨_, q, _⟩) <;> omega
      · unfold wX_buildAutomaton_57
        refine pk_eq (W (i + 1)) 93 (fun e => by omega) (fun e => ?_)
        exact xb_take (post := fun u => match u with | (xk, xn, xc, xF, xS, xP, xt, xl, xp1, xp2, xp3, xN, xV, xfo, xsl, xeb, xss, xws, xuf, xul, xus, xbf, xbl, xbs) => wX_buildAutomaton_72 post (wX_buildAutomaton_8 post (d + 1)) (xb_f false) (nI i) (nI (W (i + 1))) xk xn xc xF xS xP xt xl xp1 xp2 xp3 xN xV xfo xsl xeb xss xws xuf xul xus xbf xbl xbs) hV' hct (by omega) (by omega) (by omega) hic hO hcl hI hN hS
          (fun xl xp1 xp2 xp3 xN xfo xsl xuf xul xus xbf xbl xbs a b c => next _ _ _ _ _ _ _ _ _ _ _ _ _ a b c) (fun xl xp1 xp2 xp3 xN xfo xsl xuf xul xus xbf xbl xbs a => a)
    | true =>
      rw [hic] at next
      have hcase := w7 (i + 1) (by omega) (by omega) hic
      have hctx := gr_ctM (W := W) (show i + 1 ≤ m from by omega)
      have hI' := xs_class hV' (by omega) hic hcase hI
      have hNS : ¬ gr_S W (i + 1) := by
        rintro (q | q | ⟨_, q⟩)
        · omega
        · omega
        · rw [hic] at q; exact Bool.noConfusion q
      refine xw_isO hcl (fun hO => by omega) (fun hO => br_t rfl (br_f (by decide) ?_))
      refine xw_isL hcl (fun hL => br_f (by decide) ?_) (fun hL => br_t rfl ?_)
      · refine xw_acc hL (next _ _ _ _ _ _ _ _ _ _ _ _ _ hI' (by rw [xs_ctN hNS]; exact hN) ?_)
        rw [hN]
        refine xb_Sl hS hL (by omega) ?_
        intro b
        constructor
        · rintro (⟨_, q, _⟩ | ⟨q, _⟩ | ⟨_, _, q⟩)
          · rw [hic] at q; exact Bool.noConfusion q
          · omega
          · exact q.symm
        · rintro rfl; exact Or.inr (Or.inr ⟨hic, rfl, rfl⟩)
      · have e93 : W (i + 1) = 93 := by omega
        unfold wX_buildAutomaton_57
        refine pk_eq (W (i + 1)) 93 (fun e => ?_) (fun e => absurd e93 e)
        refine next _ _ _ _ _ _ _ _ _ _ _ _ _ hI' (by rw [xs_ctN hNS]; exact hN) (xb_Sn hS ?_)
        rintro c b hc (⟨q, _⟩ | ⟨q, _⟩ | ⟨_, q, _⟩) <;> omega
theorem xb_build {post : St2 → Prop} {V : Nat → Nat} {n : Nat} (hn0 : 0 < n) (hn : n ≤ 64) (hW : W = vd_W V n) (hm : m = n + 2) (hV : gr_V W m) (hct : gr_ct W m ≤ 63) (hal : ∀ i, i < n → vd_al (V i))
    (hxn : xn = nI n) (hxV : xV = fun i => nI (V i))
    (h : ∀ xF xS xl xp1 xp2 xp3 xN xfo xsl xuf xul xus xbf xbl xbs, xb_R W m xfo xsl xF xS → post (xk, xn, xc, xF, xS, xP, xt, xl, xp1, xp2, xp3, xN, xV, xfo, xsl, xeb, xss, xws, xuf, xul, xus, xbf, xbl, xbs)) : wpX_buildAutomaton post (xk, xn, xc, xF, xS, xP, xt, xl, xp1, xp2, xp3, xN, xV, xfo, xsl, xeb, xss, xws, xuf, xul, xus, xbf, xbl, xbs) := by
  unfold wpX_buildAutomaton
  refine xw_clear ?_
  refine ⟨n + 1, ?_⟩
  have w2 : W 0 = 40 := hV.2.1
  have hct1 : gr_ct W (0 + 1) = 0 := by rw [xs_ctN (gs_nS (by omega))]; rfl
  have hic1 : gr_ic W (0 + 1) = false := by rw [gr_ic1]; simp [w2, gr_ic]
  have q := xb_loop (xF := xF) (xS := xS) (post := post) hn0 hn hW hm hV hct hal hxn hxV h n 0 (by omega) (nI 0) 0 0 0 1 (fun s => if s < 64 then 0 else xfo s) (fun s => if s < 26 then 0 else xsl s) (vp_updL xuf 0 0) (vp_updL xul 0 0) (upd xus 0 64) (vp_updL xbf 0 0) (vp_updL xbl 0 0) (upd xbs 0 0)
    (xb_I0 hV rfl rfl rfl rfl rfl rfl (fun p hp => if_pos hp)) (by rw [hct1]; rfl) (xb_S0 w2 (fun c hc => if_pos hc))
  rw [hic1] at q
  exact q
end
