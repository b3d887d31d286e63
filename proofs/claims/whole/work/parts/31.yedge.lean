/-! The reference: its edges. -/
def ye_R (e : Nat) (f g : Nat → Int32) (P : Nat → Nat → Prop) : Prop :=
  ∃ ef et : Nat → Nat, (∀ x, x < e → f x = nI (ef x) ∧ g x = nI (et x)) ∧ ∀ a b, (∃ x, x < e ∧ ef x = a ∧ et x = b) ↔ P a b
theorem ye_R0 {f g : Nat → Int32} : ye_R 0 f g (fun _ _ => False) :=
  ⟨fun _ => 0, fun _ => 0, fun x h => absurd h (by omega), fun a b => ⟨fun ⟨x, h, _⟩ => absurd h (by omega), False.elim⟩⟩
theorem ye_Ra {e a b : Nat} {f g : Nat → Int32} {P : Nat → Nat → Prop} (h : ye_R e f g P) : ye_R (e + 1) (upd f e (nI a)) (upd g e (nI b)) (fun x y => P x y ∨ (x = a ∧ y = b)) := by
  obtain ⟨ef, et, h1, h2⟩ := h
  refine ⟨fun x => if x = e then a else ef x, fun x => if x = e then b else et x, ?_, ?_⟩
  · intro x hx
    by_cases c : x = e
    · subst c; simp [upd]
    · simp only [upd, if_neg c]; exact h1 x (by omega)
  · intro p q
    dsimp only
    rw [← h2]
    constructor
    · rintro ⟨x, hx, e1, e2⟩
      by_cases c : x = e
      · simp only [if_pos c] at e1 e2; exact Or.inr ⟨e1.symm, e2.symm⟩
      · simp only [if_neg c] at e1 e2; exact Or.inl ⟨x, by omega, e1, e2⟩
    · rintro (⟨x, hx, e1, e2⟩ | ⟨rfl, rfl⟩)
      · exact ⟨x, by omega, by simp only [if_neg (show x ≠ e by omega)]; exact e1, by simp only [if_neg (show x ≠ e by omega)]; exact e2⟩
      · exact ⟨e, by omega, by simp, by simp⟩
theorem ye_Rc {e : Nat} {f g : Nat → Int32} {P Q : Nat → Nat → Prop} (h : ye_R e f g P) (hc : ∀ a b, P a b ↔ Q a b) : ye_R e f g Q := by
  obtain ⟨ef, et, h1, h2⟩ := h
  exact ⟨ef, et, h1, fun a b => by rw [h2, hc]⟩
section
variable {yk yn yc ym ye yP yS yt yC : Int32} {yV yw yl yf yg yx yd yq yz : Nat → Int32}
variable {W : Nat → Nat} {m : Nat}
theorem yw_add {post : SY → Prop} {e : Nat} {a b : Int32} (he : e < 256) (h : post (yk, yn, yc, ym, nI (e + 1), yP, yS, yt, yC, yV, yw, yl, upd yf e a, upd yg e b, yx, yd, yq, yz)) : wpY_addEdge post (yk, yn, yc, ym, nI e, yP, yS, yt, yC, yV, yw, yl, yf, yg, yx, yd, yq, yz) a b := by
  unfold wpY_addEdge
  dsimp only
  refine br_f (nI_ge (a := e) (b := 256) he (by omega)) ?_
  rw [nI_clamp (by omega)]
  exact ⟨vp_in_nI he (by omega), nm_e ⟨vp_in_nI he (by omega), nm_e (nm_r (nI_1 e) h)⟩⟩
theorem yw_clEnd {post : Int32 → Prop} {s e : Nat} (hm : m ≤ 66) (hym : ym = nI m) (hw : ∀ i, i < m → yw i = nI (W i)) (hW : ∀ i, i < m → W i < 65536) (h1 : s < e) (h2 : e < m) (h3 : W e = 93) (h4 : ∀ j, s < j → j < e → W j ≠ 93) (h : post (nI e)) :
    wpY_classEnd post (yk, yn, yc, ym, ye, yP, yS, yt, yC, yV, yw, yl, yf, yg, yx, yd, yq, yz) (nI s) := by
  have L : ∀ d p, p + d = e → s < p → wY_classEnd_4 post yk yn yc ym ye yP yS yt yC yV yw yl yf yg yx yd yq yz (d + 1) (nI p) := by
    intro d
    induction d with
    | zero =>
      intro p hp hs
      have : p = e := by omega
      subst this
      rw [wY_classEnd_4]
      refine br_f (by rw [hym]; exact nI_ge h2 (by omega)) ⟨vp_in_nI (by omega) (by omega), br_t ?_ h⟩
      rw [nI_clamp (by omega), hw p h2, h3]; rfl
    | succ d ih =>
      intro p hp hs
      rw [wY_classEnd_4]
      refine br_f (by rw [hym]; exact nI_ge (by omega) (by omega)) ⟨vp_in_nI (by omega) (by omega), ?_⟩
      rw [nI_clamp (by omega), hw p (by omega)]
      exact pk_eq (W p) 93 (fun q => absurd q (h4 p hs (by omega))) (fun _ => nm_r (nI_1 p) (ih (p + 1) (by omega) (by omega))) (ha := by have := hW p (by omega); omega)
  unfold wpY_classEnd
  dsimp only
  exact nm_r (nI_1 s) ⟨_, L (e - (s + 1)) (s + 1) (by omega) (by omega)⟩
theorem yw_clStart {post : Int32 → Prop} {s e : Nat} (hm : m ≤ 66) (hw : ∀ i, i < m → yw i = nI (W i)) (hW : ∀ i, i < m → W i < 65536) (h1 : s ≤ e) (h2 : e < m) (h3 : W s = 91) (h4 : ∀ j, s < j → j ≤ e → W j ≠ 91) (h : post (nI s)) :
    wpY_classStart post (yk, yn, yc, ym, ye, yP, yS, yt, yC, yV, yw, yl, yf, yg, yx, yd, yq, yz) (nI e) := by
  have L : ∀ d p, p = s + d → p ≤ e → wY_classStart_2 post yk yn yc ym ye yP yS yt yC yV yw yl yf yg yx yd yq yz (d + 1) (nI p) := by
    intro d
    induction d with
    | zero =>
      intro p hp hs
      have : p = s := by omega
      subst this
      rw [wY_classStart_2]
      refine br_f (nI_pos (by omega)) ⟨vp_in_nI (by omega) (by omega), br_t ?_ h⟩
      rw [nI_clamp (by omega), hw p (by omega), h3]; rfl
    | succ d ih =>
      intro p hp hs
      subst hp
      rw [wY_classStart_2]
      refine br_f (nI_pos (by omega)) ⟨vp_in_nI (by omega) (by omega), ?_⟩
      rw [nI_clamp (by omega), hw _ (by omega)]
      exact pk_eq (W (s + (d + 1))) 91 (fun q => absurd q (h4 _ (by omega) hs)) (fun _ => nm_r (pk_m1 (s + d)) (ih (s + d) (by omega) (by omega))) (ha := by have := hW (s + (d + 1)) (by omega); omega)
  unfold wpY_classStart
  dsimp only
  exact ⟨_, L (e - s) e (by omega) (Nat.le_refl _)⟩
theorem yw_close {post : Int32 → Prop} {i c : Nat} (hm : m ≤ 66) (hym : ym = nI m) (hw : ∀ i, i < m → yw i = nI (W i)) (hW : ∀ i, i < m → W i < 65536) (hi : W i = 40) (hC : gy_C W m i c) (h : post (nI c)) :
    wpY_closeOf post (yk, yn, yc, ym, ye, yP, yS, yt, yC, yV, yw, yl, yf, yg, yx, yd, yq, yz) (nI i) := by
  obtain ⟨g1, g2, g3, g4, g5⟩ := hC
  have L : ∀ d p, p + d = c → i < p → wY_closeOf_4 post yk yn yc ym ye yP yS yt yC yV yw yl yf yg yx yd yq yz (d + 1) (nI (gr_dp W p - gr_dp W i)) (nI p) := by
    intro d
    induction d with
    | zero =>
      intro p hp hs
      have : p = c := by omega
      subst this
      rw [wY_closeOf_4]
      refine br_f (by rw [hym]; exact nI_ge g2 (by omega)) ⟨vp_in_nI (by omega) (by omega), ?_⟩
      rw [nI_clamp (by omega), hw p g2, g3]
      refine br_f (by decide) ⟨vp_in_nI (by omega) (by omega), br_t rfl ?_⟩
      have : gr_dp W p - gr_dp W i = 0 + 1 := by omega
      rw [this]
      exact nm_r (pk_m1 0) (br_t rfl h)
    | succ d ih =>
      intro p hp hs
      have hb := hW p (by omega)
      have hdl := gr_dpl (W := W) p
      have q1 := g5 p hs (by omega)
      have q2 := g5 (p + 1) (by omega) (by omega)
      have n1 := ih (p + 1) (by omega) (by omega)
      rw [wY_closeOf_4]
      refine br_f (by rw [hym]; exact nI_ge (by omega) (by omega)) ⟨vp_in_nI (by omega) (by omega), ?_⟩
      rw [nI_clamp (by omega), hw p (by omega)]
      refine pk_eq (W p) 40 (fun e => nm_r (e' := nI (gr_dp W (p + 1) - gr_dp W i)) ?_ (nm_r (nI_1 p) n1)) (fun e => ⟨vp_in_nI (by omega) (by omega), ?_⟩)
      · rw [nI_1, gr_dp1, if_pos e]; congr 1; omega
      · refine pk_eq (W p) 41 (fun e' => nm_r (e' := nI (gr_dp W (p + 1) - gr_dp W i)) ?_ (br_f (nI_ne0 (by omega) ?_) (nm_r (nI_1 p) n1))) (fun e' => nm_r (nI_1 p) ?_)
        · have : gr_dp W (p + 1) = gr_dp W p - 1 := by rw [gr_dp1, if_neg e, if_pos e']
          have q3 : gr_dp W p - gr_dp W i = (gr_dp W (p + 1) - gr_dp W i) + 1 := by omega
          rw [q3, pk_m1]
        · have := gr_dpl (W := W) (p + 1); omega
        · rw [xs_dpn e e'] at n1; exact n1
  unfold wpY_closeOf
  dsimp only
  refine ⟨(c - (i + 1)) + 1 + 1, ?_⟩
  have n1 := L (c - (i + 1)) (i + 1) (by omega) (by omega)
  rw [wY_closeOf_4]
  refine br_f (by rw [hym]; exact nI_ge (by omega) (by omega)) ⟨vp_in_nI (by omega) (by omega), ?_⟩
  rw [nI_clamp (by omega), hw i (by omega), hi]
  refine br_t rfl (nm_r (nI_1 0) (nm_r (nI_1 i) ?_))
  rw [gr_dp1, if_pos hi, show gr_dp W i + 1 - gr_dp W i = 0 + 1 from by omega] at n1
  exact n1
theorem yw_open {post : Int32 → Prop} {e : Nat} (hm : m ≤ 66) (hw : ∀ i, i < m → yw i = nI (W i)) (hW : ∀ i, i < m → W i < 65536) (he : e < m) (h41 : W e = 41) (hd : 1 ≤ gr_dp W e) (hdm : ∀ i, 1 ≤ i → i < m → 1 ≤ gr_dp W i) (h : post (nI (gr_en W e))) :
    wpY_openOf post (yk, yn, yc, ym, ye, yP, yS, yt, yC, yV, yw, yl, yf, yg, yx, yd, yq, yz) (nI e) := by
  obtain ⟨g1, g2, g3, g4⟩ := gr_enP (W := W) hd
  have hD : gr_dp W (e + 1) = gr_dp W e - 1 := by rw [gr_dp1, if_neg (by omega), if_pos h41]
  have L : ∀ d p, p = gr_en W e + d → p ≤ e → wY_openOf_4 post yk yn yc ym ye yP yS yt yC yV yw yl yf yg yx yd yq yz (d + 1) (nI (gr_dp W (p + 1) - gr_dp W (e + 1))) (nI p) := by
    intro d
    induction d with
    | zero =>
      intro p hp hs
      have : p = gr_en W e := by omega
      subst this
      rw [wY_openOf_4]
      refine br_f (nI_pos (by omega)) ⟨vp_in_nI (by omega) (by omega), ?_⟩
      rw [nI_clamp (by omega), hw _ (by omega), g2]
      refine br_f (by decide) ⟨vp_in_nI (by omega) (by omega), br_t rfl ?_⟩
      have : gr_dp W (gr_en W e + 1) - gr_dp W (e + 1) = 0 + 1 := by rw [gr_dp1, if_pos g2]; omega
      rw [this]
      exact nm_r (pk_m1 0) (br_t rfl h)
    | succ d ih =>
      intro p hp hs
      obtain ⟨r, rfl⟩ : ∃ r, p = r + 1 := ⟨p - 1, by omega⟩
      have hb := hW (r + 1) (by omega)
      have hdl := gr_dpl (W := W) (r + 1)
      have hdl2 := gr_dpl (W := W) (r + 1 + 1)
      have q1 := g4 (r + 1) (by omega) hs
      have n1 := ih r (by omega) (by omega)
      rw [wY_openOf_4]
      refine br_f (nI_pos (by omega)) ⟨vp_in_nI (by omega) (by omega), ?_⟩
      rw [nI_clamp (by omega), hw (r + 1) (by omega)]
      refine pk_eq (W (r + 1)) 41 (fun e' => nm_r (e' := nI (gr_dp W (r + 1) - gr_dp W (e + 1))) ?_ (nm_r (pk_m1 r) n1)) (fun e' => ⟨vp_in_nI (by omega) (by omega), ?_⟩)
      · have : gr_dp W (r + 1 + 1) = gr_dp W (r + 1) - 1 := by rw [gr_dp1 (i := r + 1), if_neg (by omega), if_pos e']
        rw [nI_1]; congr 1
        have := hdm (r + 1) (by omega) (by omega)
        have q5 : gr_dp W (e + 1) ≤ gr_dp W (r + 1 + 1) := by
          by_cases c : r + 1 = e
          · subst c; exact Nat.le_refl _
          · have := g4 (r + 1 + 1) (by omega) (by omega); omega
        omega
      · refine pk_eq (W (r + 1)) 40 (fun e'' => nm_r (e' := nI (gr_dp W (r + 1) - gr_dp W (e + 1))) ?_ (br_f (nI_ne0 (by omega) (by omega)) (nm_r (pk_m1 r) n1))) (fun e'' => nm_r (pk_m1 r) ?_)
        · have : gr_dp W (r + 1 + 1) = gr_dp W (r + 1) + 1 := by rw [gr_dp1 (i := r + 1), if_pos e'']
          have q3 : gr_dp W (r + 1 + 1) - gr_dp W (e + 1) = (gr_dp W (r + 1) - gr_dp W (e + 1)) + 1 := by omega
          rw [q3, pk_m1]
        · rw [xs_dpn (i := r + 1) e'' e']; exact n1
  unfold wpY_openOf
  dsimp only
  refine ⟨(e - gr_en W e) + 1, ?_⟩
  have q := L (e - gr_en W e) e (by omega) (Nat.le_refl _)
  rw [Nat.sub_self] at q
  exact q
end
