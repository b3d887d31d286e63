/-! The reference: relaxing a column. -/
/-- within a round that began at u: w is what it has come to, the edges of E are through -/
def yc_I (G : Nat → Nat → Nat → Prop) (m : Nat) (v0 u w : Nat → Nat) (fl : Int32) (E : Nat → Nat → Nat → Prop) : Prop :=
  (∀ s, s ≤ m → w s ≤ u s) ∧ (∀ s, s ≤ m → ∃ h, bf_H G v0 h s (w s)) ∧ (fl = 0 → ∀ s, s ≤ m → w s = u s) ∧ (∀ a b c, E a b c → w b ≤ u a + c)
section
variable {G : Nat → Nat → Nat → Prop} {m : Nat} {v0 u w : Nat → Nat} {fl : Int32} {E E' : Nat → Nat → Nat → Prop}
theorem yc_Ik {a b c : Nat} (h : yc_I G m v0 u w fl E) (ha : a ≤ m) (hw : w b ≤ w a + c) (hE : ∀ x y z, E' x y z → E x y z ∨ (x = a ∧ y = b ∧ z = c)) : yc_I G m v0 u w fl E' := by
  obtain ⟨h1, h2, h3, h4⟩ := h
  refine ⟨h1, h2, h3, fun x y z q => ?_⟩
  rcases hE x y z q with q | ⟨rfl, rfl, rfl⟩
  · exact h4 x y z q
  · have := h1 x ha; omega
theorem yc_Iu {a b c : Nat} (h : yc_I G m v0 u w fl E) (hg : G a b c) (ha : a ≤ m) (hw : ¬ w b ≤ w a + c) (hE : ∀ x y z, E' x y z → E x y z ∨ (x = a ∧ y = b ∧ z = c)) :
    yc_I G m v0 u (fun s => if s = b then w a + c else w s) 1 E' := by
  obtain ⟨h1, h2, h3, h4⟩ := h
  have le : ∀ s, (if s = b then w a + c else w s) ≤ w s := by
    intro s
    by_cases e : s = b
    · subst e; rw [if_pos rfl]; omega
    · rw [if_neg e]; exact Nat.le_refl _
  refine ⟨fun s hs => ?_, fun s hs => ?_, fun q => absurd q (by decide), fun x y z q => ?_⟩
  · have := le s; have := h1 s hs; dsimp only; omega
  · by_cases e : s = b
    · subst e
      obtain ⟨k, H⟩ := h2 a ha
      refine ⟨k + 1, Or.inr ⟨a, c, w a, hg, H, ?_⟩⟩
      simp
    · obtain ⟨k, H⟩ := h2 s hs
      exact ⟨k, by simp only [if_neg e]; exact H⟩
  · rcases hE x y z q with q | ⟨rfl, rfl, rfl⟩
    · have := h4 x y z q; have := le y; dsimp only; omega
    · have := h1 x ha; dsimp only; rw [if_pos rfl]; omega
end
section
variable {yk yn yc ym ye yP yS yt yC : Int32} {yV yw yl yf yg yx yd yq yz : Nat → Int32}
variable {W : Nat → Nat} {m : Nat} {FO : Nat → Nat → Prop}
theorem yc_closure {post : SY → Prop} {v0 : Nat → Nat} {e : Nat} (hm : m ≤ 66) (A : sm_A m (sm_G W m) (sm_R W m) (sm_S W m) FO) (hym : ym = nI m) (hye : ye = nI e) (he : e < 256)
    (hE : ye_R e yf yg (fun a b => ∃ x, x < m ∧ gr_E W x a b 0)) (hT : yb_T W m m yl) (hz : ∀ s, s ≤ m → yz s = nI (v0 s)) (hv : ∀ s, s ≤ m → v0 s ≤ 1000)
    (h : ∀ (yz : Nat → Int32) (u : Nat → Nat), (∀ s, s ≤ m → yz s = nI (u s)) → bf_C (sm_G W m) m v0 u → post (yk, yn, yc, ym, ye, yP, yS, yt, yC, yV, yw, yl, yf, yg, yx, yd, yq, yz)) : wpY_closure post (yk, yn, yc, ym, ye, yP, yS, yt, yC, yV, yw, yl, yf, yg, yx, yd, yq, yz) := by
  obtain ⟨ef, et, hE1, hE2⟩ := hE
  obtain ⟨_, a2, _, a4, _, _, _⟩ := A
  have hG : ∀ a b c, sm_G W m a b c → a ≤ m ∧ b ≤ m := fun a b c q => ⟨(a4 a b c q).1, (a4 a b c q).2.1⟩
  have eps : ∀ x, x < e → sm_G W m (ef x) (et x) 0 := fun x hx => (hE2 _ _).mp ⟨x, hx, rfl, rfl⟩
  have lets : ∀ s, s < m → gr_S W s → sm_G W m s (gr_tg W m s) 1 := fun s hs hS => (a2 (gr_ct W s + 1) s _ ⟨hS, hs, rfl, rfl⟩).2.2.2
  have all : ∀ a b c, sm_G W m a b c → (c = 0 ∧ ∃ x, x < e ∧ ef x = a ∧ et x = b) ∨ (c = 1 ∧ a < m ∧ gr_S W a ∧ b = gr_tg W m a) := by
    intro a b c q
    rcases (a4 a b c q).2.2 with rfl | ⟨rfl, q', h1, h2, h3, h4⟩
    · exact Or.inl ⟨rfl, (hE2 a b).mpr q⟩
    · exact Or.inr ⟨rfl, h2, h1, h4⟩
  have L : ∀ d i, i + d = m + 2 → ∀ (yz : Nat → Int32) (u : Nat → Nat), (∀ s, s ≤ m → yz s = nI (u s)) → (∀ s, s ≤ m → u s ≤ v0 s) → (∀ s k, s ≤ m → bf_H (sm_G W m) v0 i s k → u s ≤ k) → (∀ s, s ≤ m → ∃ k, bf_H (sm_G W m) v0 k s (u s)) →
      wY_closure_2 post yk yn yc ym ye yP yS yt yC (d + 1) (nI i) yV yw yl yf yg yx yd yq yz := by
    intro d
    induction d with
    | zero =>
      intro i hi yz u hz hu hb hs
      rw [wY_closure_2]
      refine br_t (by rw [hym, nI_1]; exact nI_lt (by omega) (by omega)) (h yz u hz ⟨hs, hu, ?_⟩)
      exact bf_closed hG (fun s k q1 q2 => hb s k q1 (bf_HM q2 (by omega))) hs
    | succ d ih =>
      intro i hi yz u hz hu hb hs
      rw [wY_closure_2]
      refine br_f (by rw [hym, nI_1]; exact nI_nlt (by omega) (by omega)) ?_
      -- the letters' edges
      have L2 : ∀ d' s, s + d' = m → ∀ (x2 : Int32) (yz : Nat → Int32) (w : Nat → Nat), (∀ s, s ≤ m → yz s = nI (w s)) → yc_I (sm_G W m) m v0 u w x2 (fun a b c => (c = 0 ∧ ∃ x, x < e ∧ ef x = a ∧ et x = b) ∨ (c = 1 ∧ a < s ∧ gr_S W a ∧ b = gr_tg W m a)) →
          wY_closure_81 post (wY_closure_2 post yk yn yc ym ye yP yS yt yC (d + 1)) (nI i) yk yn yc ym ye yP yS yt yC (d' + 1) x2 (nI s) yV yw yl yf yg yx yd yq yz := by
        intro d'
        induction d' with
        | zero =>
          intro s hsm x2 yz w hw hI
          have : s = m := by omega
          subst this
          have hI' := hI
          obtain ⟨i1, i2, i3, i4⟩ := hI
          rw [wY_closure_81]
          refine br_t (by rw [hym]; exact nI_le (Nat.le_refl _) (by omega)) (br_c (fun z => ?_) (fun z => nm_r (nI_1 i) ?_))
          · refine h yz w hw ⟨i2, fun s q => Nat.le_trans (i1 s q) (hu s q), fun a b c q => ?_⟩
            have q1 := i4 a b c (all a b c q)
            rw [← i3 z a (hG a b c q).1] at q1
            exact q1
          · exact ih (i + 1) (by omega) yz w hw (fun s q => Nat.le_trans (i1 s q) (hu s q)) (bf_step hG hb i1 (fun a b c q => i4 a b c (all a b c q))) i2
        | succ d' ih' =>
          intro s hsm x2 yz w hw hI
          have i1 := hI.1
          rw [wY_closure_81]
          refine br_f (by rw [hym]; exact nI_ge (by omega) (by omega)) ⟨vp_in_nI (by omega) (by omega), ?_⟩
          rw [nI_clamp (by omega)]
          by_cases hS : gr_S W s
          · have hg := lets s (by omega) hS
            have hgm := hG _ _ _ hg
            have b1 := i1 s (by omega)
            have b2 := i1 _ hgm.2
            have b3 := hu s (by omega)
            have b4 := hu _ hgm.2
            have b5 := hv s (by omega)
            have b6 := hv _ hgm.2
            refine nm_r ((hT s (by omega)).1 hS) (br_f (nI_pos (by omega)) ⟨vp_in_nI (by omega) (by omega), vp_in_nI (by omega) (by omega), ?_⟩)
            rw [nI_clamp (by omega), hw s (by omega), hw _ hgm.2, nI_1 (w s)]
            have ext : ∀ x y z : Nat, (z = 0 ∧ ∃ x', x' < e ∧ ef x' = x ∧ et x' = y) ∨ (z = 1 ∧ x < s + 1 ∧ gr_S W x ∧ y = gr_tg W m x) → ((z = 0 ∧ ∃ x', x' < e ∧ ef x' = x ∧ et x' = y) ∨ (z = 1 ∧ x < s ∧ gr_S W x ∧ y = gr_tg W m x)) ∨ (x = s ∧ y = gr_tg W m s ∧ z = 1) := by
              rintro x y z (q | ⟨rfl, q1, q2, rfl⟩)
              · exact Or.inl (Or.inl q)
              · by_cases c : x = s
                · subst c; exact Or.inr ⟨rfl, rfl, rfl⟩
                · exact Or.inl (Or.inr ⟨rfl, by omega, q2, rfl⟩)
            refine pk_le (w (gr_tg W m s)) (w s + 1) (fun q => nm_r (nI_1 s) (ih' (s + 1) (by omega) x2 yz w hw (yc_Ik hI (by omega) q ext))) (fun q => ⟨vp_in_nI (by omega) (by omega), vp_in_nI (by omega) (by omega), nm_e (nm_r (nI_1 s) (ih' (s + 1) (by omega) 1 _ _ ?_ (yc_Iu hI hg (by omega) (by omega) ext)))⟩)
            intro t ht
            by_cases c : t = gr_tg W m s
            · subst c; rw [pk_us, if_pos rfl]
            · rw [pk_un c, if_neg c]; exact hw t ht
          · refine nm_r ((hT s (by omega)).2 hS) (br_t (by decide) (nm_r (nI_1 s) (ih' (s + 1) (by omega) x2 yz w hw ?_)))
            obtain ⟨j1, j2, j3, j4⟩ := hI
            refine ⟨j1, j2, j3, fun x y z q => j4 x y z ?_⟩
            rcases q with q | ⟨q0, q1, q2, q3⟩
            · exact Or.inl q
            · refine Or.inr ⟨q0, ?_, q2, q3⟩
              by_cases c : x = s
              · subst c; exact absurd q2 hS
              · omega
      -- the edges without a letter
      have L1 : ∀ d' x, x + d' = e → ∀ (x2 : Int32) (yz : Nat → Int32) (w : Nat → Nat), (∀ s, s ≤ m → yz s = nI (w s)) → yc_I (sm_G W m) m v0 u w x2 (fun a b c => c = 0 ∧ ∃ x', x' < x ∧ ef x' = a ∧ et x' = b) →
          wY_closure_16 post (wY_closure_2 post yk yn yc ym ye yP yS yt yC (d + 1)) (nI i) yk yn yc ym ye yP yS yt yC (d' + 1) x2 (nI x) yV yw yl yf yg yx yd yq yz := by
        intro d'
        induction d' with
        | zero =>
          intro x hx x2 yz w hw hI
          have : x = e := by omega
          subst this
          rw [wY_closure_16]
          refine br_t (by rw [hye]; exact nI_le (Nat.le_refl _) (by omega)) ⟨m + 1, L2 m 0 (by omega) x2 yz w hw ?_⟩
          obtain ⟨j1, j2, j3, j4⟩ := hI
          refine ⟨j1, j2, j3, fun a b c q => j4 a b c ?_⟩
          rcases q with q | ⟨_, q, _⟩
          · exact q
          · omega
        | succ d' ih' =>
          intro x hx x2 yz w hw hI
          have i1 := hI.1
          have hg := eps x (by omega)
          have hgm := hG _ _ _ hg
          have b1 := i1 _ hgm.1
          have b2 := i1 _ hgm.2
          have b3 := hu _ hgm.1
          have b4 := hu _ hgm.2
          have b5 := hv _ hgm.1
          have b6 := hv _ hgm.2
          have hx1 := hE1 x (by omega)
          rw [wY_closure_16]
          refine br_f (by rw [hye]; exact nI_ge (by omega) (by omega)) ⟨vp_in_nI (by omega) (by omega), ?_⟩
          rw [nI_clamp (by omega)]
          refine nm_r hx1.1 ⟨vp_in_nI (by omega) (by omega), nm_r hx1.2 ⟨vp_in_nI (by omega) (by omega), vp_in_nI (by omega) (by omega), ?_⟩⟩
          rw [nI_clamp (by omega), nI_clamp (by omega), hw _ hgm.1, hw _ hgm.2]
          have ext : ∀ p q r : Nat, (r = 0 ∧ ∃ x', x' < x + 1 ∧ ef x' = p ∧ et x' = q) → (r = 0 ∧ ∃ x', x' < x ∧ ef x' = p ∧ et x' = q) ∨ (p = ef x ∧ q = et x ∧ r = 0) := by
            rintro p q r ⟨rfl, x', q1, rfl, rfl⟩
            by_cases c : x' = x
            · subst c; exact Or.inr ⟨rfl, rfl, rfl⟩
            · exact Or.inl ⟨rfl, x', by omega, rfl, rfl⟩
          refine pk_le (w (et x)) (w (ef x)) (fun q => nm_r (nI_1 x) (ih' (x + 1) (by omega) x2 yz w hw (yc_Ik hI hgm.1 (by omega) ext))) (fun q => ⟨vp_in_nI (by omega) (by omega), vp_in_nI (by omega) (by omega), nm_e (nm_r (nI_1 x) (ih' (x + 1) (by omega) 1 _ _ ?_ (yc_Iu hI hg hgm.1 (by omega) ext)))⟩)
          intro t ht
          by_cases c : t = et x
          · subst c; rw [pk_us, if_pos rfl, Nat.add_zero]
          · rw [pk_un c, if_neg c]; exact hw t ht
      refine ⟨e + 1, L1 e 0 (by omega) 0 yz u hz ⟨fun s _ => Nat.le_refl _, hs, fun _ s _ => rfl, ?_⟩⟩
      rintro a b c ⟨_, x', q, _⟩
      omega
  unfold wpY_closure
  dsimp only
  refine ⟨m + 2 + 1, L (m + 2) 0 (by omega) yz v0 hz (fun s _ => Nat.le_refl _) (fun s k _ q => ?_) (fun s _ => ⟨0, rfl⟩)⟩
  have : k = v0 s := q
  omega
end
