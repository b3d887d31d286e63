/-! The reference: first column and next column. -/
section
variable {yk yn yc ym ye yP yS yt yC : Int32} {yV yw yl yf yg yx yd yq yz : Nat → Int32}
variable {W : Nat → Nat} {m : Nat} {FO : Nat → Nat → Prop}
theorem yc_copyI {post : SY → Prop} {B : Nat} {u : Nat → Nat} (hm : m ≤ 66) (hB : B ≤ 68) (hym : ym = nI m) (hz : ∀ s, s ≤ m → yz s = nI (u s))
    (h : ∀ yq' : Nat → Int32, (∀ s, s ≤ m → yq' (B + s) = nI (u s)) → (∀ j, j < B ∨ B + m < j → yq' j = yq j) → post (yk, yn, yc, ym, ye, yP, yS, yt, yC, yV, yw, yl, yf, yg, yx, yd, yq', yz)) : ∃ n, wY_initColumn_39 post (nI B) yk yn yc ym ye yP yS yt yC n 0 yV yw yl yf yg yx yd yq yz := by
  refine pk_loop (fun n i (q : Nat → Int32) => wY_initColumn_39 post (nI B) yk yn yc ym ye yP yS yt yC n (nI i) yV yw yl yf yg yx yd q yz) (fun i q => (∀ s, s < i → q (B + s) = nI (u s)) ∧ (∀ j, j < B ∨ B + m < j → q j = yq j)) (m + 1) 0 yq (by omega) ⟨fun s q => by omega, fun j _ => rfl⟩ ?_ ?_
  · intro n q ⟨h1, h2⟩
    rw [wY_initColumn_39]
    exact br_t (by rw [hym]; exact nI_lt (by omega) (by omega)) (h q (fun s hs => h1 s (by omega)) h2)
  · intro n i q hi ⟨h1, h2⟩ hn
    rw [wY_initColumn_39]
    refine br_f (by rw [hym]; exact nI_nlt (by omega) (by omega)) ?_
    rw [nI_add, nI_clamp (by omega), nI_clamp (by omega)]
    refine ⟨vp_in_nI (by omega) (by omega), vp_in_nI (by omega) (by omega), nm_e (nm_r (nI_1 i) (hn _ ⟨fun s hs => ?_, fun j hj => ?_⟩))⟩
    · by_cases c : s = i
      · subst c; rw [pk_us, hz s (by omega)]
      · rw [pk_un (by omega)]; exact h1 s (by omega)
    · rw [pk_un (by omega)]; exact h2 j hj
theorem yc_copyS {post : SY → Prop} {B : Nat} {u : Nat → Nat} (hm : m ≤ 66) (hB : B ≤ 68) (hym : ym = nI m) (hz : ∀ s, s ≤ m → yz s = nI (u s))
    (h : ∀ yq' : Nat → Int32, (∀ s, s ≤ m → yq' (B + s) = nI (u s)) → (∀ j, j < B ∨ B + m < j → yq' j = yq j) → post (yk, yn, yc, ym, ye, yP, yS, yt, yC, yV, yw, yl, yf, yg, yx, yd, yq', yz)) : ∃ n, wY_step_154 post (nI B) yk yn yc ym ye yP yS yt yC n 0 yV yw yl yf yg yx yd yq yz := by
  refine pk_loop (fun n i (q : Nat → Int32) => wY_step_154 post (nI B) yk yn yc ym ye yP yS yt yC n (nI i) yV yw yl yf yg yx yd q yz) (fun i q => (∀ s, s < i → q (B + s) = nI (u s)) ∧ (∀ j, j < B ∨ B + m < j → q j = yq j)) (m + 1) 0 yq (by omega) ⟨fun s q => by omega, fun j _ => rfl⟩ ?_ ?_
  · intro n q ⟨h1, h2⟩
    rw [wY_step_154]
    exact br_t (by rw [hym]; exact nI_lt (by omega) (by omega)) (h q (fun s hs => h1 s (by omega)) h2)
  · intro n i q hi ⟨h1, h2⟩ hn
    rw [wY_step_154]
    refine br_f (by rw [hym]; exact nI_nlt (by omega) (by omega)) ?_
    rw [nI_add, nI_clamp (by omega), nI_clamp (by omega)]
    refine ⟨vp_in_nI (by omega) (by omega), vp_in_nI (by omega) (by omega), nm_e (nm_r (nI_1 i) (hn _ ⟨fun s hs => ?_, fun j hj => ?_⟩))⟩
    · by_cases c : s = i
      · subst c; rw [pk_us, hz s (by omega)]
      · rw [pk_un (by omega)]; exact h1 s (by omega)
    · rw [pk_un (by omega)]; exact h2 j hj
theorem yc_init {post : SY → Prop} {B C e : Nat} (hm : m ≤ 66) (hB : B ≤ 68) (hCb : C ≤ 1000) (A : sm_A m (sm_G W m) (sm_R W m) (sm_S W m) FO) (hym : ym = nI m) (hye : ye = nI e) (he : e < 256)
    (hE : ye_R e yf yg (fun a b => ∃ x, x < m ∧ gr_E W x a b 0)) (hT : yb_T W m m yl) (hyC : yC = nI C)
    (h : ∀ (yq' yz : Nat → Int32) (u : Nat → Nat), bf_C (sm_G W m) m (fun s => if s = 0 then 0 else C) u → (∀ s, s ≤ m → yq' (B + s) = nI (u s)) → (∀ j, j < B ∨ B + m < j → yq' j = yq j) → post (yk, yn, yc, ym, ye, yP, yS, yt, yC, yV, yw, yl, yf, yg, yx, yd, yq', yz)) :
    wpY_initColumn post (yk, yn, yc, ym, ye, yP, yS, yt, yC, yV, yw, yl, yf, yg, yx, yd, yq, yz) (nI B) := by
  unfold wpY_initColumn
  dsimp only
  refine pk_loop (fun n i (z : Nat → Int32) => wY_initColumn_2 post (nI B) yk yn yc ym ye yP yS yt yC n (nI i) yV yw yl yf yg yx yd yq z) (fun i z => ∀ s, s < i → z s = nI C) (m + 1) 0 yz (by omega) (fun s q => by omega) ?_ ?_
  · intro n z hz
    rw [wY_initColumn_2]
    refine br_t (by rw [hym]; exact nI_lt (by omega) (by omega)) (nm_e ?_)
    refine yc_closure (v0 := fun s => if s = 0 then 0 else C) hm A hym hye he hE hT ?_ ?_ ?_
    · intro s hs
      by_cases c : s = 0
      · subst c; rw [pk_us]; exact nI_0.symm
      · rw [pk_un c, hz s (by omega)]
        rw [if_neg c]
    · intro s hs
      split <;> omega
    · intro yz u hu hC
      exact yc_copyI hm hB hym hu (fun yq' q1 q2 => h yq' yz u hC q1 q2)
  · intro n i z hi hz hn
    rw [wY_initColumn_2]
    refine br_f (by rw [hym]; exact nI_nlt (by omega) (by omega)) ?_
    rw [nI_clamp (by omega)]
    refine ⟨vp_in_nI (by omega) (by omega), nm_e (nm_r (nI_1 i) (hn _ (fun s hs => ?_)))⟩
    by_cases c : s = i
    · subst c; rw [pk_us, hyC]
    · rw [pk_un c]; exact hz s (by omega)
theorem yc_fits {post : Int32 → Prop} {s x : Nat} (hm : m ≤ 66) (hV : gr_V W m) (hym : ym = nI m) (hw : ∀ i, i < m → yw i = nI (W i)) (hW : ∀ i, i < m → W i < 65536) (hx : gr_L x) (hs : s < m)
    (h1 : ft_y W m x s → post 1) (h0 : ¬ ft_y W m x s → post 0) : wpY_fits post (yk, yn, yc, ym, ye, yP, yS, yt, yC, yV, yw, yl, yf, yg, yx, yd, yq, yz) (nI s) (nI x) := by
  unfold wpY_fits
  dsimp only
  have hb := hW s hs
  rw [nI_clamp (by omega), hw s hs]
  refine ⟨vp_in_nI (by omega) (by omega), nm_e ?_⟩
  refine pk_eq (W s) 46 (fun z => h1 (Or.inl z)) (fun z46 => pk_eq (W s) 91 (fun z => nm_r (nI_1 s) ?_) (fun z91 => ?_))
  · obtain ⟨c, c1, c2, c3, c4, c5⟩ := gv_cls hV hs z
    obtain ⟨_, _, _, _, p5⟩ := gr_icP hV c c2 c4
    rw [c5] at p5
    have L : ∀ d p, p + d = c → s < p → (∀ j, s < j → j < p → W j ≠ x) → wY_fits_37 post (nI x) yk yn yc ym ye yP yS yt yC yV yw yl yf yg yx yd yq yz (d + 1) (nI p) := by
      intro d
      induction d with
      | zero =>
        intro p hp hsp hj
        have : p = c := by omega
        subst this
        rw [wY_fits_37]
        refine br_f (by rw [hym]; exact nI_ge (by omega) (by omega)) ?_
        rw [nI_clamp (by omega), hw p (by omega), c3]
        refine ⟨vp_in_nI (by omega) (by omega), br_t rfl (h0 ?_)⟩
        rintro (q | ⟨q, _⟩ | ⟨_, j, j1, j2, j3, j4⟩)
        · omega
        · omega
        · obtain ⟨_, r2, _, _, r5⟩ := gr_icP hV j j1 j2
          rw [j3] at r2 r5
          by_cases y : j < p
          · exact hj j r2 y j4
          · by_cases y2 : j = p
            · subst y2; omega
            · have := (r5 p hsp (by omega)).1; omega
      | succ d ih =>
        intro p hp hsp hj
        have hbp := hW p (by omega)
        have q5 := p5 p hsp (by omega)
        rw [wY_fits_37]
        refine br_f (by rw [hym]; exact nI_ge (by omega) (by omega)) ?_
        rw [nI_clamp (by omega), hw p (by omega)]
        refine ⟨vp_in_nI (by omega) (by omega), pk_eq (W p) 93 (fun y => by omega) (fun y => ⟨vp_in_nI (by omega) (by omega), pk_eq (W p) x (fun y2 => h1 (Or.inr (Or.inr ⟨z, p, by omega, q5.2.1, q5.2.2, y2⟩))) (fun y2 => nm_r (nI_1 p) (ih (p + 1) (by omega) (by omega) (fun j j1 j2 => ?_)))⟩)⟩
        by_cases y3 : j = p
        · subst y3; exact y2
        · exact hj j j1 (by omega)
    exact ⟨_, L (c - (s + 1)) (s + 1) (by omega) (by omega) (fun j j1 j2 => by omega)⟩
  · refine pk_eq (W s) x (fun z => h1 (Or.inr (Or.inl ⟨z91, z⟩))) (fun z => h0 ?_)
    rintro (q | ⟨_, q⟩ | ⟨q, _⟩)
    · exact z46 q
    · exact z q
    · exact z91 q
/-- while the letters are read: w against the column r of before, c the last text position's -/
def yc_S (W : Nat → Nat) (m x : Nat) (c r w : Nat → Nat) (s : Nat) : Prop :=
  (∀ j, j ≤ m → w j ≤ r j) ∧ (∀ t, t < s → gr_S W t → (ft_y W m x t → w (gr_tg W m t) ≤ c t) ∧ w (gr_tg W m t) ≤ c t + 1) ∧
  (∀ j, j ≤ m → w j = r j ∨ ∃ t, t < m ∧ gr_S W t ∧ j = gr_tg W m t ∧ ((ft_y W m x t ∧ w j = c t) ∨ w j = c t + 1))
theorem yc_Sk {x s v : Nat} {c r w : Nat → Nat} (h : yc_S W m x c r w s) (hw : w (gr_tg W m s) ≤ v) (hv : (ft_y W m x s → v ≤ c s) ∧ v ≤ c s + 1) : yc_S W m x c r w (s + 1) := by
  obtain ⟨h1, h2, h3⟩ := h
  refine ⟨h1, fun t ht hS => ?_, h3⟩
  by_cases e : t = s
  · subst e; exact ⟨fun q => Nat.le_trans hw (hv.1 q), Nat.le_trans hw hv.2⟩
  · exact h2 t (by omega) hS
theorem yc_Su {x s v : Nat} {c r w : Nat → Nat} (h : yc_S W m x c r w s) (hs : s < m) (hS : gr_S W s) (hw : ¬ w (gr_tg W m s) ≤ v) (hv : (ft_y W m x s → v ≤ c s) ∧ v ≤ c s + 1) (hv2 : (ft_y W m x s ∧ v = c s) ∨ v = c s + 1) :
    yc_S W m x c r (fun j => if j = gr_tg W m s then v else w j) (s + 1) := by
  obtain ⟨h1, h2, h3⟩ := h
  have le : ∀ j, (if j = gr_tg W m s then v else w j) ≤ w j := by
    intro j
    by_cases e : j = gr_tg W m s
    · subst e; rw [if_pos rfl]; omega
    · rw [if_neg e]; exact Nat.le_refl _
  refine ⟨fun j hj => Nat.le_trans (le j) (h1 j hj), fun t ht hT => ?_, fun j hj => ?_⟩
  · by_cases e : t = s
    · subst e
      dsimp only
      rw [if_pos rfl]
      exact hv
    · have q := h2 t (by omega) hT
      exact ⟨fun z => Nat.le_trans (le _) (q.1 z), Nat.le_trans (le _) q.2⟩
  · by_cases e : j = gr_tg W m s
    · right
      refine ⟨s, hs, hS, e, ?_⟩
      dsimp only
      rw [if_pos e]
      exact hv2
    · dsimp only
      rw [if_neg e]
      exact h3 j hj
theorem yc_step {post : SY → Prop} {B K e x : Nat} {x3 : Int32} {en : Prop} {M : Nat → Prop} {XS : Nat → Nat → Prop} {c : Nat → Nat} (hm : m ≤ 66) (hB : B ≤ 68) (hK : K ≤ 7) (hV : gr_V W m) (A : sm_A m (sm_G W m) (sm_R W m) (sm_S W m) FO) (hym : ym = nI m) (hye : ye = nI e) (he : e < 256)
    (hE : ye_R e yf yg (fun a b => ∃ x, x < m ∧ gr_E W x a b 0)) (hT : yb_T W m m yl) (hyC : yC = nI (K + 1)) (hw : ∀ i, i < m → yw i = nI (W i)) (hW : ∀ i, i < m → W i < 65536) (hx : gr_L x)
    (hx3 : (x3 = 0 ∧ ¬ en) ∨ (¬ x3 = 0 ∧ en)) (hM : ∀ q t g, sm_S W m q t g → (M q ↔ ft_y W m x t)) (hc : ∀ s, s ≤ m → yq (B + s) = nI (c s)) (hX : sm_C m K (sm_R W m) XS c)
    (h : ∀ (yq' yz : Nat → Int32) (u : Nat → Nat), sm_C m K (sm_R W m) (sm_X1 FO XS M en) u → (∀ s, s ≤ m → yq' (B + s) = nI (u s)) → (∀ j, j < B ∨ B + m < j → yq' j = yq j) → post (yk, yn, yc, ym, ye, yP, yS, yt, yC, yV, yw, yl, yf, yg, yx, yd, yq', yz)) :
    wpY_step post (yk, yn, yc, ym, ye, yP, yS, yt, yC, yV, yw, yl, yf, yg, yx, yd, yq, yz) (nI B) (nI x) x3 := by
  subst hyC
  have A' := A
  obtain ⟨_, a2, _, a4, _, _, _⟩ := A
  have hcb : ∀ s, s ≤ m → c s ≤ 8 := fun s hs => by have := (hX s hs).1; omega
  -- the letters
  have L : ∀ (r : Nat → Nat), (∀ j, j ≤ m → r j ≤ c j + 1 ∧ r j ≤ K + 1) → (en → r 0 = 0) → (∀ j, j ≤ m → (r j = c j + 1 ∨ r j = K + 1) ∨ (en ∧ j = 0)) →
      ∀ d s, s + d = m → ∀ (yz : Nat → Int32) (w : Nat → Nat), (∀ j, j ≤ m → yz j = nI (w j)) → yc_S W m x c r w s → wY_step_70 post (nI B) (nI x) yk yn yc ym ye yP yS yt (nI (K + 1)) (d + 1) (nI s) yV yw yl yf yg yx yd yq yz := by
    intro r r1 r2 r3 d
    induction d with
    | zero =>
      intro s hs yz w hz hS
      have : s = m := by omega
      subst this
      obtain ⟨i1, i2, i3⟩ := hS
      rw [wY_step_70]
      refine br_t (by rw [hym]; exact nI_le (Nat.le_refl _) (by omega)) ?_
      refine yc_closure (v0 := w) hm A' hym hye he hE hT hz (fun j hj => by have := i1 j hj; have := (r1 j hj).2; omega) ?_
      intro yz u hu hC
      have hres : sm_C s K (sm_R W s) (sm_X1 FO XS M en) u := by
        refine sm_step A' hX (fun j hj => ?_) (fun q => ?_) (fun q t g hq => ?_) (fun j hj => ?_) hC
        · have := i1 j hj; have := r1 j hj; omega
        · have := i1 0 (Nat.zero_le _); have := r2 q; omega
        · have hq' := hq
          obtain ⟨q1, q2, q3, rfl⟩ := hq
          have := i2 t q2 q1
          exact ⟨fun z => this.1 ((hM q t _ hq').mp z), this.2⟩
        · rcases i3 j hj with z | ⟨t, t1, t2, t3, t4⟩
          · rcases r3 j hj with z2 | z2
            · left; rw [z]; exact z2
            · exact Or.inr (Or.inl z2)
          · have hq : sm_S W s (gr_ct W t + 1) t j := ⟨t2, t1, rfl, t3⟩
            refine Or.inr (Or.inr ⟨_, t, hq, ?_⟩)
            rcases t4 with ⟨y1, y2⟩ | y
            · exact Or.inl ⟨(hM _ t j hq).mpr y1, y2⟩
            · exact Or.inr y
      exact yc_copyS hm hB hym hu (fun yq' q1 q2 => h yq' yz u hres q1 q2)
    | succ d ih =>
      intro s hs yz w hz hI
      have i1 := hI.1
      rw [wY_step_70]
      refine br_f (by rw [hym]; exact nI_ge (by omega) (by omega)) ⟨vp_in_nI (by omega) (by omega), ?_⟩
      rw [nI_clamp (by omega)]
      by_cases hS : gr_S W s
      · have hg := a2 (gr_ct W s + 1) s _ ⟨hS, by omega, rfl, rfl⟩
        have b1 := i1 _ hg.2.2.1
        have b2 := r1 _ hg.2.2.1
        have b3 := hcb s (by omega)
        refine nm_r ((hT s (by omega)).1 hS) (br_f (nI_pos (by omega)) ?_)
        rw [nI_add, nI_clamp (by omega), hc s (by omega)]
        refine ⟨vp_in_nI (by omega) (by omega), ?_⟩
        have h117 : ∀ z, z ≤ 1 → ((ft_y W m x s → c s + z ≤ c s) ∧ c s + z ≤ c s + 1) → ((ft_y W m x s ∧ c s + z = c s) ∨ c s + z = c s + 1) →
            wY_step_117 post (wY_step_70 post (nI B) (nI x) yk yn yc ym ye yP yS yt (nI (K + 1)) (d + 1)) (nI B) (nI x) (nI s) (nI (gr_tg W m s)) (nI z) (nI (c s)) yk yn yc ym ye yP yS yt (nI (K + 1)) yV yw yl yf yg yx yd yq yz := by
          intro z hz1 hz2 hz3
          unfold wY_step_117
          rw [nI_add, nI_clamp (by omega), hz _ hg.2.2.1]
          refine nm_e ⟨vp_in_nI (by omega) (by omega), pk_le (w (gr_tg W m s)) (c s + z) (fun q => nm_r (nI_1 s) (ih (s + 1) (by omega) yz w hz (yc_Sk hI q hz2))) (fun q => ⟨vp_in_nI (by omega) (by omega), nm_e (nm_r (nI_1 s) (ih (s + 1) (by omega) _ _ ?_ (yc_Su hI (by omega) hS (by omega) hz2 hz3)))⟩)⟩
          intro j hj
          by_cases y : j = gr_tg W m s
          · subst y; rw [pk_us, if_pos rfl]
          · rw [pk_un y, if_neg y]; exact hz j hj
        refine yc_fits hm hV hym hw hW hx (by omega) (fun z => br_f (by decide) ?_) (fun z => br_t rfl ?_)
        · exact h117 0 (by omega) ⟨fun _ => by omega, by omega⟩ (Or.inl ⟨z, by omega⟩)
        · exact h117 1 (by omega) ⟨fun q => absurd q z, by omega⟩ (Or.inr rfl)
      · refine nm_r ((hT s (by omega)).2 hS) (br_t (by decide) (nm_r (nI_1 s) (ih (s + 1) (by omega) yz w hz ?_)))
        obtain ⟨j1, j2, j3⟩ := hI
        refine ⟨j1, fun t ht hSt => j2 t ?_ hSt, j3⟩
        by_cases y : t = s
        · subst y; exact absurd hSt hS
        · omega
  unfold wpY_step
  dsimp only
  refine pk_loop (fun n i (z : Nat → Int32) => wY_step_3 post (nI B) (nI x) x3 yk yn yc ym ye yP yS yt (nI (K + 1)) n (nI i) yV yw yl yf yg yx yd yq z) (fun i z => ∀ s, s < i → z s = nI (if c s + 1 ≤ K + 1 then c s + 1 else K + 1)) (m + 1) 0 yz (by omega) (fun s q => by omega) ?_ ?_
  · intro n z hz
    rw [wY_step_3]
    refine br_t (by rw [hym]; exact nI_lt (by omega) (by omega)) ?_
    rcases hx3 with ⟨q1, q2⟩ | ⟨q1, q2⟩
    · refine br_t q1 ⟨m + 1, L (fun s => if c s + 1 ≤ K + 1 then c s + 1 else K + 1) (fun j hj => ?_) (fun q => absurd q q2) (fun j hj => ?_) m 0 (by omega) z _ (fun j hj => hz j (by omega)) ⟨fun j _ => Nat.le_refl _, fun t ht => absurd ht (by omega), fun j _ => Or.inl rfl⟩⟩
      · split <;> omega
      · left; split
        · exact Or.inl rfl
        · exact Or.inr rfl
    · refine br_f q1 (nm_e ⟨m + 1, L (fun s => if s = 0 then 0 else if c s + 1 ≤ K + 1 then c s + 1 else K + 1) (fun j hj => ?_) (fun q => rfl) (fun j hj => ?_) m 0 (by omega) _ _ (fun j hj => ?_) ⟨fun j _ => Nat.le_refl _, fun t ht => absurd ht (by omega), fun j _ => Or.inl rfl⟩⟩)
      · skip
        split
        · omega
        · split <;> omega
      · skip
        by_cases y : j = 0
        · exact Or.inr ⟨q2, y⟩
        · rw [if_neg y]
          left; split
          · exact Or.inl rfl
          · exact Or.inr rfl
      · by_cases y : j = 0
        · subst y; rw [pk_us]; exact nI_0.symm
        · rw [pk_un y, if_neg y]; exact hz j (by omega)
  · intro n i z hi hz hn
    have b3 := hcb i (by omega)
    rw [wY_step_3]
    refine br_f (by rw [hym]; exact nI_nlt (by omega) (by omega)) ?_
    rw [nI_add, nI_clamp (by omega), nI_clamp (by omega), hc i (by omega), nI_1 (c i)]
    have hv := vp_in_nI (n := i) (N := 68) (by omega) (by omega)
    refine ⟨vp_in_nI (by omega) (by omega), nm_e (pk_le (c i + 1) (K + 1) (fun q => ⟨hv, nm_e (nm_r (nI_1 i) (hn _ (fun s hs => ?_)))⟩) (fun q => ⟨hv, nm_e (nm_r (nI_1 i) (hn _ (fun s hs => ?_)))⟩))⟩
    · by_cases y : s = i
      · subst y; rw [pk_us, if_pos q]
      · rw [pk_un y]; exact hz s (by omega)
    · by_cases y : s = i
      · subst y; rw [pk_us, if_neg (by omega)]
      · rw [pk_un y]; exact hz s (by omega)
end
