/-! The component's methods over the text. -/
section
variable {xk xn xc xS xP xt xl xp3 : Int32} {xF xp1 xp2 xN : Int64} {xV xeb xus xbs : Nat → Int32} {xfo xsl xss xws xuf xul xbf xbl : Nat → Int64}
theorem xt_fo {post : Int64 → Prop} {p : Int64} (h : post (xr_fo xfo p 64)) : wpX_followersOf post (xk, xn, xc, xF, xS, xP, xt, xl, xp1, xp2, xp3, xN, xV, xfo, xsl, xeb, xss, xws, xuf, xul, xus, xbf, xbl, xbs) p := by
  unfold wpX_followersOf
  dsimp only
  refine pk_loop (fun n i (f : Int64) => wX_followersOf_5 post p xk xn xc xF xS xP xt xl xp1 xp2 xp3 xN xV xfo xsl xeb xss xws xuf xul xus xbf xbl xbs n f (nI i)) (fun i f => f = xr_fo xfo p i) 64 0 0 (by omega) rfl ?_ ?_
  · intro n f hf
    rw [wX_followersOf_5]
    exact br_t (nI_le (a := 64) (b := 64) (by omega) (by omega)) (by subst hf; exact h)
  · intro n i f hi hf hn
    rw [wX_followersOf_5]
    refine br_f (nI_ge (a := i) (b := 64) hi (by omega)) ?_
    have hb : ((((p.toUInt64 >>> ((nI i).toInt64.toUInt64 &&& Int64.toUInt64 63)).toInt64) &&& 1) = 0) ↔ bs_b p i = false := by
      rw [wb_cu i hi]
      exact ts_bit hi (by rw [UInt64.toNat_ofNat', Nat.mod_eq_of_lt (by omega)])
    by_cases c : bs_b p i = false
    · refine br_t (hb.mpr c) (nm_r (nI_1 i) (hn _ ?_))
      subst hf
      show xr_fo xfo p i = if bs_b p i = true then xr_fo xfo p i ||| xfo i else xr_fo xfo p i
      rw [c]; rfl
    · have c' : bs_b p i = true := ts_nf c
      refine br_f (fun z => c (hb.mp z)) ⟨vp_in_nI hi (by omega), nm_e (nm_r (nI_1 i) (hn _ ?_))⟩
      rw [nI_clamp (by omega)]
      subst hf
      show xr_fo xfo p i ||| xfo i = if bs_b p i = true then xr_fo xfo p i ||| xfo i else xr_fo xfo p i
      rw [if_pos c']
/-- v is the least number of errors at which the sets S meet F -/
def xt_L (K : Nat) (S : Nat → Int64) (F : Int64) (v : Nat) : Prop := v ≤ K + 1 ∧ (∀ d, d < v → d ≤ K → (S d &&& F) = 0) ∧ (v ≤ K → ¬ (S v &&& F) = 0)
theorem xt_Lx (K : Nat) (S : Nat → Int64) (F : Int64) : ∃ v, xt_L K S F v := by
  obtain ⟨v, h1, h2⟩ := bf_least (fun d => d = K + 1 ∨ (d ≤ K ∧ ¬ (S d &&& F) = 0)) ⟨K + 1, Or.inl rfl⟩
  refine ⟨v, by omega, fun d hd hK => ?_, fun hK => ?_⟩
  · by_cases c : S d &&& F = 0
    · exact c
    · exact absurd (Or.inr ⟨hK, c⟩) (h2 d hd)
  · rcases h1 with h1 | h1
    · omega
    · exact h1.2
theorem xt_Lu {m K v : Nat} {Rp : Nat → Nat → Prop} {S : Nat → Int64} {F : Int64} {c : Nat → Nat} (h : xt_L K S F v) (hC : sm_C m K Rp (xr_XS S) c) (hf : ∀ p, p < 64 → (bs_b F p = true ↔ Rp p m)) : c m = v := by
  obtain ⟨h1, h2, h3⟩ := h
  have hc := (hC m (Nat.le_refl _)).1
  rcases Nat.lt_trichotomy (c m) v with q | q | q
  · exact absurd (h2 (c m) q (by omega)) ((xr_least hC hf (by omega)).mpr (Nat.le_refl _))
  · exact q
  · have := (xr_least hC hf (show v ≤ K by omega)).mp (h3 (by omega)); omega
theorem xt_Lc {K v : Nat} {S S' : Nat → Int64} {F : Int64} (h : xt_L K S F v) (e : ∀ d, d ≤ K → S' d = S d) : xt_L K S' F v :=
  ⟨h.1, fun d h1 h2 => by rw [e d h2]; exact h.2.1 d h1 h2, fun q => by rw [e v q]; exact h.2.2 q⟩
theorem xt_leastS {post : Int32 → Prop} {K v : Nat} (hK : K ≤ 7) (hl : xt_L K xss xF v) (h : post (nI v)) : wpX_leastErrors post (nI K, xn, xc, xF, xS, xP, xt, xl, xp1, xp2, xp3, xN, xV, xfo, xsl, xeb, xss, xws, xuf, xul, xus, xbf, xbl, xbs) := by
  unfold wpX_leastErrors
  dsimp only
  obtain ⟨hv, hl1, hl2⟩ := hl
  refine pk_loop (fun n i (_ : Unit) => wX_leastErrors_2 post (nI K) xn xc xF xS xP xt xl xp1 xp2 xp3 xN xV xfo xsl xeb xss xws xuf xul xus xbf xbl xbs n (nI i)) (fun i _ => i ≤ v) v 0 () (Nat.zero_le _) (Nat.zero_le _) ?_ ?_
  · intro n _ _
    rw [wX_leastErrors_2]
    refine pk_lt K v (fun q => ?_) (fun q => ?_)
    · have : v = K + 1 := by omega
      subst this
      rw [nI_1]; exact h
    · rw [nI_clamp (by omega)]
      exact ⟨vp_in_nI (by omega) (by omega), br_f (hl2 q) h⟩
  · intro n i _ hi _ hn
    rw [wX_leastErrors_2]
    refine pk_lt K i (fun q => by omega) (fun q => ?_)
    rw [nI_clamp (by omega)]
    refine ⟨vp_in_nI (by omega) (by omega), br_t (hl1 i hi q) (nm_r (nI_1 i) (hn () (by omega)))⟩
theorem xt_leastW {post : Int32 → Prop} {K v : Nat} (hK : K ≤ 7) (hl : xt_L K xws xF v) (h : post (nI v)) : wpX_leastErrors_2 post (nI K, xn, xc, xF, xS, xP, xt, xl, xp1, xp2, xp3, xN, xV, xfo, xsl, xeb, xss, xws, xuf, xul, xus, xbf, xbl, xbs) := by
  unfold wpX_leastErrors_2
  dsimp only
  obtain ⟨hv, hl1, hl2⟩ := hl
  refine pk_loop (fun n i (_ : Unit) => wX_leastErrors_2_2 post (nI K) xn xc xF xS xP xt xl xp1 xp2 xp3 xN xV xfo xsl xeb xss xws xuf xul xus xbf xbl xbs n (nI i)) (fun i _ => i ≤ v) v 0 () (Nat.zero_le _) (Nat.zero_le _) ?_ ?_
  · intro n _ _
    rw [wX_leastErrors_2_2]
    refine pk_lt K v (fun q => ?_) (fun q => ?_)
    · have : v = K + 1 := by omega
      subst this
      rw [nI_1]; exact h
    · rw [nI_clamp (by omega)]
      exact ⟨vp_in_nI (by omega) (by omega), br_f (hl2 q) h⟩
  · intro n i _ hi _ hn
    rw [wX_leastErrors_2_2]
    refine pk_lt K i (fun q => by omega) (fun q => ?_)
    rw [nI_clamp (by omega)]
    refine ⟨vp_in_nI (by omega) (by omega), br_t (hl1 i hi q) (nm_r (nI_1 i) (hn () (by omega)))⟩
/-- the sets of before, and behind them what the component has reckoned, up to d -/
def xt_mix (K : Nat) (g f : Nat → Int64) : Nat → Int64 := fun s => if s < K then g s else f s
theorem xt_mixS {g f : Nat → Int64} {i : Nat} : vp_updL (xt_mix i g f) i (g i) = xt_mix (i + 1) g f := by
  funext s
  unfold xt_mix vp_updL
  by_cases e : s = i
  · subst e; simp
  · have : s < i + 1 ↔ s < i := by omega
    simp only [if_neg e, this]
theorem xt_mix0 {g f : Nat → Int64} : f = xt_mix 0 g f := by funext s; simp [xt_mix]
theorem xt_start {post : St2 → Prop} {K v : Nat} (hK : K ≤ 7) (hl : xt_L K (xr_rc xfo) xF v)
    (h : post (nI K, xn, xc, xF, xS, xP, 0, xl, xp1, xp2, xp3, xN, xV, xfo, xsl, upd xeb 0 (nI v), xt_mix (K + 1) (xr_rc xfo) xss, xt_mix (K + 1) (xr_rc xfo) xws, xuf, xul, xus, xbf, xbl, xbs)) : wpX_startText post (nI K, xn, xc, xF, xS, xP, xt, xl, xp1, xp2, xp3, xN, xV, xfo, xsl, xeb, xss, xws, xuf, xul, xus, xbf, xbl, xbs) := by
  unfold wpX_startText
  dsimp only
  refine pk_loop (fun n i (s : Int64 × (Nat → Int64) × (Nat → Int64)) => wX_startText_9 post (nI K) xn xc xF xS xP 0 xl xp1 xp2 xp3 xN n s.1 (nI i) xV xfo xsl xeb s.2.1 s.2.2 xuf xul xus xbf xbl xbs)
    (fun i s => s = (xr_rc xfo i, xt_mix i (xr_rc xfo) xss, xt_mix i (xr_rc xfo) xws)) (K + 1) 0 (1, xss, xws) (by omega) (by rw [← xt_mix0, ← xt_mix0]; rfl) ?_ ?_
  · intro n s hs
    subst hs
    dsimp only
    rw [wX_startText_9]
    refine br_t (nI_lt (by omega) (by omega)) ?_
    refine xt_leastS hK (xt_Lc hl (fun d hd => if_pos (by omega))) ?_
    exact nm_e h
  · intro n i s hi hs hn
    subst hs
    dsimp only
    rw [wX_startText_9]
    refine br_f (nI_nlt (by omega) (by omega)) ?_
    rw [nI_clamp (by omega)]
    refine ⟨vp_in_nI (by omega) (by omega), nm_r xt_mixS ⟨vp_in_nI (by omega) (by omega), nm_r xt_mixS ?_⟩⟩
    refine xt_fo (nm_e (nm_r (nI_1 i) ?_))
    exact hn (_, _, _) rfl
def xt_pS (S : Nat → Int64) : Nat → Int64
  | 0 => 0
  | d + 1 => S d
theorem xt_rl (f S : Nat → Int64) (M en : Int64) (d : Nat) : xr_rl f S M en d = ((en ||| xt_pS S d) ||| (xr_fo f (S d) 64 &&& M)) ||| xr_fo f (xt_pS S d ||| xt_pS (xr_rl f S M en) d) 64 := by
  cases d with
  | zero => rfl
  | succ d => rfl
theorem xt_readS {post : St2 → Prop} {K : Nat} {M en : Int64} (hK : K ≤ 7) (h : post (nI K, xn, xc, xF, xS, xP, xt, xl, xp1, xp2, xp3, xN, xV, xfo, xsl, xeb, xt_mix (K + 1) (xr_rl xfo xss M en) xss, xws, xuf, xul, xus, xbf, xbl, xbs)) : wpX_readLetter post (nI K, xn, xc, xF, xS, xP, xt, xl, xp1, xp2, xp3, xN, xV, xfo, xsl, xeb, xss, xws, xuf, xul, xus, xbf, xbl, xbs) M en := by
  unfold wpX_readLetter
  dsimp only
  refine pk_loop (fun n i (s : Int64 × Int64 × (Nat → Int64)) => wX_readLetter_9 post M en (nI K) xn xc xF xS xP xt xl xp1 xp2 xp3 xN n s.1 s.2.1 (nI i) xV xfo xsl xeb s.2.2 xws xuf xul xus xbf xbl xbs)
    (fun i s => s = (xt_pS xss i, xt_pS (xr_rl xfo xss M en) i, xt_mix i (xr_rl xfo xss M en) xss)) (K + 1) 0 (0, 0, xss) (by omega) (by rw [← xt_mix0]; rfl) ?_ ?_
  · intro n s hs
    subst hs
    dsimp only
    rw [wX_readLetter_9]
    exact br_t (nI_lt (by omega) (by omega)) h
  · intro n i s hi hs hn
    subst hs
    dsimp only
    rw [wX_readLetter_9]
    refine br_f (nI_nlt (by omega) (by omega)) ?_
    rw [nI_clamp (by omega)]
    have e : xt_mix i (xr_rl xfo xss M en) xss i = xss i := if_neg (by omega)
    refine ⟨vp_in_nI (by omega) (by omega), nm_r e (nm_e (xt_fo (nm_e (xt_fo (nm_r (xt_rl xfo xss M en i).symm ⟨vp_in_nI (by omega) (by omega), nm_r xt_mixS (nm_r (nI_1 i) ?_)⟩)))))⟩
    exact hn (_, _, _) rfl
theorem xt_readW {post : St2 → Prop} {K : Nat} {M en : Int64} (hK : K ≤ 7) (h : post (nI K, xn, xc, xF, xS, xP, xt, xl, xp1, xp2, xp3, xN, xV, xfo, xsl, xeb, xss, xt_mix (K + 1) (xr_rl xfo xws M en) xws, xuf, xul, xus, xbf, xbl, xbs)) : wpX_readLetter_2 post (nI K, xn, xc, xF, xS, xP, xt, xl, xp1, xp2, xp3, xN, xV, xfo, xsl, xeb, xss, xws, xuf, xul, xus, xbf, xbl, xbs) M en := by
  unfold wpX_readLetter_2
  dsimp only
  refine pk_loop (fun n i (s : Int64 × Int64 × (Nat → Int64)) => wX_readLetter_2_9 post M en (nI K) xn xc xF xS xP xt xl xp1 xp2 xp3 xN n s.1 s.2.1 (nI i) xV xfo xsl xeb xss s.2.2 xuf xul xus xbf xbl xbs)
    (fun i s => s = (xt_pS xws i, xt_pS (xr_rl xfo xws M en) i, xt_mix i (xr_rl xfo xws M en) xws)) (K + 1) 0 (0, 0, xws) (by omega) (by rw [← xt_mix0]; rfl) ?_ ?_
  · intro n s hs
    subst hs
    dsimp only
    rw [wX_readLetter_2_9]
    exact br_t (nI_lt (by omega) (by omega)) h
  · intro n i s hi hs hn
    subst hs
    dsimp only
    rw [wX_readLetter_2_9]
    refine br_f (nI_nlt (by omega) (by omega)) ?_
    rw [nI_clamp (by omega)]
    have e : xt_mix i (xr_rl xfo xws M en) xws i = xws i := if_neg (by omega)
    refine ⟨vp_in_nI (by omega) (by omega), nm_r e (nm_e (xt_fo (nm_e (xt_fo (nm_r (xt_rl xfo xws M en i).symm ⟨vp_in_nI (by omega) (by omega), nm_r xt_mixS (nm_r (nI_1 i) ?_)⟩)))))⟩
    exact hn (_, _, _) rfl
end
