/-! The component's own methods over one state: compiling. -/
section
variable {xk xn xc xS xP xt xl xp3 : Int32} {xF xp1 xp2 xN : Int64} {xV xeb xus xbs : Nat → Int32} {xfo xsl xss xws xuf xul xbf xbl : Nat → Int64}
theorem xw_isL {post : Int32 → Prop} {c : Nat} (hc : c < 65536) (h1 : gr_L c → post 1) (h0 : ¬ gr_L c → post 0) : wpX_isLetter post () (nI c) := by
  unfold wpX_isLetter
  exact pk_lt c 97 (fun h => h0 (by omega)) (fun h => pk_lt 122 c (fun h' => h0 (by omega)) (fun h' => h1 ⟨h, h'⟩))
theorem xw_isO {post : Int32 → Prop} {c : Nat} (hc : c < 65536) (h1 : gr_O c → post 1) (h0 : ¬ gr_O c → post 0) : wpX_isPostfix post () (nI c) := by
  unfold wpX_isPostfix
  exact pk_eq c 42 (fun h => h1 (by omega)) (fun h => pk_eq c 43 (fun h' => h1 (by omega)) (fun h' => pk_eq c 63 (fun h'' => h1 (by omega)) (fun h'' => h0 (by omega))))
theorem xw_add {post : St2 → Prop} {st ad : Int64} (h : post (xk, xn, xc, xF, xS, xP, xt, xl, xp1, xp2, xp3, xN, xV, bs_add xfo st ad, xsl, xeb, xss, xws, xuf, xul, xus, xbf, xbl, xbs)) : wpX_addFollowers post (xk, xn, xc, xF, xS, xP, xt, xl, xp1, xp2, xp3, xN, xV, xfo, xsl, xeb, xss, xws, xuf, xul, xus, xbf, xbl, xbs) st ad := by
  unfold wpX_addFollowers
  dsimp only
  refine pk_loop (fun n i (f : Nat → Int64) => wX_addFollowers_3 post st ad xk xn xc xF xS xP xt xl xp1 xp2 xp3 xN n (nI i) xV f xsl xeb xss xws xuf xul xus xbf xbl xbs)
    (fun i f => f = fun s => if s < i ∧ bs_b st s = true then xfo s ||| ad else xfo s) 64 0 xfo (by omega) (by funext s; simp) ?_ ?_
  · intro n f hf
    rw [wX_addFollowers_3]
    exact br_t (nI_le (a := 64) (b := 64) (by omega) (by omega)) (by subst hf; exact h)
  · intro n i f hi hf hn
    rw [wX_addFollowers_3]
    refine br_f (nI_ge (a := i) (b := 64) hi (by omega)) ?_
    have hb : ((((st.toUInt64 >>> ((nI i).toInt64.toUInt64 &&& Int64.toUInt64 63)).toInt64) &&& 1) = 0) ↔ bs_b st i = false := by
      rw [wb_cu i hi]
      exact ts_bit hi (by rw [UInt64.toNat_ofNat', Nat.mod_eq_of_lt (by omega)])
    by_cases c : bs_b st i = false
    · refine br_t (hb.mpr c) (nm_r (nI_1 i) (hn _ ?_))
      subst hf
      funext s
      by_cases e : s = i
      · subst e; simp [c]
      · have : s < i + 1 ↔ s < i := by omega
        simp only [this]
    · have c' : bs_b st i = true := ts_nf c
      refine br_f (fun z => c (hb.mp z)) ⟨vp_in_nI hi (by omega), vp_in_nI hi (by omega), nm_e (nm_r (nI_1 i) (hn _ ?_))⟩
      rw [nI_clamp (by omega)]
      subst hf
      funext s
      by_cases e : s = i
      · subst e; simp [vp_updL, c']
      · have : s < i + 1 ↔ s < i := by omega
        simp only [vp_updL, if_neg e, this]
theorem xw_eP {post : St2 → Prop} (h : post (xk, xn, xc, xF, xS, xP, xt, xl, 0, 0, 0, xN, xV, xfo, xsl, xeb, xss, xws, xuf, xul, xus, xbf, xbl, xbs)) : wpX_emptyPiece post (xk, xn, xc, xF, xS, xP, xt, xl, xp1, xp2, xp3, xN, xV, xfo, xsl, xeb, xss, xws, xuf, xul, xus, xbf, xbl, xbs) := h
theorem xw_eB {post : St2 → Prop} {l : Nat} (hl : l < 65) (h : post (xk, xn, xc, xF, xS, xP, xt, nI l, xp1, xp2, xp3, xN, xV, xfo, xsl, xeb, xss, xws, xuf, xul, xus, vp_updL xbf l 0, vp_updL xbl l 0, upd xbs l 0)) : wpX_emptyBranch post (xk, xn, xc, xF, xS, xP, xt, nI l, xp1, xp2, xp3, xN, xV, xfo, xsl, xeb, xss, xws, xuf, xul, xus, xbf, xbl, xbs) := by
  unfold wpX_emptyBranch
  dsimp only
  have hv := vp_in_nI hl (N := 65) (by omega)
  rw [nI_clamp (by omega)]
  exact ⟨hv, nm_e ⟨hv, nm_e ⟨hv, nm_e h⟩⟩⟩
theorem xw_eU {post : St2 → Prop} {l : Nat} (hl : l < 65) (h : post (xk, xn, xc, xF, xS, xP, xt, nI l, xp1, xp2, xp3, xN, xV, xfo, xsl, xeb, xss, xws, vp_updL xuf l 0, vp_updL xul l 0, upd xus l 64, xbf, xbl, xbs)) : wpX_emptyUnion post (xk, xn, xc, xF, xS, xP, xt, nI l, xp1, xp2, xp3, xN, xV, xfo, xsl, xeb, xss, xws, xuf, xul, xus, xbf, xbl, xbs) := by
  unfold wpX_emptyUnion
  dsimp only
  have hv := vp_in_nI hl (N := 65) (by omega)
  rw [nI_clamp (by omega)]
  exact ⟨hv, nm_e ⟨hv, nm_e ⟨hv, nm_e h⟩⟩⟩
theorem xw_clear {post : St2 → Prop} (h : post (xk, xn, xc, xF, xS, xP, xt, nI 0, 0, 0, 0, 1, xV, fun s => if s < 64 then 0 else xfo s, fun s => if s < 26 then 0 else xsl s, xeb, xss, xws, vp_updL xuf 0 0, vp_updL xul 0 0, upd xus 0 64, vp_updL xbf 0 0, vp_updL xbl 0 0, upd xbs 0 0)) :
    wpX_clearAutomaton post (xk, xn, xc, xF, xS, xP, xt, xl, xp1, xp2, xp3, xN, xV, xfo, xsl, xeb, xss, xws, xuf, xul, xus, xbf, xbl, xbs) := by
  unfold wpX_clearAutomaton
  dsimp only
  refine pk_loop (fun n i (f : Nat → Int64) => wX_clearAutomaton_2 post xk xn xc xF xS xP xt xl xp1 xp2 xp3 xN n (nI i) xV f xsl xeb xss xws xuf xul xus xbf xbl xbs)
    (fun i f => f = fun s => if s < i then 0 else xfo s) 64 0 xfo (by omega) (by funext s; simp) ?_ ?_
  · intro n f hf
    rw [wX_clearAutomaton_2]
    refine br_t (nI_le (a := 64) (b := 64) (by omega) (by omega)) ?_
    refine pk_loop (fun n i (g : Nat → Int64) => wX_clearAutomaton_23 post xk xn xc xF xS xP xt xl xp1 xp2 xp3 xN n (nI i) xV f g xeb xss xws xuf xul xus xbf xbl xbs)
      (fun i g => g = fun s => if s < i then 0 else xsl s) 26 0 xsl (by omega) (by funext s; simp) ?_ ?_
    · intro n g hg
      rw [wX_clearAutomaton_23]
      refine br_t (nI_le (a := 26) (b := 26) (by omega) (by omega)) ?_
      refine xw_eP (xw_eB (l := 0) (by omega) (xw_eU (l := 0) (by omega) ?_))
      subst hf; subst hg
      exact h
    · intro n i g hi hg hn
      rw [wX_clearAutomaton_23]
      refine br_f (nI_ge (a := i) (b := 26) hi (by omega)) ⟨vp_in_nI hi (by omega), nm_e (nm_r (nI_1 i) (hn _ ?_))⟩
      rw [nI_clamp (by omega)]
      subst hg
      funext s
      by_cases e : s = i
      · subst e; simp [vp_updL]
      · have : s < i + 1 ↔ s < i := by omega
        simp only [vp_updL, if_neg e, this]
  · intro n i g hi hg hn
    rw [wX_clearAutomaton_2]
    refine br_f (nI_ge (a := i) (b := 64) hi (by omega)) ⟨vp_in_nI hi (by omega), nm_e (nm_r (nI_1 i) (hn _ ?_))⟩
    rw [nI_clamp (by omega)]
    subst hg
    funext s
    by_cases e : s = i
    · subst e; simp [vp_updL]
    · have : s < i + 1 ↔ s < i := by omega
      simp only [vp_updL, if_neg e, this]
theorem xw_post {post : St2 → Prop} {c : Nat} (hc : c < 65536) (h : post (xk, xn, xc, xF, xS, xP, xt, xl, xp1, xp2, if c = 43 then xp3 else 0, xN, xV, if c = 63 then xfo else bs_add xfo xp2 xp1, xsl, xeb, xss, xws, xuf, xul, xus, xbf, xbl, xbs)) : wpX_applyPostfix post (xk, xn, xc, xF, xS, xP, xt, xl, xp1, xp2, xp3, xN, xV, xfo, xsl, xeb, xss, xws, xuf, xul, xus, xbf, xbl, xbs) (nI c) := by
  unfold wpX_applyPostfix
  dsimp only
  refine pk_eq c 63 (fun e => ?_) (fun e => ?_)
  · unfold wX_applyPostfix_18
    rw [if_pos e, if_neg (by omega)] at h
    exact pk_eq c 43 (fun e' => by omega) (fun _ => h)
  · rw [if_neg e] at h
    refine xw_add ?_
    unfold wX_applyPostfix_18
    refine pk_eq c 43 (fun e' => ?_) (fun e' => ?_)
    · rw [if_pos e'] at h; exact h
    · rw [if_neg e'] at h; exact h
theorem xw_c97 {c : Nat} (h : gr_L c) : nI c - 97 = nI (c - 97) := pk_sub (b := 97) h.1
theorem xw_acc {post : St2 → Prop} {c : Nat} (hc : gr_L c) (h : post (xk, xn, xc, xF, xS, xP, xt, xl, xp1, xp2, xp3, xN, xV, xfo, vp_updL xsl (c - 97) (xsl (c - 97) ||| xN), xeb, xss, xws, xuf, xul, xus, xbf, xbl, xbs)) : wpX_acceptLetter post (xk, xn, xc, xF, xS, xP, xt, xl, xp1, xp2, xp3, xN, xV, xfo, xsl, xeb, xss, xws, xuf, xul, xus, xbf, xbl, xbs) (nI c) := by
  unfold wpX_acceptLetter
  dsimp only
  rw [xw_c97 hc, nI_clamp (by omega)]
  have hv := vp_in_nI (n := c - 97) (N := 26) (by omega) (by omega)
  exact ⟨hv, hv, nm_e h⟩
theorem xw_join {post : St2 → Prop} {l : Nat} (hl : l < 65) (h : post (xk, xn, xc, xF, xS, xP, xt, nI l, 0, 0, 0, xN, xV, bs_add xfo (xbl l) xp1, xsl, xeb, xss, xws, xuf, xul, xus, fun j => if j = l then (if xbs l = 0 then xbf l ||| xp1 else xbf l) else xbf j, fun j => if j = l then (if 0 < xp3 then 0 else xbl l) ||| xp2 else xbl j, fun j => if j = l then xbs l + xp3 else xbs j)) :
    wpX_joinPiece post (xk, xn, xc, xF, xS, xP, xt, nI l, xp1, xp2, xp3, xN, xV, xfo, xsl, xeb, xss, xws, xuf, xul, xus, xbf, xbl, xbs) := by
  have hv := vp_in_nI hl (N := 65) (by omega)
  have h62 : ∀ (f f' : Nat → Int64) (g : Nat → Int64), (f' = fun j => if j = l then (if 0 < xp3 then 0 else xbl l) ||| xp2 else xbl j) → f' = vp_updL f l (f l ||| xp2) →
      (g = fun j => if j = l then (if xbs l = 0 then xbf l ||| xp1 else xbf l) else xbf j) →
      wX_joinPiece_62 post xk xn xc xF xS xP xt (nI l) xp1 xp2 xp3 xN xV (bs_add xfo (xbl l) xp1) xsl xeb xss xws xuf xul xus g f xbs := by
    intro f f' g e1 e2 e3
    unfold wX_joinPiece_62
    rw [nI_clamp (by omega)]
    refine ⟨hv, hv, nm_r e2.symm ⟨hv, hv, nm_e ?_⟩⟩
    refine xw_eP ?_
    subst e1 e3
    exact h
  have h45 : ∀ (g : Nat → Int64), (g = fun j => if j = l then (if xbs l = 0 then xbf l ||| xp1 else xbf l) else xbf j) →
      wX_joinPiece_45 post xk xn xc xF xS xP xt (nI l) xp1 xp2 xp3 xN xV (bs_add xfo (xbl l) xp1) xsl xeb xss xws xuf xul xus g xbl xbs := by
    intro g e3
    unfold wX_joinPiece_45
    by_cases c : xp3 ≤ 0
    · refine br_t c (h62 xbl _ g ?_ rfl e3)
      funext j
      rw [if_neg (Int32.not_lt.mpr c)]
      by_cases e : j = l
      · subst e; simp [vp_updL]
      · simp [vp_updL, e]
    · refine br_f c ⟨hv, nm_e (h62 _ _ g ?_ rfl e3)⟩
      rw [nI_clamp (by omega)]
      funext j
      rw [if_pos (Int32.not_le.mp c)]
      by_cases e : j = l
      · subst e; simp [vp_updL]
      · simp [vp_updL, e]
  unfold wpX_joinPiece
  dsimp only
  rw [nI_clamp (by omega)]
  refine ⟨hv, xw_add ?_⟩
  dsimp only
  rw [nI_clamp (by omega)]
  refine ⟨hv, ?_⟩
  by_cases c : xbs l = 0
  · refine br_t c ⟨hv, hv, nm_r ?_ (h45 _ rfl)⟩
    funext j
    rw [if_pos c]
    by_cases e : j = l
    · subst e; simp [vp_updL]
    · simp [vp_updL, e]
  · refine br_f c ?_
    have e3 : xbf = fun j => if j = l then (if xbs l = 0 then xbf l ||| xp1 else xbf l) else xbf j := by
      funext j
      rw [if_neg c]
      by_cases e : j = l
      · subst e; simp
      · simp [e]
    exact h45 xbf e3
theorem xw_endB {post : St2 → Prop} {l : Nat} (hl : l < 65) (h : post (xk, xn, xc, xF, xS, xP, xt, nI l, xp1, xp2, xp3, xN, xV, xfo, xsl, xeb, xss, xws, fun j => if j = l then xuf l ||| xbf l else xuf j, fun j => if j = l then xul l ||| xbl l else xul j, fun j => if j = l then (if xbs l < xus l then xbs l else xus l) else xus j, fun j => if j = l then 0 else xbf j, fun j => if j = l then 0 else xbl j, fun j => if j = l then 0 else xbs j)) :
    wpX_endBranch post (xk, xn, xc, xF, xS, xP, xt, nI l, xp1, xp2, xp3, xN, xV, xfo, xsl, xeb, xss, xws, xuf, xul, xus, xbf, xbl, xbs) := by
  have hv := vp_in_nI hl (N := 65) (by omega)
  unfold wpX_endBranch
  dsimp only
  rw [nI_clamp (by omega)]
  refine ⟨hv, hv, hv, nm_e ⟨hv, hv, hv, nm_e ⟨hv, hv, ?_⟩⟩⟩
  by_cases c : xus l ≤ xbs l
  · refine br_t c ?_
    unfold wX_endBranch_81
    refine xw_eB hl ?_
    rw [if_neg (Int32.not_lt.mpr c)] at h
    have e : xus = fun j => if j = l then xus l else xus j := by
      funext j
      by_cases e : j = l
      · subst e; simp
      · simp [e]
    rw [← e] at h
    exact h
  · refine br_f c ⟨hv, hv, nm_e ?_⟩
    unfold wX_endBranch_81
    refine xw_eB hl ?_
    rw [if_pos (Int32.not_le.mp c)] at h
    exact h
theorem xw_closeL {post : St2 → Prop} {l : Nat} (hl : l + 1 < 65) (h : post (xk, xn, xc, xF, xS, xP, xt, nI l, xuf (l + 1), xul (l + 1), xus (l + 1), xN, xV, xfo, xsl, xeb, xss, xws, xuf, xul, xus, xbf, xbl, xbs)) : wpX_closeLevel post (xk, xn, xc, xF, xS, xP, xt, nI (l + 1), xp1, xp2, xp3, xN, xV, xfo, xsl, xeb, xss, xws, xuf, xul, xus, xbf, xbl, xbs) := by
  have hv := vp_in_nI hl (N := 65) (by omega)
  unfold wpX_closeLevel
  dsimp only
  rw [nI_clamp (by omega)]
  exact ⟨hv, nm_e ⟨hv, nm_e ⟨hv, nm_e (nm_r (nI_pred l) h)⟩⟩⟩
theorem xw_shl (π : Nat) : lN (2 ^ π) <<< ((1 : Int32).toInt64 &&& 63) = lN (2 ^ (π + 1)) := by
  have := wb_shl (2 ^ π) (k := 1) (by omega)
  rw [Nat.pow_one, ← Nat.pow_succ] at this
  exact this
theorem xw_begin {post : St2 → Prop} {π : Nat} (h : post (xk, xn, xc, xF, xS, xP, xt, xl, lN (2 ^ (π + 1)), lN (2 ^ (π + 1)), 1, lN (2 ^ (π + 1)), xV, xfo, xsl, xeb, xss, xws, xuf, xul, xus, xbf, xbl, xbs)) : wpX_beginPosition post (xk, xn, xc, xF, xS, xP, xt, xl, xp1, xp2, xp3, lN (2 ^ π), xV, xfo, xsl, xeb, xss, xws, xuf, xul, xus, xbf, xbl, xbs) := by
  unfold wpX_beginPosition
  dsimp only
  exact nm_r (xw_shl π) h
theorem xw_every {post : St2 → Prop} (h : post (xk, xn, xc, xF, xS, xP, xt, xl, xp1, xp2, xp3, xN, xV, xfo, fun s => if s < 26 then xsl s ||| xN else xsl s, xeb, xss, xws, xuf, xul, xus, xbf, xbl, xbs)) : wpX_acceptEveryLetter post (xk, xn, xc, xF, xS, xP, xt, xl, xp1, xp2, xp3, xN, xV, xfo, xsl, xeb, xss, xws, xuf, xul, xus, xbf, xbl, xbs) := by
  unfold wpX_acceptEveryLetter
  dsimp only
  refine pk_loop (fun n i (f : Nat → Int64) => wX_acceptEveryLetter_2 post xk xn xc xF xS xP xt xl xp1 xp2 xp3 xN n (nI i) xV xfo f xeb xss xws xuf xul xus xbf xbl xbs)
    (fun i f => f = fun s => if s < i then xsl s ||| xN else xsl s) 26 0 xsl (by omega) (by funext s; simp) ?_ ?_
  · intro n f hf
    rw [wX_acceptEveryLetter_2]
    exact br_t (nI_le (a := 26) (b := 26) (by omega) (by omega)) (by subst hf; exact h)
  · intro n i f hi hf hn
    rw [wX_acceptEveryLetter_2]
    refine br_f (nI_ge (a := i) (b := 26) hi (by omega)) ⟨vp_in_nI hi (by omega), vp_in_nI hi (by omega), nm_e (nm_r (nI_1 i) (hn _ ?_))⟩
    rw [nI_clamp (by omega)]
    subst hf
    funext s
    by_cases e : s = i
    · subst e; simp [vp_updL]
    · have : s < i + 1 ↔ s < i := by omega
      simp only [vp_updL, if_neg e, this]
end
