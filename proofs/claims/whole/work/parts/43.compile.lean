/-! compile -/
theorem gr_ctl {W : Nat → Nat} : ∀ i, gr_ct W i ≤ i := by
  intro i
  induction i with
  | zero => exact Nat.le_refl _
  | succ i ih => rw [gr_ct1]; split <;> omega
section
variable {yk yn yc ym ye yP yS yt yC : Int32} {yV yw yl yf yg yx yd yq yz : Nat → Int32}
theorem rl_ycomp {post : Int32 → SY → Prop} {V : Nat → Nat} {n K n0 : Nat} {FO : Nat → Nat → Prop} (hn0 : 0 < n) (hn : n ≤ 64) (hK : K ≤ 7) (hal : ∀ i, i < n → vd_al (V i)) (hv : vd_V (vd_W V n) n) (hct : gr_ct (vd_W V n) (n + 1) ≤ 63)
    (hA : sm_A (n + 2) (sm_G (vd_W V n) (n + 2)) (sm_R (vd_W V n) (n + 2)) (sm_S (vd_W V n) (n + 2)) FO) (hp : fg_P (gr_E (vd_W V n)) 0 (n + 2) 0 (n + 2) n0) (hmin : ∀ k, fg_P (gr_E (vd_W V n)) 0 (n + 2) 0 (n + 2) k → n0 ≤ k) (hb : n0 ≤ 64)
    (h : ∀ (ym ye : Int32) (yw yl yf yg yd' yq yz : Nat → Int32) (e : Nat) (u : Nat → Nat), ym = nI (n + 2) → (∀ i, i < n + 2 → yw i = nI (vd_W V n i)) → ye = nI e → e < 256 → ye_R e yf yg (fun a b => ∃ x, x < n + 2 ∧ gr_E (vd_W V n) x a b 0) → yb_T (vd_W V n) (n + 2) (n + 2) yl →
      sm_C (n + 2) K (sm_R (vd_W V n) (n + 2)) (sm_X0 FO) u → (∀ s, s ≤ n + 2 → yq s = nI (u s)) → yd' 0 = nI (u (n + 2)) → post (nI (gr_ct (vd_W V n) (n + 1))) (nI K, nI n, 1, ym, ye, nI (gr_ct (vd_W V n) (n + 1)), nI n0, 0, nI (K + 1), fun i => nI (V i), yw, yl, yf, yg, yx, yd', yq, yz)) :
    wpY_compile post (nI K, nI n, yc, ym, ye, yP, yS, yt, yC, fun i => nI (V i), yw, yl, yf, yg, yx, yd, yq, yz) := by
  have gV : gr_V (vd_W V n) (n + 2) := vd_gr hn0 vd_W0 vd_Wm hv
  unfold wpY_compile
  refine br_f (nI_ne0 hn0 (by omega)) ?_
  refine yv_valid hn rfl hal rfl rfl (fun _ => br_f (by decide) ?_) (fun z => absurd hv z)
  refine yv_count hn rfl hal rfl rfl hv.1 (pk_le (gr_ct (vd_W V n) (n + 1)) 63 (fun _ => ?_) (fun z => by omega))
  refine yb_build hn0 hn rfl rfl gV hal rfl rfl ?_
  intro ym ye yw yl yf yg e hym hw hye he hE hT
  subst hym
  refine yc_init (B := 0) (C := 1000) (W := vd_W V n) (m := n + 2) (by omega) (by omega) (by omega) hA rfl hye he hE hT rfl ?_
  intro yq1 yz1 u1 hu1 hq1 _
  have hG : ∀ a b c, sm_G (vd_W V n) (n + 2) a b c → a ≤ n + 2 ∧ b ≤ n + 2 := fun a b c q => ⟨(hA.2.2.2.1 a b c q).1, (hA.2.2.2.1 a b c q).2.1⟩
  have em := sm_min (n := n0) (v0 := fun s => if s = 0 then 0 else 1000) hG (if_pos rfl) (fun s _ hs => if_neg hs) hu1 hp hmin (by omega)
  have eq := hq1 (n + 2) (Nat.le_refl _)
  rw [Nat.zero_add, em] at eq
  dsimp only
  rw [nI_clamp (by omega), eq]
  refine ⟨vp_in_nI (by omega) (by omega), nm_e (nm_r (nI_1 K) ?_)⟩
  refine yc_init (B := 0) (C := K + 1) (W := vd_W V n) (m := n + 2) (by omega) (by omega) (by omega) hA rfl hye he hE hT rfl ?_
  intro yq2 yz2 u2 hu2 hq2 _
  have hI := sm_init (K := K) (v0 := fun s => if s = 0 then 0 else K + 1) hA (if_pos rfl) (fun s _ hs => if_neg hs) hu2
  dsimp only
  rw [nI_clamp (by omega)]
  refine ⟨vp_in_nI (by omega) (by omega), nm_e ?_⟩
  refine h _ _ _ _ _ _ _ _ _ e u2 rfl hw hye he hE hT hI (fun s hs => ?_) ?_
  · have := hq2 s hs
    rw [Nat.zero_add] at this; exact this
  · have := hq2 (n + 2) (Nat.le_refl _)
    rw [Nat.zero_add] at this
    rw [pk_us, this]
end
theorem i_vc_compile {k : Nat} {u : SX} {v : SY} (I : i_Rel k u v) (hk : k + 2 ≤ 1025) : wpX_compile (fun r u' => wpY_compile (fun r' v' => r' = r ∧ i_Rel (k + 2) u' v') v) u := by
  have J := I
  obtain ⟨xk, xn, xc, xF, xS, xP, xt, xl, xp1, xp2, xp3, xN, xV, xfo, xsl, xeb, xss, xws, xuf, xul, xus, xbf, xbl, xbs⟩ := u
  obtain ⟨yk, yn, yc, ym, ye, yP, yS, yt, yC, yV, yw, yl, yf, yg, yx, yd, yq, yz⟩ := v
  obtain ⟨K, n, tl, V, co, rfl, rfl, rfl, rfl, rfl, rfl, rfl, rfl, rfl, rfl, rfl, hK, hn, htl, hal, hc0, hc1⟩ := I
  have hl := gr_ctl (W := vd_W V n) (n + 1)
  unfold wpX_compile
  refine pk_eq n 0 (fun z => ?_) (fun hn0 => ?_)
  · unfold wpY_compile
    exact pk_eq n 0 (fun _ => ⟨rfl, J⟩) (fun q => absurd z q)
  · refine xv_valid hn rfl hal rfl rfl (fun hv => br_f (by decide) ?_) (fun hv => br_t rfl ?_)
    · refine xv_count hn rfl hal rfl rfl (pk_le (gr_ct (vd_W V n) (n + 1)) 63 (fun hct => ?_) (fun hct => ?_))
      · have gV : gr_V (vd_W V n) (n + 2) := vd_gr (by omega) vd_W0 vd_Wm hv
        have hct2 : gr_ct (vd_W V n) (n + 2) ≤ 63 := by
          rw [xs_ctN (W := vd_W V n) (i := n + 1) (gs_nS (Or.inr (Or.inl vd_Wm)))]; exact hct
        refine xb_build (by omega) hn rfl rfl gV hct2 hal rfl rfl ?_
        intro xF xS xl xp1 xp2 xp3 xN xfo xsl xuf xul xus xbf xbl xbs hR
        have hR' := hR
        obtain ⟨n0, rfl, hb, hp, hmin, hA, hfin, hsl, _⟩ := hR
        obtain ⟨lv, hlv⟩ := xt_Lx K (xr_rc xfo) xF
        refine xt_start hK hlv ?_
        refine rl_ycomp (by omega) hn hK hal hv hct hA hp hmin hb ?_
        intro ym ye yw yl yf yg yd' yq yz e u hym hw hye he hE hT hI hq hd
        have e1 := xt_Lu hlv (rl_rc hI) hfin
        have gW : ∀ i, i < n + 2 → vd_W V n i < 65536 := by
          intro i hi
          by_cases c0 : i = 0
          · subst c0; rw [vd_W0]; omega
          · by_cases c1 : i = n + 1
            · subst c1; rw [vd_Wm]; omega
            · obtain ⟨j, rfl⟩ : ∃ j, i = j + 1 := ⟨i - 1, by omega⟩
              rw [vd_W1 (by omega)]
              have := hal j (by omega)
              omega
        refine ⟨rfl, K, n, 0, V, true, rfl, rfl, rfl, rfl, rfl, rfl, rfl, rfl, nI_0.symm, nI_0.symm, rfl, hK, hn, by omega, hal, fun h => Bool.noConfusion h, fun _ => ⟨rfl, rfl, ⟨gV, gW, hR', hym, hw, e, hye, he, hE, hT⟩, fun _ => lv, fun _ => 0, u, fun i hi => absurd hi (by omega), ?_, fun c0 hc => ?_, hq, xr_Cc (rl_rc hI) (fun d p hd => (rl_mix hd).symm), fun d p hd => ?_⟩⟩
        · intro j hj
          have : j = 0 := by omega
          subst this
          exact ⟨pk_us, by rw [hd, e1]⟩
        · exact (xt_Lu hlv (rl_rc hc) hfin).symm
        · rw [rl_mix hd]; exact xr_rcX xfo d p
      · unfold wpY_compile
        refine br_f (nI_ne0 (by omega) (by omega)) ?_
        refine yv_valid hn rfl hal rfl rfl (fun _ => br_f (by decide) ?_) (fun z => absurd hv z)
        exact yv_count hn rfl hal rfl rfl hv.1 (pk_le (gr_ct (vd_W V n) (n + 1)) 63 (fun z => by omega) (fun _ => ⟨rfl, J⟩))
    · unfold wpY_compile
      refine br_f (nI_ne0 (by omega) (by omega)) ?_
      exact yv_valid hn rfl hal rfl rfl (fun z => absurd z hv) (fun _ => br_t rfl ⟨rfl, J⟩)
