/-! the loops of protect and deviceCopy, and what is owed -/
section
variable {L B k c : Nat} {la : Int32} {M EU EF EW KU KE KF KW SU SD SB C NW W YF : Nat → Int32}
theorem cm_pr_l {post : Int32 → SX → Prop} {f : Nat} (hf : f < 8) (hB : B ≤ 4) (hE : cm_E EU EF EW YF) (h : ∀ KU' : Nat → Int32, cm_T B EU EF (cm_pw YF EW (nI f) 32) KU' KE KF KW → post (nI (cm_pn YF EW (nI f) 32)) ((nI L), (nI B), (nI k), (nI c), la, M, EU, EF, (cm_pw YF EW (nI f) 32), KU', KE, KF, KW, SU, SD, SB, C, NW)) : ∀ (d i : Nat) (KU' : Nat → Int32), i + d = 32 → cm_T B EU EF (cm_pw YF EW (nI f) i) KU' KE KF KW → wX_protect_15 post (nI f) (d + 1) (nI (cm_pn YF EW (nI f) i)) (nI i) (nI L) (nI B) (nI k) (nI c) la M EU EF (cm_pw YF EW (nI f) i) KU' KE KF KW SU SD SB C NW := by
  intro d
  induction d with
  | zero =>
    intro i KU' hi hT
    have ei : i = 32 := by omega
    subst ei
    have hle : (32 : Int32) ≤ nI 32 := by decide
    exact br_t hle (h _ hT)
  | succ d ih =>
    intro i KU' hi hT
    have hi32 : i < 32 := by omega
    have hgt : ¬ (32 : Int32) ≤ nI i := nI_ge (b := 32) (by omega) (by decide)
    have hv : vp_in (nI i) 32 := vp_in_nI hi32 (by decide)
    have nx : (YF i ≠ nI f ∨ EW i = 0) → wX_protect_15 post (nI f) (d + 1) (nI (cm_pn YF EW (nI f) i)) (nI (i + 1)) (nI L) (nI B) (nI k) (nI c) la M EU EF (cm_pw YF EW (nI f) i) KU' KE KF KW SU SD SB C NW := by
      intro z
      have t := ih (i + 1) KU' (by omega)
      rw [cm_pn_n z, cm_pw_n z] at t
      exact t hT
    refine br_f hgt ⟨hv, ?_⟩
    rw [nI_clamp (by omega), cm_pw_at]
    by_cases hu : EU i = 0
    · have ne : YF i ≠ nI f := by
        rw [cm_E_0 hE hi32 hu]
        exact fun z => cm_nm1 (by omega) z.symm
      exact br_t hu (nm_r (nI_1 i) (nx (Or.inl ne)))
    · obtain ⟨g, hg, e1, e2⟩ := cm_E_1 hE hi32 hu
      refine br_f hu ⟨hv, ?_⟩
      by_cases hgf : g = f
      · subst hgf
        refine br_t e1 ⟨hv, ?_⟩
        by_cases hw : EW i = 0
        · exact br_t hw (nm_r (nI_1 i) (nx (Or.inr hw)))
        · refine br_f hw ⟨hv, nm_r rfl ?_⟩
          refine cm_dt hB hT (fun x _ hx => ⟨rfl, rfl, pk_un hx⟩) fun KU2 hT2 => ?_
          dsimp only
          have t := ih (i + 1) KU2 (by omega)
          rw [cm_pn_y e2 hw, ← cm_pw_y e2] at t
          exact nm_r (nI_1 _) (nm_r (nI_1 i) (t hT2))
      · have ne : YF i ≠ nI f := by
          rw [e2]
          intro z
          rw [nI_eq (by omega) (by omega)] at z
          exact hgf z
        have ne2 : ¬ EF i = nI f := by
          rw [e1, ← e2]
          exact ne
        exact br_f ne2 (nm_r (nI_1 i) (nx (Or.inl ne)))
theorem cm_dc_l {post : Int32 → SX → Prop} {f t m : Nat} (hL1 : 1 ≤ L) (hL : L ≤ 4) (hf : f + m ≤ 64) (ht : t + m ≤ 64) (h : ∀ M' SU' SD' : Nat → Int32, cm_C L M' SU' SD' SB C (cm_dc W f t m) → post (nI m) ((nI L), (nI B), (nI k), (nI c), la, M', EU, EF, EW, KU, KE, KF, KW, SU', SD', SB, C, NW)) : ∀ (d i : Nat) (M' SU' SD' : Nat → Int32), i + d = m → cm_C L M' SU' SD' SB C (cm_dc W f t i) → wX_deviceCopy_43 post (nI f) (nI t) (nI m) (d + 1) (nI i) (nI L) (nI B) (nI k) (nI c) la M' EU EF EW KU KE KF KW SU' SD' SB C NW := by
  intro d
  induction d with
  | zero =>
    intro i M' SU' SD' hi hC
    have ei : i = m := by omega
    subst ei
    have hle : nI i ≤ nI i := nI_le (Nat.le_refl _) (by omega)
    exact br_t hle (h _ _ _ hC)
  | succ d ih =>
    intro i M' SU' SD' hi hC
    have hgt : ¬ nI m ≤ nI i := nI_ge (by omega) (by omega)
    refine br_f hgt ?_
    rw [nI_add f i, nI_add t i]
    refine cm_rd hL1 hL (by omega) hC fun M2 SD2 hC2 => ?_
    dsimp only
    refine cm_wd hL1 hL (by omega) hC2 fun M3 SU3 SD3 hC3 => ?_
    dsimp only
    exact nm_r (nI_1 i) (ih (i + 1) _ _ _ (by omega) hC3)
end
theorem cm_cl {post : Int32 → Prop} {x : Int32} (h : ∀ n, 1 ≤ n → n ≤ 4 → post (nI n)) : wpX_clamp post x 4 := by
  unfold wpX_clamp
  refine br_c (fun h1 => br_c (fun h2 => ?_) (fun _ => h 4 (by omega) (by omega))) (fun _ => h 1 (by omega) (by omega))
  have h0 : ¬ x < 0 := Int32.not_lt.mpr (Int32.le_trans (by decide) h1)
  obtain ⟨j, hj, rfl⟩ := nI_of2 (M := 4) (n := 4) (by decide) h0 h2
  have a : nI 1 ≤ nI j := h1
  rw [nI_leI (by omega) (by omega)] at a
  exact h j a hj
theorem i_vc0 (k0 : Int32) (k1 : Int32) : wpX_init (fun u => wpY_init (fun v => i_Rel 2 u v) k0 k1) k0 k1 := by
  unfold wpX_init
  refine cm_cl fun n1 a1 b1 => cm_cl fun n2 a2 b2 => ?_
  unfold wpY_init
  refine ⟨33, cm_yi_l (fun YF' hy => ?_) 32 0 _ rfl (fun j hj => absurd hj (by omega))⟩
  refine ⟨n1, n2, 0, 0, 0, (fun _ => 0), (fun _ => 0), (fun _ => 0), (fun _ => 0), (fun _ => 0), (fun _ => 0), (fun _ => 0), (fun _ => 0), (fun _ => 0), (fun _ => 0), (fun _ => 0), (fun _ => 0), (fun _ => 0), (fun _ => 0), YF', rfl, rfl, ⟨a1, b1, a2, b2, by omega, by omega⟩, ⟨fun j hj hu => absurd rfl hu, fun i j hi hj hu => absurd rfl hu⟩, fun e he => ⟨Or.inl rfl, Or.inl ⟨rfl, hy e he⟩⟩, cm_C_0, fun t ht => ⟨0, by omega, rfl⟩⟩
theorem i_vc_enter {k : Nat} {u : SX} {v : SY} (I : i_Rel k u v) (hk : k + 5 ≤ 2562) (v1 : Int32) : wpX_enter (fun r u' => wpY_enter (fun r' v' => r' = r ∧ i_Rel (k + 5) u' v') v v1) u v1 := by
  obtain ⟨L, B, p, c, la, M, EU, EF, EW, KU, KE, KF, KW, SU, SD, SB, C, NW, W, YF, rfl, rfl, ⟨hL1, hL, hB1, hB, hp, hc⟩, hT, hE, hC, hN⟩ := I
  unfold wpX_enter wpY_enter
  dsimp only
  rcases cm_ix v1 4 (by decide) with h | ⟨n, hn, rfl⟩
  · exact cm_ib_f 4 h (br_t rfl (cm_ys_f h (br_t rfl ⟨rfl, cm_mk ⟨hL1, hL, hB1, hB, hp, hc⟩ hT hE hC hN⟩)))
  · exact cm_ib_t 4 hn (by decide) (br_f (by decide) (cm_ys_t hn (br_f (by decide) ⟨rfl, cm_mk ⟨hL1, hL, hB1, hB, hp, hn⟩ hT hE hC hN⟩)))
theorem i_vc_map {k : Nat} {u : SX} {v : SY} (I : i_Rel k u v) (hk : k + 5 ≤ 2562) (v1 : Int32) (v2 : Int32) (v3 : Int32) (v4 : Int32) : wpX_map (fun r u' => wpY_map (fun r' v' => r' = r ∧ i_Rel (k + 5) u' v') v v1 v2 v3 (lw_bz v4)) u v1 v2 v3 (lw_bz v4) := by
  obtain ⟨L, B, p, c, la, M, EU, EF, EW, KU, KE, KF, KW, SU, SD, SB, C, NW, W, YF, rfl, rfl, ⟨hL1, hL, hB1, hB, hp, hc⟩, hT, hE, hC, hN⟩ := I
  have hR := cm_mk (n := k + 5) (la := la) ⟨hL1, hL, hB1, hB, hp, hc⟩ hT hE hC hN
  have hx := lw_bz_01 v4
  generalize lw_bz v4 = x at hx ⊢
  unfold wpX_map
  dsimp only
  rcases cm_ix v1 4 (by decide) with h | ⟨s, hs, rfl⟩
  · refine cm_ib_f 4 h (br_t rfl ?_)
    unfold wpY_map
    exact cm_ys_f h (br_t rfl ⟨rfl, hR⟩)
  rcases cm_ix v2 8 (by decide) with h | ⟨q, hq, rfl⟩
  · refine cm_ib_t 4 hs (by decide) (br_f (by decide) (cm_ib_f 8 h (br_t rfl ?_)))
    unfold wpY_map
    exact cm_ys_t hs (br_f (by decide) (cm_yp_f h (br_t rfl ⟨rfl, hR⟩)))
  rcases cm_ix v3 8 (by decide) with h | ⟨f, hf, rfl⟩
  · refine cm_ib_t 4 hs (by decide) (br_f (by decide) (cm_ib_t 8 hq (by decide) (br_f (by decide) (cm_ib_f 8 h (br_t rfl ?_)))))
    unfold wpY_map
    exact cm_ys_t hs (br_f (by decide) (cm_yp_t hq (br_f (by decide) (cm_yp_f h (br_t rfl ⟨rfl, hR⟩)))))
  obtain ⟨e, he⟩ : ∃ e, s * 8 + q = e := ⟨_, rfl⟩
  have he2 : e < 32 := by omega
  have hv : vp_in (nI e) 32 := vp_in_nI he2 (by decide)
  refine cm_ib_t 4 hs (by decide) (br_f (by decide) (cm_ib_t 8 hq (by decide) (br_f (by decide) (cm_ib_t 8 hf (by decide) (br_f (by decide) ?_)))))
  rw [cm_x8, he]
  refine nm_e ?_
  rw [nI_clamp (by omega), cm_b01 hx]
  refine ⟨hv, nm_e ⟨hv, nm_r rfl ⟨hv, nm_e ⟨hv, nm_e ?_⟩⟩⟩⟩
  refine cm_dt hB hT (fun y _ hy => ⟨pk_un hy, pk_un hy, pk_un hy⟩) fun KU2 hT2 => ?_
  dsimp only
  have hR2 := cm_mk (n := k + 5) (la := la) ⟨hL1, hL, hB1, hB, hp, hc⟩ hT2 (cm_E_mp hE hf hx) hC hN
  refine br_c (fun z => ?_) (fun z => ?_)
  · exact cm_ymp hs hq hf he hx (Or.inl ⟨cm_E_0 hE he2 z, rfl⟩) ⟨rfl, hR2⟩
  · obtain ⟨g, hg, _, e2⟩ := cm_E_1 hE he2 z
    exact cm_ymp hs hq hf he hx (Or.inr ⟨g, hg, e2, rfl⟩) ⟨rfl, hR2⟩
theorem i_vc_unmap {k : Nat} {u : SX} {v : SY} (I : i_Rel k u v) (hk : k + 5 ≤ 2562) (v1 : Int32) (v2 : Int32) : wpX_unmap (fun r u' => wpY_unmap (fun r' v' => r' = r ∧ i_Rel (k + 5) u' v') v v1 v2) u v1 v2 := by
  obtain ⟨L, B, p, c, la, M, EU, EF, EW, KU, KE, KF, KW, SU, SD, SB, C, NW, W, YF, rfl, rfl, ⟨hL1, hL, hB1, hB, hp, hc⟩, hT, hE, hC, hN⟩ := I
  have hR := cm_mk (n := k + 5) (la := la) ⟨hL1, hL, hB1, hB, hp, hc⟩ hT hE hC hN
  unfold wpX_unmap
  dsimp only
  rcases cm_ix v1 4 (by decide) with h | ⟨s, hs, rfl⟩
  · refine cm_ib_f 4 h (br_t rfl ?_)
    unfold wpY_unmap
    exact cm_ys_f h (br_t rfl ⟨rfl, hR⟩)
  rcases cm_ix v2 8 (by decide) with h | ⟨q, hq, rfl⟩
  · refine cm_ib_t 4 hs (by decide) (br_f (by decide) (cm_ib_f 8 h (br_t rfl ?_)))
    unfold wpY_unmap
    exact cm_ys_t hs (br_f (by decide) (cm_yp_f h (br_t rfl ⟨rfl, hR⟩)))
  obtain ⟨e, he⟩ : ∃ e, s * 8 + q = e := ⟨_, rfl⟩
  have he2 : e < 32 := by omega
  have hv : vp_in (nI e) 32 := vp_in_nI he2 (by decide)
  refine cm_ib_t 4 hs (by decide) (br_f (by decide) (cm_ib_t 8 hq (by decide) (br_f (by decide) ?_)))
  rw [cm_x8, he]
  refine nm_e ?_
  rw [nI_clamp (by omega)]
  refine ⟨hv, br_c (fun z => ?_) (fun z => ⟨hv, nm_r rfl ?_⟩)⟩
  · have y := cm_E_0 hE he2 z
    exact cm_yum hs hq he (fun _ => ⟨rfl, hR⟩) (fun w => absurd y w) (Or.inl y)
  · refine cm_dt hB hT (fun y _ hy => ⟨pk_un hy, rfl, rfl⟩) fun KU2 hT2 => ?_
    dsimp only
    have hR2 := cm_mk (n := k + 5) (la := la) ⟨hL1, hL, hB1, hB, hp, hc⟩ hT2 (cm_E_um hE) hC hN
    obtain ⟨g, hg, _, e2⟩ := cm_E_1 hE he2 z
    refine cm_yum hs hq he (fun w => ?_) (fun _ => ⟨rfl, hR2⟩) (Or.inr ⟨g, hg, e2⟩)
    rw [e2] at w
    exact absurd w (cm_nm1 (by omega))
theorem i_vc_protect {k : Nat} {u : SX} {v : SY} (I : i_Rel k u v) (hk : k + 5 ≤ 2562) (v1 : Int32) : wpX_protect (fun r u' => wpY_protect (fun r' v' => r' = r ∧ i_Rel (k + 5) u' v') v v1) u v1 := by
  obtain ⟨L, B, p, c, la, M, EU, EF, EW, KU, KE, KF, KW, SU, SD, SB, C, NW, W, YF, rfl, rfl, ⟨hL1, hL, hB1, hB, hp, hc⟩, hT, hE, hC, hN⟩ := I
  have hR := cm_mk (n := k + 5) (la := la) ⟨hL1, hL, hB1, hB, hp, hc⟩ hT hE hC hN
  unfold wpX_protect
  dsimp only
  rcases cm_ix v1 8 (by decide) with h | ⟨f, hf, rfl⟩
  · refine cm_ib_f 8 h (br_t rfl ?_)
    unfold wpY_protect
    exact cm_yp_f h (br_t rfl ⟨rfl, hR⟩)
  · refine cm_ib_t 8 hf (by decide) (br_f (by decide) ?_)
    have t := cm_pr_l (L := L) (k := p) (c := c) (la := la) (M := M) (SU := SU) (SD := SD) (SB := SB) (C := C) (NW := NW) (KE := KE) (KF := KF) (KW := KW) (post := fun r u' => wpY_protect (fun r' v' => r' = r ∧ i_Rel (k + 5) u' v') ((nI c), la, W, YF, EW) (nI f)) hf hB hE (fun KU2 hT2 => by
      unfold wpY_protect
      refine cm_yp_t hf (br_f (by decide) ?_)
      have y := cm_ypr_l (c := c) (la := la) (W := W) (post := fun r' v' => r' = nI (cm_pn YF EW (nI f) 32) ∧ i_Rel (k + 5) ((nI L), (nI B), (nI p), (nI c), la, M, EU, EF, (cm_pw YF EW (nI f) 32), KU2, KE, KF, KW, SU, SD, SB, C, NW) v') (f := f) (YF := YF) (EW := EW) ⟨rfl, cm_mk ⟨hL1, hL, hB1, hB, hp, hc⟩ hT2 (cm_E_pw hE) hC hN⟩ 32 0 rfl
      rw [cm_pw_0] at y
      exact ⟨33, y⟩) 32 0 KU rfl (by rw [cm_pw_0]; exact hT)
    rw [cm_pw_0] at t
    exact ⟨33, t⟩
theorem i_vc_load {k : Nat} {u : SX} {v : SY} (I : i_Rel k u v) (hk : k + 5 ≤ 2562) (v1 : Int32) : wpX_load (fun r u' => wpY_load (fun r' v' => r' = r ∧ i_Rel (k + 5) u' v') v v1) u v1 := by
  obtain ⟨L, B, p, c, la, M, EU, EF, EW, KU, KE, KF, KW, SU, SD, SB, C, NW, W, YF, rfl, rfl, ⟨hL1, hL, hB1, hB, hp, hc⟩, hT, hE, hC, hN⟩ := I
  have hR := cm_mk (n := k + 5) (la := la) ⟨hL1, hL, hB1, hB, hp, hc⟩ hT hE hC hN
  unfold wpX_load wpY_load
  dsimp only
  rcases cm_ix v1 64 (by decide) with h | ⟨n, hn, rfl⟩
  · exact cm_to_bad h (br_f (by decide) (cm_yt_bad h (br_f (by decide) ⟨rfl, hR⟩)))
  · obtain ⟨e, he⟩ : ∃ e, c * 8 + n / 8 = e := ⟨_, rfl⟩
    have he2 : e < 32 := by omega
    refine cm_to 0 hn hc he hB1 hB hp hT (hE e he2).1 (fun z => ?_) (fun _ z => absurd rfl z) (fun hu _ k' j KU' KE' KF' KW' hk' hj hT' ef => ?_)
    · exact br_f (by decide) (cm_yt_no hn hc he (cm_E_0 hE he2 z) (br_f (by decide) ⟨rfl, hR⟩))
    · obtain ⟨f, hf, e1, e2⟩ := cm_E_1 hE he2 hu
      dsimp only
      refine br_t (nI_pos' (by omega)) (cm_ph (by omega) hn (ef.trans e1) (cm_rc hL1 hL (by omega) hC hN fun M' SU' SD' SB' C' NW' hC' hN' => ?_))
      dsimp only
      refine cm_yt_ok hn hc he hf e2 (br_t (nI_pos' (by omega)) ⟨vp_in_nI (by omega) (by decide), ?_⟩)
      rw [nI_clamp (by omega)]
      exact nm_e ⟨rfl, cm_mk ⟨hL1, hL, hB1, hB, hk', hc⟩ hT' hE hC' hN'⟩
theorem i_vc_translate {k : Nat} {u : SX} {v : SY} (I : i_Rel k u v) (hk : k + 5 ≤ 2562) (v1 : Int32) : wpX_translate (fun r u' => wpY_translate (fun r' => r' = r ∧ i_Rel (k + 5) u' v) v v1) u v1 := by
  obtain ⟨L, B, p, c, la, M, EU, EF, EW, KU, KE, KF, KW, SU, SD, SB, C, NW, W, YF, rfl, rfl, ⟨hL1, hL, hB1, hB, hp, hc⟩, hT, hE, hC, hN⟩ := I
  have hR := cm_mk (n := k + 5) (la := la) ⟨hL1, hL, hB1, hB, hp, hc⟩ hT hE hC hN
  unfold wpX_translate
  dsimp only
  rcases cm_ix v1 64 (by decide) with h | ⟨n, hn, rfl⟩
  · exact cm_to_bad h (br_f (by decide) (cm_yt_bad h ⟨rfl, hR⟩))
  · obtain ⟨e, he⟩ : ∃ e, c * 8 + n / 8 = e := ⟨_, rfl⟩
    have he2 : e < 32 := by omega
    refine cm_to 0 hn hc he hB1 hB hp hT (hE e he2).1 (fun z => ?_) (fun _ z => absurd rfl z) (fun hu _ k' j KU' KE' KF' KW' hk' hj hT' ef => ?_)
    · exact br_f (by decide) (cm_yt_no hn hc he (cm_E_0 hE he2 z) ⟨rfl, hR⟩)
    · obtain ⟨f, hf, e1, e2⟩ := cm_E_1 hE he2 hu
      dsimp only
      refine br_t (nI_pos' (by omega)) (cm_ph (by omega) hn (ef.trans e1) ?_)
      exact cm_yt_ok hn hc he hf e2 ⟨rfl, cm_mk ⟨hL1, hL, hB1, hB, hk', hc⟩ hT' hE hC hN⟩
theorem i_vc_store {k : Nat} {u : SX} {v : SY} (I : i_Rel k u v) (hk : k + 5 ≤ 2562) (v1 : Int32) (v2 : Int32) : wpX_store (fun r u' => wpY_store (fun r' v' => r' = r ∧ i_Rel (k + 5) u' v') v v1 v2) u v1 v2 := by
  obtain ⟨L, B, p, c, la, M, EU, EF, EW, KU, KE, KF, KW, SU, SD, SB, C, NW, W, YF, rfl, rfl, ⟨hL1, hL, hB1, hB, hp, hc⟩, hT, hE, hC, hN⟩ := I
  have hR := cm_mk (n := k + 5) (la := la) ⟨hL1, hL, hB1, hB, hp, hc⟩ hT hE hC hN
  unfold wpX_store
  dsimp only
  rcases cm_ix v1 64 (by decide) with h | ⟨n, hn, rfl⟩
  · exact cm_to_bad h (br_f (by decide) (cm_yst_bad h ⟨rfl, hR⟩))
  · obtain ⟨e, he⟩ : ∃ e, c * 8 + n / 8 = e := ⟨_, rfl⟩
    have he2 : e < 32 := by omega
    refine cm_to 1 hn hc he hB1 hB hp hT (hE e he2).1 (fun z => ?_) (fun hu _ hw => ?_) (fun hu ok k' j KU' KE' KF' KW' hk' hj hT' ef => ?_)
    · exact br_f (by decide) (cm_yst_no hn hc he (cm_E_0 hE he2 z) ⟨rfl, hR⟩)
    · obtain ⟨f, hf, e1, e2⟩ := cm_E_1 hE he2 hu
      exact br_f (by decide) (cm_yst_ro hn hc he hf e2 hw ⟨rfl, hR⟩)
    · obtain ⟨f, hf, e1, e2⟩ := cm_E_1 hE he2 hu
      have hw : EW e ≠ 0 := ok.resolve_left (by decide)
      dsimp only
      refine br_t (nI_pos' (by omega)) (cm_ph (by omega) hn (ef.trans e1) (cm_wc hL1 hL (by omega) hC hN fun M' SU' SD' SB' C' NW' hC' hN' => ?_))
      exact cm_yst_ok hn hc he hf e2 hw ⟨rfl, cm_mk ⟨hL1, hL, hB1, hB, hk', hc⟩ hT' hE hC' hN'⟩
theorem i_vc_add {k : Nat} {u : SX} {v : SY} (I : i_Rel k u v) (hk : k + 5 ≤ 2562) (v1 : Int32) (v2 : Int32) : wpX_add (fun r u' => wpY_add (fun r' v' => r' = r ∧ i_Rel (k + 5) u' v') v v1 v2) u v1 v2 := by
  obtain ⟨L, B, p, c, la, M, EU, EF, EW, KU, KE, KF, KW, SU, SD, SB, C, NW, W, YF, rfl, rfl, ⟨hL1, hL, hB1, hB, hp, hc⟩, hT, hE, hC, hN⟩ := I
  have hR := cm_mk (n := k + 5) (la := la) ⟨hL1, hL, hB1, hB, hp, hc⟩ hT hE hC hN
  unfold wpX_add wpY_add wY_add_24
  dsimp only
  rcases cm_ix v1 64 (by decide) with h | ⟨n, hn, rfl⟩
  · exact cm_to_bad h (br_f (by decide) (cm_yt_bad h (br_f (by decide) (cm_yst_bad h ⟨rfl, hR⟩))))
  · obtain ⟨e, he⟩ : ∃ e, c * 8 + n / 8 = e := ⟨_, rfl⟩
    have he2 : e < 32 := by omega
    refine cm_to 1 hn hc he hB1 hB hp hT (hE e he2).1 (fun z => ?_) (fun hu _ hw => ?_) (fun hu ok k' j KU' KE' KF' KW' hk' hj hT' ef => ?_)
    · have y := cm_E_0 hE he2 z
      exact br_f (by decide) (cm_yt_no hn hc he y (br_f (by decide) (cm_yst_no hn hc he y ⟨rfl, hR⟩)))
    · obtain ⟨f, hf, e1, e2⟩ := cm_E_1 hE he2 hu
      exact br_f (by decide) (cm_yt_ok hn hc he hf e2 (br_t (nI_pos' (by omega)) ⟨vp_in_nI (by omega) (by decide), cm_yst_ro hn hc he hf e2 hw ⟨rfl, hR⟩⟩))
    · obtain ⟨f, hf, e1, e2⟩ := cm_E_1 hE he2 hu
      have hw : EW e ≠ 0 := ok.resolve_left (by decide)
      dsimp only
      refine br_t (nI_pos' (by omega)) (cm_ph (by omega) hn (ef.trans e1) (cm_rc hL1 hL (by omega) hC hN fun M' SU' SD' SB' C' NW' hC' hN' => ?_))
      dsimp only
      refine nm_e (cm_wc hL1 hL (by omega) hC' hN' fun M2 SU2 SD2 SB2 C2 NW2 hC2 hN2 => ?_)
      dsimp only
      refine cm_yt_ok hn hc he hf e2 (br_t (nI_pos' (by omega)) ⟨vp_in_nI (by omega) (by decide), ?_⟩)
      rw [nI_clamp (by omega)]
      exact cm_yst_ok hn hc he hf e2 hw ⟨rfl, cm_mk ⟨hL1, hL, hB1, hB, hk', hc⟩ hT' hE hC2 hN2⟩
theorem i_vc_deviceRead {k : Nat} {u : SX} {v : SY} (I : i_Rel k u v) (hk : k + 5 ≤ 2562) (v1 : Int32) : wpX_deviceRead (fun r u' => wpY_deviceRead (fun r' => r' = r ∧ i_Rel (k + 5) u' v) v v1) u v1 := by
  obtain ⟨L, B, p, c, la, M, EU, EF, EW, KU, KE, KF, KW, SU, SD, SB, C, NW, W, YF, rfl, rfl, ⟨hL1, hL, hB1, hB, hp, hc⟩, hT, hE, hC, hN⟩ := I
  have hR := cm_mk (n := k + 5) (la := la) ⟨hL1, hL, hB1, hB, hp, hc⟩ hT hE hC hN
  unfold wpX_deviceRead wpY_deviceRead
  dsimp only
  rcases cm_ix v1 64 (by decide) with h | ⟨n, hn, rfl⟩
  · exact cm_ib_f 64 h (br_t rfl (cm_yw_f h (br_t rfl ⟨rfl, hR⟩)))
  · refine cm_ib_t 64 hn (by decide) (br_f (by decide) (cm_rd hL1 hL hn hC fun M' SD' hC' => ?_))
    dsimp only
    refine cm_yw_t hn (br_f (by decide) ⟨vp_in_nI hn (by decide), ?_⟩)
    rw [nI_clamp (by omega)]
    exact ⟨rfl, cm_mk ⟨hL1, hL, hB1, hB, hp, hc⟩ hT hE hC' hN⟩
theorem i_vc_deviceWrite {k : Nat} {u : SX} {v : SY} (I : i_Rel k u v) (hk : k + 5 ≤ 2562) (v1 : Int32) (v2 : Int32) : wpX_deviceWrite (fun r u' => wpY_deviceWrite (fun r' v' => r' = r ∧ i_Rel (k + 5) u' v') v v1 v2) u v1 v2 := by
  obtain ⟨L, B, p, c, la, M, EU, EF, EW, KU, KE, KF, KW, SU, SD, SB, C, NW, W, YF, rfl, rfl, ⟨hL1, hL, hB1, hB, hp, hc⟩, hT, hE, hC, hN⟩ := I
  have hR := cm_mk (n := k + 5) (la := la) ⟨hL1, hL, hB1, hB, hp, hc⟩ hT hE hC hN
  unfold wpX_deviceWrite wpY_deviceWrite
  dsimp only
  rcases cm_ix v1 64 (by decide) with h | ⟨n, hn, rfl⟩
  · exact cm_ib_f 64 h (br_t rfl (cm_yw_f h (br_t rfl ⟨rfl, hR⟩)))
  · refine cm_ib_t 64 hn (by decide) (br_f (by decide) (cm_wd hL1 hL hn hC fun M' SU' SD' hC' => ?_))
    dsimp only
    refine cm_yw_t hn (br_f (by decide) ⟨vp_in_nI hn (by decide), ?_⟩)
    rw [nI_clamp (by omega)]
    exact nm_e ⟨rfl, cm_mk ⟨hL1, hL, hB1, hB, hp, hc⟩ hT hE hC' hN⟩
section
variable {c : Nat} {la : Int32} {W YF EW : Nat → Int32}
theorem cm_ydc_bad {post : Int32 → SY → Prop} {a b m : Nat} (ha : a < 2 ^ 31) (hb : b < 2 ^ 31) (hm : m < 2 ^ 31) (hx : ¬ (a + m ≤ 64 ∧ b + m ≤ 64)) (h : post (-1) ((nI c), la, W, YF, EW)) : wpY_deviceCopy post ((nI c), la, W, YF, EW) (nI a) (nI b) (nI m) := by
  unfold wpY_deviceCopy
  dsimp only
  refine br_f (nI_pos ha) (br_f (nI_pos hb) (br_f (nI_pos hm) (pk_lt 64 a (fun _ => h) (fun h1 => pk_lt 64 b (fun _ => h) (fun h2 => pk_le m 64 (fun h3 => ?_) (fun _ => h))))))
  rw [nI_add a m, nI_add b m]
  exact pk_lt 64 (a + m) (fun _ => h) (fun h4 => pk_le (b + m) 64 (fun h5 => absurd ⟨h4, h5⟩ hx) (fun _ => h))
theorem cm_ydc_ok {post : Int32 → SY → Prop} {a b m : Nat} (h1 : a + m ≤ 64) (h2 : b + m ≤ 64) (h : post (nI m) ((nI c), la, (cm_dc W a b m), YF, EW)) : wpY_deviceCopy post ((nI c), la, W, YF, EW) (nI a) (nI b) (nI m) := by
  unfold wpY_deviceCopy
  dsimp only
  refine br_f (nI_pos (by omega)) (br_f (nI_pos (by omega)) (br_f (nI_pos (by omega)) (pk_lt 64 a (fun z => absurd z (by omega)) (fun _ => pk_lt 64 b (fun z => absurd z (by omega)) (fun _ => pk_le m 64 (fun _ => ?_) (fun z => absurd z (by omega)))))))
  rw [nI_add a m, nI_add b m]
  exact pk_lt 64 (a + m) (fun z => absurd z (by omega)) (fun _ => pk_le (b + m) 64 (fun _ => ⟨m + 1, cm_ydc_l h1 h2 h m 0 (by omega)⟩) (fun z => absurd z (by omega)))
end
theorem i_vc_deviceCopy {k : Nat} {u : SX} {v : SY} (I : i_Rel k u v) (hk : k + 5 ≤ 2562) (v1 : Int32) (v2 : Int32) (v3 : Int32) : wpX_deviceCopy (fun r u' => wpY_deviceCopy (fun r' v' => r' = r ∧ i_Rel (k + 5) u' v') v v1 v2 v3) u v1 v2 v3 := by
  obtain ⟨L, B, p, c, la, M, EU, EF, EW, KU, KE, KF, KW, SU, SD, SB, C, NW, W, YF, rfl, rfl, ⟨hL1, hL, hB1, hB, hp, hc⟩, hT, hE, hC, hN⟩ := I
  have hR := cm_mk (n := k + 5) (la := la) ⟨hL1, hL, hB1, hB, hp, hc⟩ hT hE hC hN
  unfold wpX_deviceCopy
  dsimp only
  by_cases h1 : v1 < 0
  · refine br_t h1 ?_
    unfold wpY_deviceCopy
    exact br_t h1 ⟨rfl, hR⟩
  by_cases h2 : v2 < 0
  · refine br_f h1 (br_t h2 ?_)
    unfold wpY_deviceCopy
    exact br_f h1 (br_t h2 ⟨rfl, hR⟩)
  by_cases h3 : v3 < 0
  · refine br_f h1 (br_f h2 (br_f (Int32.not_le.mpr h3) ?_))
    unfold wpY_deviceCopy
    exact br_f h1 (br_f h2 (br_t h3 ⟨rfl, hR⟩))
  refine br_f h1 (br_f h2 (br_t (Int32.not_lt.mp h3) ?_))
  obtain ⟨a, ha, rfl⟩ := nI_of h1
  obtain ⟨b, hb, rfl⟩ := nI_of h2
  obtain ⟨m, hm, rfl⟩ := nI_of h3
  rw [nI_l ha, nI_l hb, nI_l hm, lN_add a m, lN_add b m]
  by_cases c1 : 64 < a + m
  · have d1 : (64 : Int64) < lN (a + m) := (pk_lLT (a := 64) (by omega) (by omega)).mpr c1
    exact br_t d1 (cm_ydc_bad ha hb hm (by omega) ⟨rfl, hR⟩)
  · have d1 : ¬ (64 : Int64) < lN (a + m) := fun z => c1 ((pk_lLT (a := 64) (by omega) (by omega)).mp z)
    refine br_f d1 ?_
    by_cases c2 : b + m ≤ 64
    · have d2 : lN (b + m) ≤ (64 : Int64) := (pk_lLE (b := 64) (by omega) (by omega)).mpr c2
      refine br_t d2 ⟨m + 1, cm_dc_l hL1 hL (by omega) c2 (fun M' SU' SD' hC' => ?_) m 0 _ _ _ (by omega) hC⟩
      exact cm_ydc_ok (by omega) c2 ⟨rfl, cm_mk ⟨hL1, hL, hB1, hB, hp, hc⟩ hT hE hC' hN⟩
    · have d2 : ¬ lN (b + m) ≤ (64 : Int64) := fun z => c2 ((pk_lLE (b := 64) (by omega) (by omega)).mp z)
      exact br_f d2 (cm_ydc_bad ha hb hm (by omega) ⟨rfl, hR⟩)
