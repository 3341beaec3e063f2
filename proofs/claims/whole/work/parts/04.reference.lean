/-! the reference's methods, and the relation -/
theorem cm_ix (x : Int32) (b : Nat) (hb : b < 2 ^ 31) : (x < 0 ∨ nI b ≤ x) ∨ ∃ j : Nat, j < b ∧ x = nI j := by
  rcases pk_ix x hb with h | h | h
  · exact Or.inl (Or.inl h)
  · exact Or.inl (Or.inr h)
  · exact Or.inr h
theorem cm_gt {x : Int32} {b : Nat} (hb : b + 1 < 2 ^ 31) (h0 : ¬ x < 0) (h : x < 0 ∨ nI (b + 1) ≤ x) : nI b < x := by
  obtain ⟨j, hj, rfl⟩ := nI_of h0
  have a := h.resolve_left h0
  rw [nI_leI hb hj] at a
  exact nI_lt (by omega) hj
theorem cm_sh3 {n : Nat} (h : n < 2 ^ 31) : nI n >>> ((3 : Int32) &&& 31) = nI (n / 8) := pk_shrN h _ 3 (by decide)
theorem cm_an7 {n : Nat} (h : n < 2 ^ 31) : nI n &&& 7 = nI (n % 8) := pk_andN (by omega) 3 (by decide)
section
variable {c : Nat} {la : Int32} {W YF EW : Nat → Int32}
theorem cm_yp_t {post : Int32 → Prop} {v : SY} {n : Nat} (h : n < 8) (hp : post 1) : wpY_isPage post v (nI n) := by
  obtain ⟨a1, a2, a3, a4, a5⟩ := v
  exact br_f (nI_pos (by omega)) (br_f (nI_nlt (a := 7) (by omega) (by decide)) hp)
theorem cm_yp_f {post : Int32 → Prop} {v : SY} {x : Int32} (h : x < 0 ∨ nI 8 ≤ x) (hp : post 0) : wpY_isPage post v x := by
  obtain ⟨a1, a2, a3, a4, a5⟩ := v
  by_cases h0 : x < 0
  · exact br_t h0 hp
  · exact br_f h0 (br_t (cm_gt (b := 7) (by decide) h0 h) hp)
theorem cm_ys_t {post : Int32 → Prop} {v : SY} {n : Nat} (h : n < 4) (hp : post 1) : wpY_isSpace post v (nI n) := by
  obtain ⟨a1, a2, a3, a4, a5⟩ := v
  exact br_f (nI_pos (by omega)) (br_f (nI_nlt (a := 3) (by omega) (by decide)) hp)
theorem cm_ys_f {post : Int32 → Prop} {v : SY} {x : Int32} (h : x < 0 ∨ nI 4 ≤ x) (hp : post 0) : wpY_isSpace post v x := by
  obtain ⟨a1, a2, a3, a4, a5⟩ := v
  by_cases h0 : x < 0
  · exact br_t h0 hp
  · exact br_f h0 (br_t (cm_gt (b := 3) (by decide) h0 h) hp)
theorem cm_yw_t {post : Int32 → Prop} {v : SY} {n : Nat} (h : n < 64) (hp : post 1) : wpY_isWord post v (nI n) := by
  obtain ⟨a1, a2, a3, a4, a5⟩ := v
  exact br_f (nI_pos (by omega)) (br_f (nI_nlt (a := 63) (by omega) (by decide)) hp)
theorem cm_yw_f {post : Int32 → Prop} {v : SY} {x : Int32} (h : x < 0 ∨ nI 64 ≤ x) (hp : post 0) : wpY_isWord post v x := by
  obtain ⟨a1, a2, a3, a4, a5⟩ := v
  by_cases h0 : x < 0
  · exact br_t h0 hp
  · exact br_f h0 (br_t (cm_gt (b := 63) (by decide) h0 h) hp)
theorem cm_yt_bad {post : Int32 → Prop} {a : Int32} (ha : a < 0 ∨ nI 64 ≤ a) (h : post (-1)) : wpY_translate post ((nI c), la, W, YF, EW) a := by
  unfold wpY_translate
  dsimp only
  exact cm_yw_f ha (br_t rfl h)
theorem cm_yt_no {post : Int32 → Prop} {n e : Nat} (hn : n < 64) (hc : c < 4) (he : c * 8 + n / 8 = e) (hy : YF e = -1) (h : post (-2)) : wpY_translate post ((nI c), la, W, YF, EW) (nI n) := by
  unfold wpY_translate
  dsimp only
  refine cm_yw_t hn (br_f (by decide) ?_)
  rw [cm_sh3 (by omega), cm_8x, he, nI_clamp (by omega), hy]
  exact ⟨vp_in_nI (by omega) (by decide), nm_e (br_f (by decide) h)⟩
theorem cm_yt_ok {post : Int32 → Prop} {n e f : Nat} (hn : n < 64) (hc : c < 4) (he : c * 8 + n / 8 = e) (hf : f < 8) (hy : YF e = nI f) (h : post (nI (f * 8 + n % 8))) : wpY_translate post ((nI c), la, W, YF, EW) (nI n) := by
  unfold wpY_translate
  dsimp only
  refine cm_yw_t hn (br_f (by decide) ?_)
  rw [cm_sh3 (by omega), cm_8x, he, nI_clamp (by omega), hy, cm_an7 (by omega)]
  refine ⟨vp_in_nI (by omega) (by decide), nm_e (br_t (nI_pos' (by omega)) ?_)⟩
  rw [cm_8x]
  exact h
theorem cm_yst_bad {post : Int32 → SY → Prop} {a v : Int32} (ha : a < 0 ∨ nI 64 ≤ a) (h : post (-1) ((nI c), la, W, YF, EW)) : wpY_store post ((nI c), la, W, YF, EW) a v := by
  unfold wpY_store
  dsimp only
  exact cm_yt_bad ha (br_f (by decide) h)
theorem cm_yst_no {post : Int32 → SY → Prop} {v : Int32} {n e : Nat} (hn : n < 64) (hc : c < 4) (he : c * 8 + n / 8 = e) (hy : YF e = -1) (h : post (-2) ((nI c), la, W, YF, EW)) : wpY_store post ((nI c), la, W, YF, EW) (nI n) v := by
  unfold wpY_store
  dsimp only
  exact cm_yt_no hn hc he hy (br_f (by decide) h)
theorem cm_yst_ro {post : Int32 → SY → Prop} {v : Int32} {n e f : Nat} (hn : n < 64) (hc : c < 4) (he : c * 8 + n / 8 = e) (hf : f < 8) (hy : YF e = nI f) (hw : EW e = 0) (h : post (-3) ((nI c), la, W, YF, EW)) : wpY_store post ((nI c), la, W, YF, EW) (nI n) v := by
  unfold wpY_store
  dsimp only
  refine cm_yt_ok hn hc he hf hy (br_t (nI_pos' (by omega)) ?_)
  rw [cm_sh3 (by omega), cm_8x, he, nI_clamp (n := e) (by omega)]
  exact ⟨vp_in_nI (by omega) (by decide), br_t hw h⟩
theorem cm_yst_ok {post : Int32 → SY → Prop} {v : Int32} {n e f : Nat} (hn : n < 64) (hc : c < 4) (he : c * 8 + n / 8 = e) (hf : f < 8) (hy : YF e = nI f) (hw : EW e ≠ 0) (h : post 0 ((nI c), la, (upd W (f * 8 + n % 8) v), YF, EW)) : wpY_store post ((nI c), la, W, YF, EW) (nI n) v := by
  unfold wpY_store
  dsimp only
  refine cm_yt_ok hn hc he hf hy (br_t (nI_pos' (by omega)) ?_)
  rw [cm_sh3 (by omega), cm_8x, he, nI_clamp (n := e) (by omega), nI_clamp (n := f * 8 + n % 8) (by omega)]
  exact ⟨vp_in_nI (by omega) (by decide), br_f hw ⟨vp_in_nI (by omega) (by decide), nm_e h⟩⟩
theorem cm_ymp {post : Int32 → SY → Prop} {x z : Int32} {s p f e : Nat} (hs : s < 4) (hp : p < 8) (hf : f < 8) (he : s * 8 + p = e) (hx : x = 0 ∨ x = 1) (hz : (YF e = -1 ∧ z = 0) ∨ (∃ g, g < 8 ∧ YF e = nI g ∧ z = 1)) (h : post z ((nI c), la, W, (upd YF e (nI f)), (upd EW e x))) : wpY_map post ((nI c), la, W, YF, EW) (nI s) (nI p) (nI f) x := by
  have hv : vp_in (nI e) 32 := vp_in_nI (by omega) (by decide)
  unfold wpY_map
  dsimp only
  refine cm_ys_t hs (br_f (by decide) (cm_yp_t hp (br_f (by decide) (cm_yp_t hf (br_f (by decide) ?_)))))
  unfold wY_map_45
  rw [cm_8x, he, nI_clamp (by omega), cm_b01 hx]
  refine ⟨hv, ?_⟩
  rcases hz with ⟨a, rfl⟩ | ⟨g, hg, a, rfl⟩
  · rw [a]
    exact br_f (by decide) ⟨hv, nm_e ⟨hv, nm_e h⟩⟩
  · rw [a]
    exact br_t (nI_pos' (by omega)) ⟨hv, nm_e ⟨hv, nm_e h⟩⟩
theorem cm_yum {post : Int32 → SY → Prop} {s p e : Nat} (hs : s < 4) (hp : p < 8) (he : s * 8 + p = e) (h0 : YF e = -1 → post (-2) ((nI c), la, W, YF, EW)) (h1 : YF e ≠ -1 → post 0 ((nI c), la, W, (upd YF e (-1)), EW)) (hy : YF e = -1 ∨ ∃ g, g < 8 ∧ YF e = nI g) : wpY_unmap post ((nI c), la, W, YF, EW) (nI s) (nI p) := by
  have hv : vp_in (nI e) 32 := vp_in_nI (by omega) (by decide)
  unfold wpY_unmap
  dsimp only
  refine cm_ys_t hs (br_f (by decide) (cm_yp_t hp (br_f (by decide) ?_)))
  rw [cm_8x, he, nI_clamp (by omega)]
  refine ⟨hv, ?_⟩
  rcases hy with a | ⟨g, hg, a⟩
  · have b : ¬ 0 ≤ YF e := by rw [a]; decide
    exact br_f b (h0 a)
  · have b : 0 ≤ YF e := by rw [a]; exact nI_pos' (by omega)
    exact br_t b ⟨hv, nm_e (h1 (by rw [a]; exact cm_nm1 (by omega)))⟩
theorem cm_ypr_l {post : Int32 → SY → Prop} {f : Nat} (h : post (nI (cm_pn YF EW (nI f) 32)) ((nI c), la, W, YF, (cm_pw YF EW (nI f) 32))) : ∀ d i : Nat, i + d = 32 → wY_protect_14 post (nI f) (nI c) la (d + 1) (nI (cm_pn YF EW (nI f) i)) (nI i) W YF (cm_pw YF EW (nI f) i) := by
  intro d
  induction d with
  | zero =>
    intro i hi
    have ei : i = 32 := by omega
    subst ei
    have hle : (32 : Int32) ≤ nI 32 := by decide
    exact br_t hle h
  | succ d ih =>
    intro i hi
    have hgt : ¬ (32 : Int32) ≤ nI i := nI_ge (b := 32) (by omega) (by decide)
    have hv : vp_in (nI i) 32 := vp_in_nI (by omega) (by decide)
    have t := ih (i + 1) (by omega)
    refine br_f hgt ⟨hv, ?_⟩
    rw [nI_clamp (by omega), cm_pw_at]
    by_cases hy : YF i = nI f
    · rw [← cm_pw_y hy] at t
      refine br_t hy ⟨hv, ?_⟩
      by_cases hw : EW i = 0
      · rw [cm_pn_n (Or.inr hw)] at t
        exact br_t hw ⟨hv, nm_r rfl (nm_r (nI_1 i) t)⟩
      · rw [cm_pn_y hy hw] at t
        exact br_f hw (nm_r (nI_1 _) ⟨hv, nm_r rfl (nm_r (nI_1 i) t)⟩)
    · rw [cm_pn_n (Or.inl hy), cm_pw_n (Or.inl hy)] at t
      exact br_f hy (nm_r (nI_1 i) t)
theorem cm_ydc_l {post : Int32 → SY → Prop} {f t m : Nat} (hf : f + m ≤ 64) (ht : t + m ≤ 64) (h : post (nI m) ((nI c), la, (cm_dc W f t m), YF, EW)) : ∀ d i : Nat, i + d = m → wY_deviceCopy_53 post (nI f) (nI t) (nI m) (nI c) la (d + 1) (nI i) (cm_dc W f t i) YF EW := by
  intro d
  induction d with
  | zero =>
    intro i hi
    have ei : i = m := by omega
    subst ei
    have hle : nI i ≤ nI i := nI_le (Nat.le_refl _) (by omega)
    exact br_t hle h
  | succ d ih =>
    intro i hi
    have hgt : ¬ nI m ≤ nI i := nI_ge (by omega) (by omega)
    refine br_f hgt ?_
    rw [nI_add f i, nI_add t i, nI_clamp (n := f + i) (by omega), nI_clamp (n := t + i) (by omega)]
    exact ⟨vp_in_nI (by omega) (by decide), vp_in_nI (by omega) (by decide), nm_e (nm_r (nI_1 i) (ih (i + 1) (by omega)))⟩
theorem cm_yi_l {post : SY → Prop} {a b : Int32} (h : ∀ YF' : Nat → Int32, (∀ j, j < 32 → YF' j = -1) → post (a, b, W, YF', EW)) : ∀ (d i : Nat) (YF' : Nat → Int32), i + d = 32 → (∀ j, j < i → YF' j = -1) → wY_init_40 post a b (d + 1) (nI i) W YF' EW := by
  intro d
  induction d with
  | zero =>
    intro i YF' hi hy
    have ei : i = 32 := by omega
    subst ei
    have hle : (32 : Int32) ≤ nI 32 := by decide
    exact br_t hle (h _ hy)
  | succ d ih =>
    intro i YF' hi hy
    have hgt : ¬ (32 : Int32) ≤ nI i := nI_ge (b := 32) (by omega) (by decide)
    refine br_f hgt ?_
    rw [nI_clamp (by omega)]
    refine ⟨vp_in_nI (by omega) (by decide), nm_e (nm_r (nI_1 i) (ih (i + 1) _ (by omega) fun j hj => ?_))⟩
    by_cases z : j = i
    · rw [z, pk_us]
    · rw [pk_un z]
      exact hy j (by omega)
end
section
variable {EU EF EW YF : Nat → Int32} {e : Nat}
theorem cm_E_0 (h : cm_E EU EF EW YF) (he : e < 32) (z : EU e = 0) : YF e = -1 := by
  rcases (h e he).2 with a | a
  · exact a.2
  · rw [a.1] at z
    exact absurd z (by decide)
theorem cm_E_1 (h : cm_E EU EF EW YF) (he : e < 32) (z : EU e ≠ 0) : ∃ f, f < 8 ∧ EF e = nI f ∧ YF e = nI f := by
  rcases (h e he).2 with a | a
  · exact absurd a.1 z
  · exact a.2
theorem cm_E_pw {fr : Int32} {i : Nat} (h : cm_E EU EF EW YF) : cm_E EU EF (cm_pw YF EW fr i) YF := by
  intro x hx
  refine ⟨?_, (h x hx).2⟩
  show (if x < i ∧ YF x = fr then (0 : Int32) else EW x) = 0 ∨ (if x < i ∧ YF x = fr then (0 : Int32) else EW x) = 1
  by_cases p : x < i ∧ YF x = fr
  · rw [if_pos p]
    exact Or.inl rfl
  · rw [if_neg p]
    exact (h x hx).1
end
/-- sizes and places -/
def cm_P (L B k c : Nat) : Prop := 1 ≤ L ∧ L ≤ 4 ∧ 1 ≤ B ∧ B ≤ 4 ∧ k < B ∧ c < 4
def i_Rel (_ : Nat) (u : SX) (v : SY) : Prop := ∃ (L B k c : Nat) (la : Int32) (M EU EF EW KU KE KF KW SU SD SB C NW W YF : Nat → Int32), u = ((nI L), (nI B), (nI k), (nI c), la, M, EU, EF, EW, KU, KE, KF, KW, SU, SD, SB, C, NW) ∧ v = ((nI c), la, W, YF, EW) ∧ cm_P L B k c ∧ cm_T B EU EF EW KU KE KF KW ∧ cm_E EU EF EW YF ∧ cm_C L M SU SD SB C W ∧ cm_N L NW
theorem cm_mk {n L B k c : Nat} {la : Int32} {M EU EF EW KU KE KF KW SU SD SB C NW W YF : Nat → Int32} (hP : cm_P L B k c) (hT : cm_T B EU EF EW KU KE KF KW) (hE : cm_E EU EF EW YF) (hC : cm_C L M SU SD SB C W) (hN : cm_N L NW) : i_Rel n ((nI L), (nI B), (nI k), (nI c), la, M, EU, EF, EW, KU, KE, KF, KW, SU, SD, SB, C, NW) ((nI c), la, W, YF, EW) :=
  ⟨L, B, k, c, la, M, EU, EF, EW, KU, KE, KF, KW, SU, SD, SB, C, NW, W, YF, rfl, rfl, hP, hT, hE, hC, hN⟩
theorem i_up {k : Nat} {u : SX} {v : SY} (h : i_Rel k u v) : i_Rel (k + 5) u v := h
