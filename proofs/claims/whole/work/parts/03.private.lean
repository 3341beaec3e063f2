/-! the component's own methods, each with a general post -/
theorem cm_nm1 {n : Nat} (h : n < 2 ^ 31) : ¬ nI n = -1 := by
  intro z
  have a := nI_toInt h
  rw [z] at a
  have b : (-1 : Int32).toInt = -1 := by decide
  omega
theorem cm_vb1 : vp_nar .boolean 1 = 1 := rfl
theorem cm_vb0 : vp_nar .boolean 0 = 0 := rfl
theorem cm_x8 (a b : Nat) : nI a * 8 + nI b = nI (a * 8 + b) := by
  rw [show (8 : Int32) = nI 8 from rfl, pk_mul, nI_add]
theorem cm_8x (a b : Nat) : 8 * nI a + nI b = nI (a * 8 + b) := by
  rw [show (8 : Int32) = nI 8 from rfl, pk_mul, nI_add, Nat.mul_comm]
theorem cm_x4 (a b : Nat) : nI a * 4 + nI b = nI (a * 4 + b) := by
  rw [show (4 : Int32) = nI 4 from rfl, pk_mul, nI_add]
theorem cm_x2 (a b : Nat) : nI a * 2 + nI b = nI (a * 2 + b) := by
  rw [show (2 : Int32) = nI 2 from rfl, pk_mul, nI_add]
theorem cm_d8 {a : Nat} (h : a < 2 ^ 31) : nI a / 8 = nI (a / 8) := pk_div h (d := 8) (by decide) (by decide)
theorem cm_d4 {a : Nat} (h : a < 2 ^ 31) : nI a / 4 = nI (a / 4) := pk_div h (d := 4) (by decide) (by decide)
theorem cm_r8 {a : Nat} (h : a < 2 ^ 31) : nI a - nI a / 8 * 8 = nI (a % 8) := pk_rem h (d := 8) (by decide) (by decide)
theorem cm_r4 {a : Nat} (h : a < 2 ^ 31) : nI a - nI a / 4 * 4 = nI (a % 4) := pk_rem h (d := 4) (by decide) (by decide)
theorem cm_r2 {a : Nat} (h : a < 2 ^ 31) : nI a - nI a / 2 * 2 = nI (a % 2) := pk_rem h (d := 2) (by decide) (by decide)
theorem cm_ib_t {post : Int32 → Prop} {n : Nat} (b : Nat) (h : n < b) (hb : b < 2 ^ 31) (hp : post 1) : wpX_isBelow post (nI n) (nI b) := by
  unfold wpX_isBelow
  exact br_f (nI_pos (by omega)) (br_f (nI_ge h hb) hp)
theorem cm_ib_f {post : Int32 → Prop} {x : Int32} (b : Nat) (h : x < 0 ∨ nI b ≤ x) (hp : post 0) : wpX_isBelow post x (nI b) := by
  unfold wpX_isBelow
  by_cases h0 : x < 0
  · exact br_t h0 hp
  · exact br_f h0 (br_t (h.resolve_left h0) hp)
section
variable {L B k c : Nat} {la : Int32} {M EU EF EW KU KE KF KW SU SD SB C NW W : Nat → Int32}
theorem cm_ft_l {post : Int32 → Prop} {e : Nat} (hB : B ≤ 4) (h0 : (∀ i, i < B → KU i ≠ 0 → KE i ≠ nI e) → post (-1)) (h1 : ∀ j, j < B → KU j ≠ 0 → KE j = nI e → post (nI j)) : ∀ d i : Nat, i + d = B → (∀ x, x < i → KU x ≠ 0 → KE x ≠ nI e) → wX_findTranslation_2 post (nI e) (nI L) (nI B) (nI k) (nI c) la M EU EF EW KU KE KF KW SU SD SB C NW (d + 1) (nI i) := by
  intro d
  induction d with
  | zero =>
    intro i hi hq
    have hle : nI B ≤ nI i := nI_le (by omega) (by omega)
    exact br_t hle (h0 fun x hx => hq x (by omega))
  | succ d ih =>
    intro i hi hq
    have hv : vp_in (nI i) 4 := vp_in_nI (by omega) (by decide)
    have ec : (nI i).toNatClampNeg = i := nI_clamp (by omega)
    have hgt : ¬ nI B ≤ nI i := nI_ge (by omega) (by omega)
    refine br_f hgt ⟨hv, ?_⟩
    rw [ec]
    refine br_c (fun z => nm_r (nI_1 i) (ih (i + 1) (by omega) ?_)) (fun z => ⟨hv, br_c (fun y => h1 i (by omega) z y) (fun y => nm_r (nI_1 i) (ih (i + 1) (by omega) ?_))⟩)
    · intro x hx hu
      by_cases hxi : x = i
      · rw [hxi] at hu
        exact absurd z hu
      · exact hq x (by omega) hu
    · intro x hx hu
      by_cases hxi : x = i
      · rw [hxi]
        exact y
      · exact hq x (by omega) hu
theorem cm_ft {post : Int32 → Prop} {e : Nat} (hB : B ≤ 4) (h0 : (∀ i, i < B → KU i ≠ 0 → KE i ≠ nI e) → post (-1)) (h1 : ∀ j, j < B → KU j ≠ 0 → KE j = nI e → post (nI j)) : wpX_findTranslation post ((nI L), (nI B), (nI k), (nI c), la, M, EU, EF, EW, KU, KE, KF, KW, SU, SD, SB, C, NW) (nI e) := by
  unfold wpX_findTranslation
  exact ⟨B + 1, cm_ft_l hB h0 h1 B 0 (by omega) (fun x hx => absurd hx (by omega))⟩
theorem cm_dt {post : SX → Prop} {e : Nat} {EU0 EF0 EW0 : Nat → Int32} (hB : B ≤ 4) (hT : cm_T B EU0 EF0 EW0 KU KE KF KW) (hx : ∀ x, x < 32 → x ≠ e → EU x = EU0 x ∧ EF x = EF0 x ∧ EW x = EW0 x) (h : ∀ KU' : Nat → Int32, cm_T B EU EF EW KU' KE KF KW → post ((nI L), (nI B), (nI k), (nI c), la, M, EU, EF, EW, KU', KE, KF, KW, SU, SD, SB, C, NW)) : wpX_dropTranslation post ((nI L), (nI B), (nI k), (nI c), la, M, EU, EF, EW, KU, KE, KF, KW, SU, SD, SB, C, NW) (nI e) := by
  unfold wpX_dropTranslation
  dsimp only
  refine cm_ft hB (fun hn => br_t rfl (h _ (cm_T_no hT hn hx))) (fun j hj hu ej => br_f (cm_nm1 (by omega)) ⟨vp_in_nI (by omega) (by decide), ?_⟩)
  rw [nI_clamp (by omega)]
  exact nm_r rfl (h _ (cm_T_dr hT hj hu ej hx))
theorem cm_kt {post : Int32 → SX → Prop} {e : Nat} (hB0 : 1 ≤ B) (hB : B ≤ 4) (hk : k < B) (he : e < 32) (hw : EW e = 0 ∨ EW e = 1) (h : post (nI k) ((nI L), (nI B), (nI ((k + 1) % B)), (nI c), la, M, EU, EF, EW, (upd KU k 1), (upd KE k (nI e)), (upd KF k (EF e)), (upd KW k (EW e)), SU, SD, SB, C, NW)) : wpX_keepTranslation post ((nI L), (nI B), (nI k), (nI c), la, M, EU, EF, EW, KU, KE, KF, KW, SU, SD, SB, C, NW) (nI e) := by
  unfold wpX_keepTranslation
  dsimp only
  have hv : vp_in (nI k) 4 := vp_in_nI (by omega) (by decide)
  have hv2 : vp_in (nI e) 32 := vp_in_nI he (by decide)
  have ek : (nI k).toNatClampNeg = k := nI_clamp (by omega)
  have ee : (nI e).toNatClampNeg = e := nI_clamp (by omega)
  have er : (nI k + 1) - (nI k + 1) / nI B * nI B = nI ((k + 1) % B) := by
    rw [nI_1]
    exact pk_rem (by omega) (by omega) (by omega)
  rw [ek, ee, er, cm_b01 hw]
  exact ⟨nI_ne0 (by omega) (by omega), nm_e ⟨hv, nm_r rfl ⟨hv, nm_e ⟨hv2, hv, nm_e ⟨hv2, hv, nm_e h⟩⟩⟩⟩⟩
theorem cm_to_bad {post : Int32 → SX → Prop} {a tw : Int32} (ha : a < 0 ∨ nI 64 ≤ a) (h : post (-1) ((nI L), (nI B), (nI k), (nI c), la, M, EU, EF, EW, KU, KE, KF, KW, SU, SD, SB, C, NW)) : wpX_translationOf post ((nI L), (nI B), (nI k), (nI c), la, M, EU, EF, EW, KU, KE, KF, KW, SU, SD, SB, C, NW) a tw := by
  unfold wpX_translationOf
  dsimp only
  exact cm_ib_f 64 ha (br_t rfl h)
theorem cm_to {post : Int32 → SX → Prop} (tw : Int32) {n e : Nat} (hn : n < 64) (hc : c < 4) (he : c * 8 + n / 8 = e) (hB0 : 1 ≤ B) (hB : B ≤ 4) (hk : k < B) (hT : cm_T B EU EF EW KU KE KF KW) (hw : EW e = 0 ∨ EW e = 1) (h2 : EU e = 0 → post (-2) ((nI L), (nI B), (nI k), (nI c), la, M, EU, EF, EW, KU, KE, KF, KW, SU, SD, SB, C, NW)) (h3 : EU e ≠ 0 → tw ≠ 0 → EW e = 0 → post (-3) ((nI L), (nI B), (nI k), (nI c), la, M, EU, EF, EW, KU, KE, KF, KW, SU, SD, SB, C, NW)) (h4 : EU e ≠ 0 → (tw = 0 ∨ EW e ≠ 0) → ∀ (k' j : Nat) (KU' KE' KF' KW' : Nat → Int32), k' < B → j < B → cm_T B EU EF EW KU' KE' KF' KW' → KF' j = EF e → post (nI j) ((nI L), (nI B), (nI k'), (nI c), la, M, EU, EF, EW, KU', KE', KF', KW', SU, SD, SB, C, NW)) : wpX_translationOf post ((nI L), (nI B), (nI k), (nI c), la, M, EU, EF, EW, KU, KE, KF, KW, SU, SD, SB, C, NW) (nI n) tw := by
  have he2 : e < 32 := by omega
  have ex : nI c * 8 + nI n / 8 = nI e := by rw [cm_d8 (by omega), cm_x8, he]
  have hv : vp_in (nI e) 32 := vp_in_nI he2 (by decide)
  have ee : (nI e).toNatClampNeg = e := nI_clamp (by omega)
  unfold wpX_translationOf
  dsimp only
  refine cm_ib_t 64 hn (by decide) (br_f (by decide) ⟨by decide, ?_⟩)
  rw [ex]
  refine nm_e (cm_ft hB (fun hno => ?_) (fun j hj hu ej => ?_))
  · refine br_t rfl ⟨hv, ?_⟩
    rw [ee]
    refine br_c h2 (fun hu => ?_)
    have hkeep : (tw = 0 ∨ EW e ≠ 0) → wX_translationOf_85 post (nI e) (-1) (nI L) (nI B) (nI k) (nI c) la M EU EF EW KU KE KF KW SU SD SB C NW := by
      intro ok
      unfold wX_translationOf_85
      exact br_t rfl (cm_kt hB0 hB hk he2 hw (h4 hu ok _ _ _ _ _ _ (Nat.mod_lt _ (by omega)) hk (cm_T_kp hT he2 hu hno) pk_us))
    unfold wX_translationOf_49
    refine br_t rfl ⟨hv, ?_⟩
    rw [ee]
    unfold wX_translationOf_71
    exact br_c (fun z => hkeep (Or.inl z)) (fun z => br_c (fun y => h3 hu z y) (fun y => hkeep (Or.inr y)))
  · obtain ⟨x, hx, e1, e2, e3, e4⟩ := hT.1 j hj hu
    have exe : x = e := by
      rw [e1, nI_eq (by omega) (by omega)] at ej
      exact ej
    subst exe
    have hj4 : vp_in (nI j) 4 := vp_in_nI (by omega) (by decide)
    have hkeep : (tw = 0 ∨ EW x ≠ 0) → wX_translationOf_85 post (nI x) (nI j) (nI L) (nI B) (nI k) (nI c) la M EU EF EW KU KE KF KW SU SD SB C NW := by
      intro ok
      unfold wX_translationOf_85
      exact br_f (cm_nm1 (by omega)) (h4 e2 ok _ _ _ _ _ _ hk hj hT e3)
    refine br_f (cm_nm1 (by omega)) ?_
    unfold wX_translationOf_49
    refine br_f (cm_nm1 (by omega)) ⟨hj4, ?_⟩
    rw [nI_clamp (n := j) (by omega), e4]
    unfold wX_translationOf_71
    exact br_c (fun z => hkeep (Or.inl z)) (fun z => br_c (fun y => h3 e2 z y) (fun y => hkeep (Or.inr y)))
theorem cm_ph {post : Int32 → Prop} {j f n : Nat} (hj : j < 4) (hn : n < 64) (ej : KF j = nI f) (h : post (nI (f * 8 + n % 8))) : wpX_physicalWord post ((nI L), (nI B), (nI k), (nI c), la, M, EU, EF, EW, KU, KE, KF, KW, SU, SD, SB, C, NW) (nI j) (nI n) := by
  unfold wpX_physicalWord
  dsimp only
  rw [nI_clamp (by omega), ej, cm_r8 (by omega), cm_x8]
  exact ⟨vp_in_nI hj (by decide), by decide, h⟩
theorem cm_fs_l {post : Int32 → Prop} {b q : Nat} (hq : q < 4) (h0 : (∀ t, q * 2 ≤ t → t < q * 2 + 2 → SU t ≠ 0 → SB t ≠ nI b) → post (-1)) (h1 : ∀ s, q * 2 ≤ s → s < q * 2 + 2 → SU s ≠ 0 → SB s = nI b → post (nI s)) : ∀ d i : Nat, i + d = q * 2 + 2 → q * 2 ≤ i → (∀ x, q * 2 ≤ x → x < i → SU x ≠ 0 → SB x ≠ nI b) → wX_findSlot_11 post (nI b) (nI (q * 2)) (nI L) (nI B) (nI k) (nI c) la M EU EF EW KU KE KF KW SU SD SB C NW (d + 1) (nI i) := by
  intro d
  induction d with
  | zero =>
    intro i hi hi2 hx
    have hle : nI (q * 2) + 2 ≤ nI i := by
      rw [show (2 : Int32) = nI 2 from rfl, nI_add]
      exact nI_le (by omega) (by omega)
    exact br_t hle (h0 fun x a b => hx x a (by omega))
  | succ d ih =>
    intro i hi hi2 hx
    have hv : vp_in (nI i) 8 := vp_in_nI (by omega) (by decide)
    have ec : (nI i).toNatClampNeg = i := nI_clamp (by omega)
    have hgt : ¬ nI (q * 2) + 2 ≤ nI i := by
      rw [show (2 : Int32) = nI 2 from rfl, nI_add]
      exact nI_ge (by omega) (by omega)
    refine br_f hgt ⟨hv, ?_⟩
    rw [ec]
    refine br_c (fun z => nm_r (nI_1 i) (ih (i + 1) (by omega) (by omega) ?_)) (fun z => ⟨hv, br_c (fun y => h1 i (by omega) (by omega) z y) (fun y => nm_r (nI_1 i) (ih (i + 1) (by omega) (by omega) ?_))⟩)
    · intro x hx1 hx2 hu
      by_cases hxi : x = i
      · rw [hxi] at hu
        exact absurd z hu
      · exact hx x hx1 (by omega) hu
    · intro x hx1 hx2 hu
      by_cases hxi : x = i
      · rw [hxi]
        exact y
      · exact hx x hx1 (by omega) hu
theorem cm_md {a b : Nat} (h1 : 1 ≤ b) (h2 : b ≤ 4) : a % b < b ∧ a % b < 4 := by
  have h := Nat.mod_lt a (show b > 0 by omega)
  omega
theorem cm_fs {post : Int32 → Prop} {b : Nat} (hL1 : 1 ≤ L) (hL : L ≤ 4) (hb : b < 16) (hC : cm_C L M SU SD SB C W) (h0 : (∀ t, t < 2 * L → SU t ≠ 0 → SB t ≠ nI b) → post (-1)) (h1 : ∀ s, s < 2 * L → SU s ≠ 0 → SB s = nI b → post (nI s)) : wpX_findSlot post ((nI L), (nI B), (nI k), (nI c), la, M, EU, EF, EW, KU, KE, KF, KW, SU, SD, SB, C, NW) (nI b) := by
  obtain ⟨hq, hq4⟩ := cm_md (a := b) hL1 hL
  have er : (nI b - nI b / nI L * nI L) * 2 = nI (b % L * 2) := by
    rw [pk_rem (by omega) (by omega) (by omega), show (2 : Int32) = nI 2 from rfl, pk_mul]
  unfold wpX_findSlot
  dsimp only
  rw [er]
  refine ⟨nI_ne0 (by omega) (by omega), nm_e ⟨3, cm_fs_l hq4 (fun hn => h0 fun t ht hu et => ?_) (fun s ha hb2 hu es => h1 s (by omega) hu es) 2 (b % L * 2) rfl (Nat.le_refl _) (fun x a b => absurd b (by omega))⟩⟩
  obtain ⟨x, x1, x2, x3⟩ := hC.1 t ht hu
  rw [et, nI_eq (by omega) (by omega)] at x2
  subst x2
  exact hn t (by omega) (by omega) hu et
theorem cm_wb_l {post : SX → Prop} {s b : Nat} (hs : s < 8) (hb : b < 16) (eb : SB s = nI b) (h : post ((nI L), (nI B), (nI k), (nI c), la, (cm_cp M C (b * 4) (s * 4) 4), EU, EF, EW, KU, KE, KF, KW, SU, (upd SD s 0), SB, C, NW)) : ∀ d i : Nat, i + d = 4 → wX_writeBack_21 post (nI s) (nI L) (nI B) (nI k) (nI c) la (d + 1) (nI i) (cm_cp M C (b * 4) (s * 4) i) EU EF EW KU KE KF KW SU SD SB C NW := by
  have hv : vp_in (nI s) 8 := vp_in_nI hs (by decide)
  have ec : (nI s).toNatClampNeg = s := nI_clamp (by omega)
  intro d
  induction d with
  | zero =>
    intro i hi
    have ei : i = 4 := by omega
    subst ei
    have hle : (4 : Int32) ≤ nI 4 := by decide
    refine br_t hle ⟨hv, ?_⟩
    rw [ec]
    exact nm_r rfl h
  | succ d ih =>
    intro i hi
    have hgt : ¬ (4 : Int32) ≤ nI i := nI_ge (b := 4) (by omega) (by decide)
    refine br_f hgt ?_
    rw [ec, eb, cm_x4, cm_x4, nI_clamp (n := s * 4 + i) (by omega), nI_clamp (n := b * 4 + i) (by omega)]
    exact ⟨hv, vp_in_nI (by omega) (by decide), vp_in_nI (by omega) (by decide), nm_e (nm_r (nI_1 i) (ih (i + 1) (by omega)))⟩
theorem cm_wb {post : SX → Prop} {s : Nat} (hL : L ≤ 4) (hs : s < 2 * L) (hC : cm_C L M SU SD SB C W) (h : ∀ M' SD' : Nat → Int32, cm_C L M' SU SD' SB C W → (SU s ≠ 0 → SD' s = 0) → post ((nI L), (nI B), (nI k), (nI c), la, M', EU, EF, EW, KU, KE, KF, KW, SU, SD', SB, C, NW)) : wpX_writeBack post ((nI L), (nI B), (nI k), (nI c), la, M, EU, EF, EW, KU, KE, KF, KW, SU, SD, SB, C, NW) (nI s) := by
  have hv : vp_in (nI s) 8 := vp_in_nI (by omega) (by decide)
  unfold wpX_writeBack
  dsimp only
  rw [nI_clamp (by omega)]
  refine ⟨hv, br_c (fun z => h M SD hC (fun y => absurd z y)) (fun u => ⟨hv, br_c (fun z => h M SD hC (fun _ => z)) (fun _ => ?_)⟩)⟩
  obtain ⟨b, hb, eb, _⟩ := hC.1 s hs u
  exact ⟨5, cm_wb_l (by omega) hb eb (h _ _ (cm_C_wb hC hs u hb eb) (fun _ => pk_us)) 4 0 rfl⟩
theorem cm_fl_l {post : SX → Prop} {s b : Nat} (hs : s < 8) (hb : b < 16) (h : post ((nI L), (nI B), (nI k), (nI c), la, M, EU, EF, EW, KU, KE, KF, KW, (upd SU s 1), (upd SD s 0), (upd SB s (nI b)), (cm_cp C M (s * 4) (b * 4) 4), NW)) : ∀ d i : Nat, i + d = 4 → wX_fill_2 post (nI s) (nI b) (nI L) (nI B) (nI k) (nI c) la (d + 1) (nI i) M EU EF EW KU KE KF KW SU SD SB (cm_cp C M (s * 4) (b * 4) i) NW := by
  have hv : vp_in (nI s) 8 := vp_in_nI hs (by decide)
  have ec : (nI s).toNatClampNeg = s := nI_clamp (by omega)
  intro d
  induction d with
  | zero =>
    intro i hi
    have ei : i = 4 := by omega
    subst ei
    have hle : (4 : Int32) ≤ nI 4 := by decide
    refine br_t hle ?_
    rw [ec]
    exact ⟨hv, nm_r rfl ⟨hv, nm_r rfl ⟨hv, nm_e h⟩⟩⟩
  | succ d ih =>
    intro i hi
    have hgt : ¬ (4 : Int32) ≤ nI i := nI_ge (b := 4) (by omega) (by decide)
    refine br_f hgt ?_
    rw [cm_x4, cm_x4, nI_clamp (n := s * 4 + i) (by omega), nI_clamp (n := b * 4 + i) (by omega)]
    exact ⟨vp_in_nI (by omega) (by decide), vp_in_nI (by omega) (by decide), nm_e (nm_r (nI_1 i) (ih (i + 1) (by omega)))⟩
theorem cm_fl {post : SX → Prop} {s b : Nat} (hs : s < 8) (hb : b < 16) (h : post ((nI L), (nI B), (nI k), (nI c), la, M, EU, EF, EW, KU, KE, KF, KW, (upd SU s 1), (upd SD s 0), (upd SB s (nI b)), (cm_cp C M (s * 4) (b * 4) 4), NW)) : wpX_fill post ((nI L), (nI B), (nI k), (nI c), la, M, EU, EF, EW, KU, KE, KF, KW, SU, SD, SB, C, NW) (nI s) (nI b) := by
  unfold wpX_fill
  exact ⟨5, cm_fl_l hs hb h 4 0 rfl⟩
theorem cm_s40 {post : Int32 → SX → Prop} {q s : Nat} (hq : q < 4) (hs : s < 8) (h : ∀ y, y < 2 → post (nI s) ((nI L), (nI B), (nI k), (nI c), la, M, EU, EF, EW, KU, KE, KF, KW, SU, SD, SB, C, (upd NW q (nI y)))) : wX_slotWith_40 post (nI q) (nI s) (nI L) (nI B) (nI k) (nI c) la M EU EF EW KU KE KF KW SU SD SB C NW := by
  have e1 : (1 : Int32) - nI (s % 2) = nI (1 - s % 2) := pk_sub (a := 1) (by omega)
  unfold wX_slotWith_40
  rw [cm_r2 (by omega), e1, nI_clamp (by omega)]
  exact ⟨by decide, vp_in_nI hq (by decide), nm_e (h _ (by omega))⟩
/-- the ways that are next: 0 or 1 in each set -/
def cm_N (L : Nat) (NW : Nat → Int32) : Prop := ∀ t, t < L → ∃ y, y < 2 ∧ NW t = nI y
theorem cm_N_u {q y : Nat} (h : cm_N L NW) (hy : y < 2) : cm_N L (upd NW q (nI y)) := by
  intro t ht
  by_cases z : t = q
  · rw [z, pk_us]
    exact ⟨y, hy, rfl⟩
  · rw [pk_un z]
    exact h t ht
theorem cm_sw {post : Int32 → SX → Prop} {b : Nat} (hL1 : 1 ≤ L) (hL : L ≤ 4) (hb : b < 16) (hC : cm_C L M SU SD SB C W) (hN : cm_N L NW) (h : ∀ (s : Nat) (M' SU' SD' SB' C' NW' : Nat → Int32), s < 2 * L → cm_C L M' SU' SD' SB' C' W → cm_N L NW' → SU' s ≠ 0 → SB' s = nI b → post (nI s) ((nI L), (nI B), (nI k), (nI c), la, M', EU, EF, EW, KU, KE, KF, KW, SU', SD', SB', C', NW')) : wpX_slotWith post ((nI L), (nI B), (nI k), (nI c), la, M, EU, EF, EW, KU, KE, KF, KW, SU, SD, SB, C, NW) (nI b) := by
  obtain ⟨hq, hq4⟩ := cm_md (a := b) hL1 hL
  have er : nI b - nI b / nI L * nI L = nI (b % L) := pk_rem (by omega) (by omega) (by omega)
  unfold wpX_slotWith
  dsimp only
  rw [er]
  refine ⟨nI_ne0 (by omega) (by omega), nm_e (cm_fs hL1 hL hb hC (fun hn => br_t rfl ⟨vp_in_nI hq4 (by decide), ?_⟩) (fun s hs hu es => br_f (cm_nm1 (by omega)) (cm_s40 hq4 (by omega) fun y hy => h s _ _ _ _ _ _ hs hC (cm_N_u hN hy) hu es)))⟩
  obtain ⟨y, hy, ey⟩ := hN (b % L) hq
  rw [nI_clamp (by omega), ey, cm_x2]
  refine nm_e (cm_wb hL (by omega) hC fun M' SD' hC' hd => ?_)
  dsimp only
  refine cm_fl (by omega) hb ?_
  dsimp only
  refine cm_s40 hq4 (by omega) fun y' hy' => ?_
  exact h _ _ _ _ _ _ _ (by omega) (cm_C_fill hC' hb (by omega) hn hd) (cm_N_u hN hy') (by rw [pk_us]; decide) pk_us
theorem cm_rc {post : Int32 → SX → Prop} {w : Nat} (hL1 : 1 ≤ L) (hL : L ≤ 4) (hw : w < 64) (hC : cm_C L M SU SD SB C W) (hN : cm_N L NW) (h : ∀ M' SU' SD' SB' C' NW' : Nat → Int32, cm_C L M' SU' SD' SB' C' W → cm_N L NW' → post (W w) ((nI L), (nI B), (nI k), (nI c), la, M', EU, EF, EW, KU, KE, KF, KW, SU', SD', SB', C', NW')) : wpX_readCached post ((nI L), (nI B), (nI k), (nI c), la, M, EU, EF, EW, KU, KE, KF, KW, SU, SD, SB, C, NW) (nI w) := by
  unfold wpX_readCached
  dsimp only
  rw [cm_r4 (by omega), cm_d4 (by omega)]
  refine ⟨by decide, cm_sw hL1 hL (by omega) hC hN fun s M' SU' SD' SB' C' NW' hs hC' hN' hu es => ?_⟩
  dsimp only
  rw [cm_x4, nI_clamp (by omega), hC'.2.2.1 s (w / 4) (w % 4) hs (by omega) (by omega) hu es, show w / 4 * 4 + w % 4 = w by omega]
  exact ⟨by decide, vp_in_nI (by omega) (by decide), h _ _ _ _ _ _ hC' hN'⟩
theorem cm_wc {post : SX → Prop} {w : Nat} {v : Int32} (hL1 : 1 ≤ L) (hL : L ≤ 4) (hw : w < 64) (hC : cm_C L M SU SD SB C W) (hN : cm_N L NW) (h : ∀ M' SU' SD' SB' C' NW' : Nat → Int32, cm_C L M' SU' SD' SB' C' (upd W w v) → cm_N L NW' → post ((nI L), (nI B), (nI k), (nI c), la, M', EU, EF, EW, KU, KE, KF, KW, SU', SD', SB', C', NW')) : wpX_writeCached post ((nI L), (nI B), (nI k), (nI c), la, M, EU, EF, EW, KU, KE, KF, KW, SU, SD, SB, C, NW) (nI w) v := by
  unfold wpX_writeCached
  dsimp only
  rw [cm_r4 (by omega), cm_d4 (by omega)]
  refine ⟨by decide, cm_sw hL1 hL (by omega) hC hN fun s M' SU' SD' SB' C' NW' hs hC' hN' hu es => ?_⟩
  dsimp only
  rw [cm_x4, nI_clamp (n := s * 4 + w % 4) (by omega), nI_clamp (n := s) (by omega)]
  have hC2 := cm_C_st (v := v) hC' hs (show w / 4 < 16 by omega) (show w % 4 < 4 by omega) hu es
  rw [show w / 4 * 4 + w % 4 = w by omega] at hC2
  exact ⟨by decide, vp_in_nI (by omega) (by decide), nm_e ⟨vp_in_nI (by omega) (by decide), nm_r rfl (h _ _ _ _ _ _ hC2 hN')⟩⟩
theorem cm_rd {post : Int32 → SX → Prop} {w : Nat} (hL1 : 1 ≤ L) (hL : L ≤ 4) (hw : w < 64) (hC : cm_C L M SU SD SB C W) (h : ∀ M' SD' : Nat → Int32, cm_C L M' SU SD' SB C W → post (W w) ((nI L), (nI B), (nI k), (nI c), la, M', EU, EF, EW, KU, KE, KF, KW, SU, SD', SB, C, NW)) : wpX_readByDevice post ((nI L), (nI B), (nI k), (nI c), la, M, EU, EF, EW, KU, KE, KF, KW, SU, SD, SB, C, NW) (nI w) := by
  have hv : vp_in (nI w) 64 := vp_in_nI hw (by decide)
  unfold wpX_readByDevice
  dsimp only
  rw [cm_d4 (by omega), nI_clamp (by omega)]
  refine ⟨by decide, cm_fs hL1 hL (by omega) hC (fun hn => br_t rfl ⟨hv, ?_⟩) (fun s hs hu es => br_f (cm_nm1 (by omega)) (cm_wb hL hs hC fun M' SD' hC' hd => ⟨hv, ?_⟩))⟩
  · rw [hC.2.2.2 w hw (fun s hs hu es => absurd es (hn s hs hu))]
    exact h _ _ hC
  · have e : M' w = W w := hC'.2.2.2 w hw (fun t ht htu et => by
      have ts : t = s := hC.2.1 t s ht hs htu hu (et.trans es.symm)
      rw [ts]
      exact hd hu)
    dsimp only
    rw [e]
    exact h _ _ hC'
theorem cm_wd {post : SX → Prop} {w : Nat} {v : Int32} (hL1 : 1 ≤ L) (hL : L ≤ 4) (hw : w < 64) (hC : cm_C L M SU SD SB C W) (h : ∀ M' SU' SD' : Nat → Int32, cm_C L M' SU' SD' SB C (upd W w v) → post ((nI L), (nI B), (nI k), (nI c), la, M', EU, EF, EW, KU, KE, KF, KW, SU', SD', SB, C, NW)) : wpX_writeByDevice post ((nI L), (nI B), (nI k), (nI c), la, M, EU, EF, EW, KU, KE, KF, KW, SU, SD, SB, C, NW) (nI w) v := by
  have hv : vp_in (nI w) 64 := vp_in_nI hw (by decide)
  unfold wpX_writeByDevice
  dsimp only
  rw [cm_d4 (by omega), nI_clamp (by omega)]
  refine ⟨by decide, cm_fs hL1 hL (by omega) hC (fun hn => br_t rfl ⟨hv, nm_e (h _ _ _ (cm_C_dw hC hn))⟩) (fun s hs hu es => br_f (cm_nm1 (by omega)) (cm_wb hL hs hC fun M' SD' hC' hd => ?_))⟩
  dsimp only
  rw [nI_clamp (by omega)]
  refine ⟨vp_in_nI (by omega) (by decide), nm_r rfl ⟨hv, nm_e (h _ _ _ (cm_C_dw (cm_C_dr hC' hd) fun t ht htu et => ?_))⟩⟩
  exact (cm_u0 htu).1 (hC.2.1 t s ht hs (cm_u0 htu).2 hu (et.trans es.symm))
end
