section
theorem pk_us {f : Nat → Int32} {k : Nat} {x : Int32} : upd f k x k = x := if_pos rfl
theorem pk_un {f : Nat → Int32} {k j : Nat} {x : Int32} (h : j ≠ k) : upd f k x j = f j := if_neg h
theorem pk_sub {a b : Nat} (h : b ≤ a) : nI a - nI b = nI (a - b) := by
  obtain ⟨c, rfl⟩ : ∃ c, a = c + b := ⟨a - b, by omega⟩
  rw [← nI_add, Int32.add_sub_cancel, Nat.add_sub_cancel]
theorem pk_mul (a b : Nat) : nI a * nI b = nI (a * b) := (Int32.ofNat_mul a b).symm
theorem pk_div {a d : Nat} (ha : a < 2 ^ 31) (h0 : 0 < d) (hd : d < 2 ^ 31) : nI a / nI d = nI (a / d) := by
  apply Int32.toInt_inj.mp
  rw [lg_idiv_nonneg (by rw [nI_toInt ha]; omega) (by rw [nI_toInt hd]; omega), nI_toInt ha, nI_toInt hd, nI_toInt (Nat.lt_of_le_of_lt (Nat.div_le_self a d) ha)]
  first | rfl | exact (Int.natCast_ediv _ _).symm
theorem pk_rem {a d : Nat} (ha : a < 2 ^ 31) (h0 : 0 < d) (hd : d < 2 ^ 31) : nI a - nI a / nI d * nI d = nI (a % d) := by
  rw [pk_div ha h0 hd, pk_mul, pk_sub (Nat.div_mul_le_self a d)]
  exact congrArg nI (by have := Nat.div_add_mod' a d; omega)
theorem pk_ix (x : Int32) {n : Nat} (hn : n < 2 ^ 31) : x < 0 ∨ nI n ≤ x ∨ ∃ j : Nat, j < n ∧ x = nI j := by
  by_cases h : x < 0
  · exact Or.inl h
  · obtain ⟨j, hj, rfl⟩ := nI_of h
    by_cases h2 : j < n
    · exact Or.inr (Or.inr ⟨j, h2, rfl⟩)
    · exact Or.inr (Or.inl (nI_le (by omega) hj))
theorem pk_le {x y : Int32} {A B : Prop} (a b : Nat) (f : a ≤ b → A) (g : b < a → B) (hx : x = nI a := by rfl) (hy : y = nI b := by rfl) (ha : a < 2 ^ 31 := by omega) (hb : b < 2 ^ 31 := by omega) : (x ≤ y → A) ∧ (¬ x ≤ y → B) := by
  subst hx hy
  rw [nI_leI ha hb]
  exact ⟨f, fun z => g (by omega)⟩
theorem pk_lt {x y : Int32} {A B : Prop} (a b : Nat) (f : a < b → A) (g : b ≤ a → B) (hx : x = nI a := by rfl) (hy : y = nI b := by rfl) (ha : a < 2 ^ 31 := by omega) (hb : b < 2 ^ 31 := by omega) : (x < y → A) ∧ (¬ x < y → B) := by
  subst hx hy
  rw [nI_ltI ha hb]
  exact ⟨f, fun z => g (by omega)⟩
theorem pk_eq {x y : Int32} {A B : Prop} (a b : Nat) (f : a = b → A) (g : a ≠ b → B) (hx : x = nI a := by rfl) (hy : y = nI b := by rfl) (ha : a < 2 ^ 31 := by omega) (hb : b < 2 ^ 31 := by omega) : (x = y → A) ∧ (¬ x = y → B) := by
  subst hx hy
  rw [nI_eq ha hb]
  exact ⟨f, g⟩
theorem pk_in {x : Int32} (n N : Nat) (h : n < N) (hx : x = nI n := by rfl) (hN : N < 2 ^ 31 := by omega) : vp_in x N := by
  subst hx
  exact vp_in_nI h hN
theorem pk_cl {x : Int32} (n : Nat) (hx : x = nI n := by rfl) (h : n < 2 ^ 31 := by omega) : x.toNatClampNeg = n := by
  subst hx
  exact nI_clamp h
theorem pk_tn {n : Nat} (h : n < 2 ^ 32) : (nI n).toBitVec.toNat = n := Nat.mod_eq_of_lt h
theorem pk_and (x : Int32) {m : Int32} (k : Nat) (hm : m.toBitVec.toNat = 2 ^ k - 1) : x &&& m = nI (x.toBitVec.toNat % 2 ^ k) := by
  apply Int32.toBitVec_inj.mp
  apply BitVec.eq_of_toNat_eq
  rw [Int32.toBitVec_and, BitVec.toNat_and, hm, Nat.and_two_pow_sub_one_eq_mod]
  show _ = (BitVec.ofNat 32 _).toNat
  rw [BitVec.toNat_ofNat]
  exact (Nat.mod_eq_of_lt (Nat.lt_of_le_of_lt (Nat.mod_le _ _) x.toBitVec.isLt)).symm
theorem pk_andN {n : Nat} (h : n < 2 ^ 32) {m : Int32} (k : Nat) (hm : m.toBitVec.toNat = 2 ^ k - 1) : nI n &&& m = nI (n % 2 ^ k) := by
  rw [pk_and _ k hm, pk_tn h]
theorem pk_shr (a s : Int32) (k : Nat) (hs : (s.toBitVec.smod 32).toNat = k) : (a >>> s).toInt = a.toInt >>> k := by
  show (a.toBitVec.sshiftRight (s.toBitVec.smod 32).toNat).toInt = _
  rw [hs, BitVec.toInt_sshiftRight]
  rfl
theorem pk_shrN {n : Nat} (h : n < 2 ^ 31) (s : Int32) (k : Nat) (hs : (s.toBitVec.smod 32).toNat = k) : nI n >>> s = nI (n / 2 ^ k) := by
  apply Int32.toInt_inj.mp
  have h2 : n / 2 ^ k ≤ n := Nat.div_le_self _ _
  rw [pk_shr _ _ k hs, nI_toInt h, nI_toInt (by omega), Int.shiftRight_eq_div_pow]
  rfl
theorem pk_lT {n : Nat} (h : n < 2 ^ 63) : (lN n).toInt = (n : Int) := lg_ofNat_toInt h
theorem pk_lLT {a b : Nat} (ha : a < 2 ^ 63) (hb : b < 2 ^ 63) : lN a < lN b ↔ a < b := by
  rw [Int64.lt_iff_toInt_lt, pk_lT ha, pk_lT hb]; omega
theorem pk_lLE {a b : Nat} (ha : a < 2 ^ 63) (hb : b < 2 ^ 63) : lN a ≤ lN b ↔ a ≤ b := by
  rw [Int64.le_iff_toInt_le, pk_lT ha, pk_lT hb]; omega
end
section
/-! the mathematics: cells copied, the cache against the words, the kept translations against the entries -/
theorem cm_b01 {x : Int32} (h : x = 0 ∨ x = 1) : vp_nar .boolean x = x := by
  rcases h with rfl | rfl <;> rfl
theorem cm_n01 {x : Int32} (h : x = 0 ∨ x = 1) : narrow .boolean (.int x) = .int x := by
  rcases h with rfl | rfl <;> rfl
theorem cm_u0 {f : Nat → Int32} {k j : Nat} (h : upd f k 0 j ≠ 0) : j ≠ k ∧ f j ≠ 0 := by
  by_cases e : j = k
  · subst e
    rw [pk_us] at h
    exact absurd rfl h
  · rw [pk_un e] at h
    exact ⟨e, h⟩
/-- n cells of g from s on, written into f from d on -/
def cm_cp (f g : Nat → Int32) (d s : Nat) : Nat → Nat → Int32
  | 0 => f
  | i + 1 => upd (cm_cp f g d s i) (d + i) (g (s + i))
theorem cm_cp_in {f g : Nat → Int32} {d s : Nat} : ∀ n i : Nat, i < n → cm_cp f g d s n (d + i) = g (s + i) := by
  intro n
  induction n with
  | zero => intro i h; omega
  | succ n ih =>
    intro i h
    show upd (cm_cp f g d s n) (d + n) (g (s + n)) (d + i) = g (s + i)
    by_cases e : i = n
    · subst e
      exact pk_us
    · rw [pk_un (by omega)]
      exact ih i (by omega)
theorem cm_cp_out {f g : Nat → Int32} {d s : Nat} : ∀ n j : Nat, (j < d ∨ d + n ≤ j) → cm_cp f g d s n j = f j := by
  intro n
  induction n with
  | zero => intro j _; rfl
  | succ n ih =>
    intro j h
    show upd (cm_cp f g d s n) (d + n) (g (s + n)) j = f j
    rw [pk_un (by omega)]
    exact ih j (by omega)
/-- the cache (slots below 2 L) over the memory M shows the words W -/
def cm_C (L : Nat) (M SU SD SB C W : Nat → Int32) : Prop :=
  (∀ s, s < 2 * L → SU s ≠ 0 → ∃ b, b < 16 ∧ SB s = nI b ∧ b % L = s / 2) ∧
  (∀ s t, s < 2 * L → t < 2 * L → SU s ≠ 0 → SU t ≠ 0 → SB s = SB t → s = t) ∧
  (∀ s b i, s < 2 * L → b < 16 → i < 4 → SU s ≠ 0 → SB s = nI b → C (s * 4 + i) = W (b * 4 + i)) ∧
  (∀ w, w < 64 → (∀ s, s < 2 * L → SU s ≠ 0 → SB s = nI (w / 4) → SD s = 0) → M w = W w)
theorem cm_C_0 {L : Nat} {SD SB C W : Nat → Int32} : cm_C L W (fun _ => 0) SD SB C W :=
  ⟨fun _ _ h => absurd rfl h, fun _ _ _ _ h => absurd rfl h, fun _ _ _ _ _ _ h => absurd rfl h, fun _ _ _ => rfl⟩
section
variable {L : Nat} {M SU SD SB C W : Nat → Int32} {s b : Nat}
theorem cm_C_wb (h : cm_C L M SU SD SB C W) (hs : s < 2 * L) (hu : SU s ≠ 0) (hb : b < 16) (eb : SB s = nI b) : cm_C L (cm_cp M C (b * 4) (s * 4) 4) SU (upd SD s 0) SB C W := by
  obtain ⟨h1, h2, h3, h4⟩ := h
  refine ⟨h1, h2, h3, fun w hw hc => ?_⟩
  by_cases e : w / 4 = b
  · have e2 : w = b * 4 + w % 4 := by omega
    rw [e2, cm_cp_in 4 (w % 4) (by omega)]
    exact h3 s b _ hs hb (by omega) hu eb
  · rw [cm_cp_out 4 w (by omega)]
    refine h4 w hw fun t ht hut ebt => ?_
    have ne : t ≠ s := by
      intro z
      subst z
      rw [eb, nI_eq (by omega) (by omega)] at ebt
      omega
    have z := hc t ht hut ebt
    rwa [pk_un ne] at z
theorem cm_C_fill (h : cm_C L M SU SD SB C W) (hb : b < 16) (hm : b % L = s / 2) (hn : ∀ t, t < 2 * L → SU t ≠ 0 → SB t ≠ nI b) (hd : SU s ≠ 0 → SD s = 0) : cm_C L M (upd SU s 1) (upd SD s 0) (upd SB s (nI b)) (cm_cp C M (s * 4) (b * 4) 4) W := by
  obtain ⟨h1, h2, h3, h4⟩ := h
  refine ⟨fun t ht hu => ?_, fun t r ht hr hut hur e => ?_, fun t c i ht hc hi hu e => ?_, fun w hw hc => ?_⟩
  · by_cases e : t = s
    · subst e
      exact ⟨b, hb, pk_us, hm⟩
    · rw [pk_un e] at hu ⊢
      exact h1 t ht hu
  · by_cases e1 : t = s
    · by_cases e2 : r = s
      · omega
      · rw [pk_un e2] at hur
        rw [e1, pk_us, pk_un e2] at e
        exact absurd e.symm (hn r hr hur)
    · rw [pk_un e1] at hut
      by_cases e2 : r = s
      · rw [e2, pk_us, pk_un e1] at e
        exact absurd e (hn t ht hut)
      · rw [pk_un e2] at hur
        rw [pk_un e1, pk_un e2] at e
        exact h2 t r ht hr hut hur e
  · by_cases e1 : t = s
    · rw [e1, pk_us, nI_eq (by omega) (by omega)] at e
      subst e
      rw [e1, cm_cp_in 4 i hi]
      refine h4 _ (by omega) fun r hr hur er => ?_
      rw [show (b * 4 + i) / 4 = b by omega] at er
      exact absurd er (hn r hr hur)
    · rw [pk_un e1] at hu e
      rw [cm_cp_out 4 _ (by omega)]
      exact h3 t c i ht hc hi hu e
  · refine h4 w hw fun t ht hut ebt => ?_
    by_cases e1 : t = s
    · subst e1
      exact hd hut
    · have z := hc t ht (by rw [pk_un e1]; exact hut) (by rw [pk_un e1]; exact ebt)
      rwa [pk_un e1] at z
theorem cm_C_st {i : Nat} {v : Int32} (h : cm_C L M SU SD SB C W) (hs : s < 2 * L) (hb : b < 16) (hi : i < 4) (hu : SU s ≠ 0) (eb : SB s = nI b) : cm_C L M SU (upd SD s 1) SB (upd C (s * 4 + i) v) (upd W (b * 4 + i) v) := by
  obtain ⟨h1, h2, h3, h4⟩ := h
  refine ⟨h1, h2, fun t c j ht hc hj hut e => ?_, fun w hw hc => ?_⟩
  · by_cases e1 : t = s
    · have ec : c = b := by
        rw [e1, eb, nI_eq (by omega) (by omega)] at e
        omega
      by_cases e2 : j = i
      · rw [e1, ec, e2, pk_us, pk_us]
      · rw [pk_un (by omega), pk_un (by omega)]
        exact h3 t c j ht hc hj hut e
    · have ec : c ≠ b := by
        intro z
        subst z
        exact e1 (h2 t s ht hs hut hu (e.trans eb.symm))
      rw [pk_un (by omega), pk_un (by omega)]
      exact h3 t c j ht hc hj hut e
  · by_cases e1 : w / 4 = b
    · have z := hc s hs hu (by rw [e1]; exact eb)
      rw [pk_us] at z
      exact absurd z (by decide)
    · rw [pk_un (by omega)]
      refine h4 w hw fun t ht hut ebt => ?_
      have ne : t ≠ s := by
        intro z
        subst z
        rw [eb, nI_eq (by omega) (by omega)] at ebt
        omega
      have z := hc t ht hut ebt
      rwa [pk_un ne] at z
theorem cm_C_dr (h : cm_C L M SU SD SB C W) (hd : SU s ≠ 0 → SD s = 0) : cm_C L M (upd SU s 0) SD SB C W := by
  obtain ⟨h1, h2, h3, h4⟩ := h
  refine ⟨fun t ht hu => h1 t ht (cm_u0 hu).2, fun t r ht hr hut hur e => h2 t r ht hr (cm_u0 hut).2 (cm_u0 hur).2 e, fun t c i ht hc hi hu e => h3 t c i ht hc hi (cm_u0 hu).2 e, fun w hw hc => ?_⟩
  refine h4 w hw fun t ht hut ebt => ?_
  by_cases e1 : t = s
  · subst e1
    exact hd hut
  · exact hc t ht (by rw [pk_un e1]; exact hut) ebt
theorem cm_C_dw {w : Nat} {v : Int32} (h : cm_C L M SU SD SB C W) (hn : ∀ t, t < 2 * L → SU t ≠ 0 → SB t ≠ nI (w / 4)) : cm_C L (upd M w v) SU SD SB C (upd W w v) := by
  obtain ⟨h1, h2, h3, h4⟩ := h
  refine ⟨h1, h2, fun t c j ht hc hj hut e => ?_, fun x hx hc => ?_⟩
  · have ec : c ≠ w / 4 := by
      intro z
      subst z
      exact hn t ht hut e
    rw [pk_un (by omega)]
    exact h3 t c j ht hc hj hut e
  · by_cases e : x = w
    · rw [e, pk_us, pk_us]
    · rw [pk_un e, pk_un e]
      exact h4 x hx hc
end
/-- the kept translations are copies of used entries, each entry at most once -/
def cm_T (B : Nat) (EU EF EW KU KE KF KW : Nat → Int32) : Prop :=
  (∀ j, j < B → KU j ≠ 0 → ∃ e, e < 32 ∧ KE j = nI e ∧ EU e ≠ 0 ∧ KF j = EF e ∧ KW j = EW e) ∧
  (∀ i j, i < B → j < B → KU i ≠ 0 → KU j ≠ 0 → KE i = KE j → i = j)
section
variable {B : Nat} {EU EF EW KU KE KF KW EU' EF' EW' : Nat → Int32} {e j : Nat}
theorem cm_T_no (h : cm_T B EU EF EW KU KE KF KW) (hn : ∀ i, i < B → KU i ≠ 0 → KE i ≠ nI e) (hx : ∀ x, x < 32 → x ≠ e → EU' x = EU x ∧ EF' x = EF x ∧ EW' x = EW x) : cm_T B EU' EF' EW' KU KE KF KW := by
  refine ⟨fun i hi hu => ?_, h.2⟩
  obtain ⟨x, x1, x2, x3, x4, x5⟩ := h.1 i hi hu
  have ne : x ≠ e := fun z => hn i hi hu (z ▸ x2)
  obtain ⟨y1, y2, y3⟩ := hx x x1 ne
  exact ⟨x, x1, x2, by rw [y1]; exact x3, by rw [y2]; exact x4, by rw [y3]; exact x5⟩
theorem cm_T_cl (h : cm_T B EU EF EW KU KE KF KW) : cm_T B EU EF EW (upd KU j 0) KE KF KW :=
  ⟨fun i hi hu => h.1 i hi (cm_u0 hu).2, fun i k hi hk hu hv ee => h.2 i k hi hk (cm_u0 hu).2 (cm_u0 hv).2 ee⟩
theorem cm_T_dr (h : cm_T B EU EF EW KU KE KF KW) (hj : j < B) (hu : KU j ≠ 0) (ej : KE j = nI e) (hx : ∀ x, x < 32 → x ≠ e → EU' x = EU x ∧ EF' x = EF x ∧ EW' x = EW x) : cm_T B EU' EF' EW' (upd KU j 0) KE KF KW :=
  cm_T_no (cm_T_cl h) (fun i hi hv ee => (cm_u0 hv).1 (h.2 i j hi hj (cm_u0 hv).2 hu (ee.trans ej.symm))) hx
theorem cm_T_kp (h : cm_T B EU EF EW KU KE KF KW) (he : e < 32) (hu : EU e ≠ 0) (hn : ∀ i, i < B → KU i ≠ 0 → KE i ≠ nI e) : cm_T B EU EF EW (upd KU j 1) (upd KE j (nI e)) (upd KF j (EF e)) (upd KW j (EW e)) := by
  refine ⟨fun i hi hv => ?_, fun i k hi hk hv hw ee => ?_⟩
  · by_cases z : i = j
    · rw [z]
      exact ⟨e, he, pk_us, hu, pk_us, pk_us⟩
    · rw [pk_un z] at hv
      rw [pk_un z, pk_un z, pk_un z]
      exact h.1 i hi hv
  · by_cases z : i = j
    · by_cases y : k = j
      · omega
      · rw [pk_un y] at hw
        rw [z, pk_us, pk_un y] at ee
        exact absurd ee.symm (hn k hk hw)
    · rw [pk_un z] at hv
      by_cases y : k = j
      · rw [y, pk_us, pk_un z] at ee
        exact absurd ee (hn i hi hv)
      · rw [pk_un y] at hw
        rw [pk_un y, pk_un z] at ee
        exact h.2 i k hi hk hv hw ee
end
/-- the entries against the reference's frames -/
def cm_E (EU EF EW YF : Nat → Int32) : Prop :=
  ∀ e, e < 32 → (EW e = 0 ∨ EW e = 1) ∧ ((EU e = 0 ∧ YF e = -1) ∨ (EU e = 1 ∧ ∃ f, f < 8 ∧ EF e = nI f ∧ YF e = nI f))
section
variable {EU EF EW YF : Nat → Int32} {e f : Nat} {x : Int32}
theorem cm_E_mp (h : cm_E EU EF EW YF) (hf : f < 8) (hx : x = 0 ∨ x = 1) : cm_E (upd EU e 1) (upd EF e (nI f)) (upd EW e x) (upd YF e (nI f)) := by
  intro i hi
  by_cases z : i = e
  · rw [z, pk_us, pk_us, pk_us, pk_us]
    exact ⟨hx, Or.inr ⟨rfl, f, hf, rfl, rfl⟩⟩
  · rw [pk_un z, pk_un z, pk_un z, pk_un z]
    exact h i hi
theorem cm_E_um (h : cm_E EU EF EW YF) : cm_E (upd EU e 0) EF EW (upd YF e (-1)) := by
  intro i hi
  by_cases z : i = e
  · rw [z, pk_us, pk_us]
    exact ⟨(h e (z ▸ hi)).1, Or.inl ⟨rfl, rfl⟩⟩
  · rw [pk_un z, pk_un z]
    exact h i hi
theorem cm_E_pr (h : cm_E EU EF EW YF) : cm_E EU EF (upd EW e 0) YF := by
  intro i hi
  by_cases z : i = e
  · rw [z, pk_us]
    exact ⟨Or.inl rfl, (h e (z ▸ hi)).2⟩
  · rw [pk_un z]
    exact h i hi
end
/-- the writable flags after the first i entries that name frame fr were protected, and how many were set -/
def cm_pw (YF EW : Nat → Int32) (fr : Int32) (i : Nat) : Nat → Int32 := fun j => if j < i ∧ YF j = fr then 0 else EW j
def cm_pn (YF EW : Nat → Int32) (fr : Int32) : Nat → Nat
  | 0 => 0
  | i + 1 => cm_pn YF EW fr i + (if YF i = fr ∧ EW i ≠ 0 then 1 else 0)
section
variable {YF EW : Nat → Int32} {fr : Int32} {i : Nat}
theorem cm_pw_0 : cm_pw YF EW fr 0 = EW := by
  funext j
  exact if_neg (by omega)
theorem cm_pw_at : cm_pw YF EW fr i i = EW i := if_neg (by omega)
theorem cm_pw_y (h : YF i = fr) : upd (cm_pw YF EW fr i) i 0 = cm_pw YF EW fr (i + 1) := by
  funext j
  by_cases z : j = i
  · rw [z, pk_us]
    exact (if_pos ⟨by omega, h⟩).symm
  · rw [pk_un z]
    show (if j < i ∧ YF j = fr then (0 : Int32) else EW j) = (if j < i + 1 ∧ YF j = fr then 0 else EW j)
    have q : (j < i ∧ YF j = fr) ↔ (j < i + 1 ∧ YF j = fr) := ⟨fun a => ⟨by omega, a.2⟩, fun a => ⟨by omega, a.2⟩⟩
    by_cases p : j < i ∧ YF j = fr
    · rw [if_pos p, if_pos (q.mp p)]
    · rw [if_neg p, if_neg (fun a => p (q.mpr a))]
theorem cm_pw_n (h : YF i ≠ fr ∨ EW i = 0) : cm_pw YF EW fr (i + 1) = cm_pw YF EW fr i := by
  funext j
  show (if j < i + 1 ∧ YF j = fr then (0 : Int32) else EW j) = (if j < i ∧ YF j = fr then 0 else EW j)
  by_cases z : j = i
  · rw [z, if_neg (c := i < i ∧ YF i = fr) (by omega)]
    rcases h with h | h
    · exact if_neg (fun a => h a.2)
    · by_cases p : i < i + 1 ∧ YF i = fr
      · rw [if_pos p, h]
      · rw [if_neg p]
  · have q : (j < i + 1 ∧ YF j = fr) ↔ (j < i ∧ YF j = fr) := ⟨fun a => ⟨by omega, a.2⟩, fun a => ⟨by omega, a.2⟩⟩
    by_cases p : j < i ∧ YF j = fr
    · rw [if_pos p, if_pos (q.mpr p)]
    · rw [if_neg p, if_neg (fun a => p (q.mp a))]
theorem cm_pn_y (h : YF i = fr) (h0 : EW i ≠ 0) : cm_pn YF EW fr (i + 1) = cm_pn YF EW fr i + 1 := by
  show cm_pn YF EW fr i + (if YF i = fr ∧ EW i ≠ 0 then 1 else 0) = _
  rw [if_pos ⟨h, h0⟩]
theorem cm_pn_n (h : YF i ≠ fr ∨ EW i = 0) : cm_pn YF EW fr (i + 1) = cm_pn YF EW fr i := by
  have q : ¬ (YF i = fr ∧ EW i ≠ 0) := by
    intro a
    rcases h with h | h
    · exact h a.1
    · exact a.2 h
  show cm_pn YF EW fr i + (if YF i = fr ∧ EW i ≠ 0 then 1 else 0) = _
  rw [if_neg q]
  rfl
end
/-- the words after i steps of a device's copy -/
def cm_dc (W : Nat → Int32) (f t : Nat) : Nat → Nat → Int32
  | 0 => W
  | i + 1 => upd (cm_dc W f t i) (t + i) (cm_dc W f t i (f + i))
end
section
/-! the component's own methods, each with a general post -/
theorem cm_nm1 {n : Nat} (h : n < 2 ^ 31) : ¬ nI n = -1 := by
  intro z
  have a := nI_toInt h
  rw [z] at a
  have b : (-1 : Int32).toInt = -1 := by decide
  omega
theorem cm_vb1 : vp_nar .boolean 1 = 1 := rfl
theorem cm_vb0 : vp_nar .boolean 0 = 0 := rfl
theorem cm_x8 (a b : Nat) : nI a * 8 + nI b = nI (a * 8 + b) := by
  rw [show (8 : Int32) = nI 8 from rfl, pk_mul, nI_add]
theorem cm_8x (a b : Nat) : 8 * nI a + nI b = nI (a * 8 + b) := by
  rw [show (8 : Int32) = nI 8 from rfl, pk_mul, nI_add, Nat.mul_comm]
theorem cm_x4 (a b : Nat) : nI a * 4 + nI b = nI (a * 4 + b) := by
  rw [show (4 : Int32) = nI 4 from rfl, pk_mul, nI_add]
theorem cm_x2 (a b : Nat) : nI a * 2 + nI b = nI (a * 2 + b) := by
  rw [show (2 : Int32) = nI 2 from rfl, pk_mul, nI_add]
theorem cm_d8 {a : Nat} (h : a < 2 ^ 31) : nI a / 8 = nI (a / 8) := pk_div h (d := 8) (by decide) (by decide)
theorem cm_d4 {a : Nat} (h : a < 2 ^ 31) : nI a / 4 = nI (a / 4) := pk_div h (d := 4) (by decide) (by decide)
theorem cm_r8 {a : Nat} (h : a < 2 ^ 31) : nI a - nI a / 8 * 8 = nI (a % 8) := pk_rem h (d := 8) (by decide) (by decide)
theorem cm_r4 {a : Nat} (h : a < 2 ^ 31) : nI a - nI a / 4 * 4 = nI (a % 4) := pk_rem h (d := 4) (by decide) (by decide)
theorem cm_r2 {a : Nat} (h : a < 2 ^ 31) : nI a - nI a / 2 * 2 = nI (a % 2) := pk_rem h (d := 2) (by decide) (by decide)
theorem cm_ib_t {post : Int32 → Prop} {n : Nat} (b : Nat) (h : n < b) (hb : b < 2 ^ 31) (hp : post 1) : wpX_isBelow post (nI n) (nI b) := by
  unfold wpX_isBelow
  exact br_f (nI_pos (by omega)) (br_f (nI_ge h hb) hp)
theorem cm_ib_f {post : Int32 → Prop} {x : Int32} (b : Nat) (h : x < 0 ∨ nI b ≤ x) (hp : post 0) : wpX_isBelow post x (nI b) := by
  unfold wpX_isBelow
  by_cases h0 : x < 0
  · exact br_t h0 hp
  · exact br_f h0 (br_t (h.resolve_left h0) hp)
section
variable {L B k c : Nat} {la : Int32} {M EU EF EW KU KE KF KW SU SD SB C NW W : Nat → Int32}
theorem cm_ft_l {post : Int32 → Prop} {e : Nat} (hB : B ≤ 4) (h0 : (∀ i, i < B → KU i ≠ 0 → KE i ≠ nI e) → post (-1)) (h1 : ∀ j, j < B → KU j ≠ 0 → KE j = nI e → post (nI j)) : ∀ d i : Nat, i + d = B → (∀ x, x < i → KU x ≠ 0 → KE x ≠ nI e) → wX_findTranslation_2 post (nI e) (nI L) (nI B) (nI k) (nI c) la M EU EF EW KU KE KF KW SU SD SB C NW (d + 1) (nI i) := by
  intro d
  induction d with
  | zero =>
    intro i hi hq
    have hle : nI B ≤ nI i := nI_le (by omega) (by omega)
    exact br_t hle (h0 fun x hx => hq x (by omega))
  | succ d ih =>
    intro i hi hq
    have hv : vp_in (nI i) 4 := vp_in_nI (by omega) (by decide)
    have ec : (nI i).toNatClampNeg = i := nI_clamp (by omega)
    have hgt : ¬ nI B ≤ nI i := nI_ge (by omega) (by omega)
    refine br_f hgt ⟨hv, ?_⟩
    rw [ec]
    refine br_c (fun z => nm_r (nI_1 i) (ih (i + 1) (by omega) ?_)) (fun z => ⟨hv, br_c (fun y => h1 i (by omega) z y) (fun y => nm_r (nI_1 i) (ih (i + 1) (by omega) ?_))⟩)
    · intro x hx hu
      by_cases hxi : x = i
      · rw [hxi] at hu
        exact absurd z hu
      · exact hq x (by omega) hu
    · intro x hx hu
      by_cases hxi : x = i
      · rw [hxi]
        exact y
      · exact hq x (by omega) hu
theorem cm_ft {post : Int32 → Prop} {e : Nat} (hB : B ≤ 4) (h0 : (∀ i, i < B → KU i ≠ 0 → KE i ≠ nI e) → post (-1)) (h1 : ∀ j, j < B → KU j ≠ 0 → KE j = nI e → post (nI j)) : wpX_findTranslation post ((nI L), (nI B), (nI k), (nI c), la, M, EU, EF, EW, KU, KE, KF, KW, SU, SD, SB, C, NW) (nI e) := by
  unfold wpX_findTranslation
  exact ⟨B + 1, cm_ft_l hB h0 h1 B 0 (by omega) (fun x hx => absurd hx (by omega))⟩
theorem cm_dt {post : SX → Prop} {e : Nat} {EU0 EF0 EW0 : Nat → Int32} (hB : B ≤ 4) (hT : cm_T B EU0 EF0 EW0 KU KE KF KW) (hx : ∀ x, x < 32 → x ≠ e → EU x = EU0 x ∧ EF x = EF0 x ∧ EW x = EW0 x) (h : ∀ KU' : Nat → Int32, cm_T B EU EF EW KU' KE KF KW → post ((nI L), (nI B), (nI k), (nI c), la, M, EU, EF, EW, KU', KE, KF, KW, SU, SD, SB, C, NW)) : wpX_dropTranslation post ((nI L), (nI B), (nI k), (nI c), la, M, EU, EF, EW, KU, KE, KF, KW, SU, SD, SB, C, NW) (nI e) := by
  unfold wpX_dropTranslation
  dsimp only
  refine cm_ft hB (fun hn => br_t rfl (h _ (cm_T_no hT hn hx))) (fun j hj hu ej => br_f (cm_nm1 (by omega)) ⟨vp_in_nI (by omega) (by decide), ?_⟩)
  rw [nI_clamp (by omega)]
  exact nm_r rfl (h _ (cm_T_dr hT hj hu ej hx))
theorem cm_kt {post : Int32 → SX → Prop} {e : Nat} (hB0 : 1 ≤ B) (hB : B ≤ 4) (hk : k < B) (he : e < 32) (hw : EW e = 0 ∨ EW e = 1) (h : post (nI k) ((nI L), (nI B), (nI ((k + 1) % B)), (nI c), la, M, EU, EF, EW, (upd KU k 1), (upd KE k (nI e)), (upd KF k (EF e)), (upd KW k (EW e)), SU, SD, SB, C, NW)) : wpX_keepTranslation post ((nI L), (nI B), (nI k), (nI c), la, M, EU, EF, EW, KU, KE, KF, KW, SU, SD, SB, C, NW) (nI e) := by
  unfold wpX_keepTranslation
  dsimp only
  have hv : vp_in (nI k) 4 := vp_in_nI (by omega) (by decide)
  have hv2 : vp_in (nI e) 32 := vp_in_nI he (by decide)
  have ek : (nI k).toNatClampNeg = k := nI_clamp (by omega)
  have ee : (nI e).toNatClampNeg = e := nI_clamp (by omega)
  have er : (nI k + 1) - (nI k + 1) / nI B * nI B = nI ((k + 1) % B) := by
    rw [nI_1]
    exact pk_rem (by omega) (by omega) (by omega)
  rw [ek, ee, er, cm_b01 hw]
  exact ⟨nI_ne0 (by omega) (by omega), nm_e ⟨hv, nm_r rfl ⟨hv, nm_e ⟨hv2, hv, nm_e ⟨hv2, hv, nm_e h⟩⟩⟩⟩⟩
theorem cm_to_bad {post : Int32 → SX → Prop} {a tw : Int32} (ha : a < 0 ∨ nI 64 ≤ a) (h : post (-1) ((nI L), (nI B), (nI k), (nI c), la, M, EU, EF, EW, KU, KE, KF, KW, SU, SD, SB, C, NW)) : wpX_translationOf post ((nI L), (nI B), (nI k), (nI c), la, M, EU, EF, EW, KU, KE, KF, KW, SU, SD, SB, C, NW) a tw := by
  unfold wpX_translationOf
  dsimp only
  exact cm_ib_f 64 ha (br_t rfl h)
theorem cm_to {post : Int32 → SX → Prop} (tw : Int32) {n e : Nat} (hn : n < 64) (hc : c < 4) (he : c * 8 + n / 8 = e) (hB0 : 1 ≤ B) (hB : B ≤ 4) (hk : k < B) (hT : cm_T B EU EF EW KU KE KF KW) (hw : EW e = 0 ∨ EW e = 1) (h2 : EU e = 0 → post (-2) ((nI L), (nI B), (nI k), (nI c), la, M, EU, EF, EW, KU, KE, KF, KW, SU, SD, SB, C, NW)) (h3 : EU e ≠ 0 → tw ≠ 0 → EW e = 0 → post (-3) ((nI L), (nI B), (nI k), (nI c), la, M, EU, EF, EW, KU, KE, KF, KW, SU, SD, SB, C, NW)) (h4 : EU e ≠ 0 → (tw = 0 ∨ EW e ≠ 0) → ∀ (k' j : Nat) (KU' KE' KF' KW' : Nat → Int32), k' < B → j < B → cm_T B EU EF EW KU' KE' KF' KW' → KF' j = EF e → post (nI j) ((nI L), (nI B), (nI k'), (nI c), la, M, EU, EF, EW, KU', KE', KF', KW', SU, SD, SB, C, NW)) : wpX_translationOf post ((nI L), (nI B), (nI k), (nI c), la, M, EU, EF, EW, KU, KE, KF, KW, SU, SD, SB, C, NW) (nI n) tw := by
  have he2 : e < 32 := by omega
  have ex : nI c * 8 + nI n / 8 = nI e := by rw [cm_d8 (by omega), cm_x8, he]
  have hv : vp_in (nI e) 32 := vp_in_nI he2 (by decide)
  have ee : (nI e).toNatClampNeg = e := nI_clamp (by omega)
  unfold wpX_translationOf
  dsimp only
  refine cm_ib_t 64 hn (by decide) (br_f (by decide) ⟨by decide, ?_⟩)
  rw [ex]
  refine nm_e (cm_ft hB (fun hno => ?_) (fun j hj hu ej => ?_))
  · refine br_t rfl ⟨hv, ?_⟩
    rw [ee]
    refine br_c h2 (fun hu => ?_)
    have hkeep : (tw = 0 ∨ EW e ≠ 0) → wX_translationOf_85 post (nI e) (-1) (nI L) (nI B) (nI k) (nI c) la M EU EF EW KU KE KF KW SU SD SB C NW := by
      intro ok
      unfold wX_translationOf_85
      exact br_t rfl (cm_kt hB0 hB hk he2 hw (h4 hu ok _ _ _ _ _ _ (Nat.mod_lt _ (by omega)) hk (cm_T_kp hT he2 hu hno) pk_us))
    unfold wX_translationOf_49
    refine br_t rfl ⟨hv, ?_⟩
    rw [ee]
    unfold wX_translationOf_71
    exact br_c (fun z => hkeep (Or.inl z)) (fun z => br_c (fun y => h3 hu z y) (fun y => hkeep (Or.inr y)))
  · obtain ⟨x, hx, e1, e2, e3, e4⟩ := hT.1 j hj hu
    have exe : x = e := by
      rw [e1, nI_eq (by omega) (by omega)] at ej
      exact ej
    subst exe
    have hj4 : vp_in (nI j) 4 := vp_in_nI (by omega) (by decide)
    have hkeep : (tw = 0 ∨ EW x ≠ 0) → wX_translationOf_85 post (nI x) (nI j) (nI L) (nI B) (nI k) (nI c) la M EU EF EW KU KE KF KW SU SD SB C NW := by
      intro ok
      unfold wX_translationOf_85
      exact br_f (cm_nm1 (by omega)) (h4 e2 ok _ _ _ _ _ _ hk hj hT e3)
    refine br_f (cm_nm1 (by omega)) ?_
    unfold wX_translationOf_49
    refine br_f (cm_nm1 (by omega)) ⟨hj4, ?_⟩
    rw [nI_clamp (n := j) (by omega), e4]
    unfold wX_translationOf_71
    exact br_c (fun z => hkeep (Or.inl z)) (fun z => br_c (fun y => h3 e2 z y) (fun y => hkeep (Or.inr y)))
theorem cm_ph {post : Int32 → Prop} {j f n : Nat} (hj : j < 4) (hn : n < 64) (ej : KF j = nI f) (h : post (nI (f * 8 + n % 8))) : wpX_physicalWord post ((nI L), (nI B), (nI k), (nI c), la, M, EU, EF, EW, KU, KE, KF, KW, SU, SD, SB, C, NW) (nI j) (nI n) := by
  unfold wpX_physicalWord
  dsimp only
  rw [nI_clamp (by omega), ej, cm_r8 (by omega), cm_x8]
  exact ⟨vp_in_nI hj (by decide), by decide, h⟩
theorem cm_fs_l {post : Int32 → Prop} {b q : Nat} (hq : q < 4) (h0 : (∀ t, q * 2 ≤ t → t < q * 2 + 2 → SU t ≠ 0 → SB t ≠ nI b) → post (-1)) (h1 : ∀ s, q * 2 ≤ s → s < q * 2 + 2 → SU s ≠ 0 → SB s = nI b → post (nI s)) : ∀ d i : Nat, i + d = q * 2 + 2 → q * 2 ≤ i → (∀ x, q * 2 ≤ x → x < i → SU x ≠ 0 → SB x ≠ nI b) → wX_findSlot_11 post (nI b) (nI (q * 2)) (nI L) (nI B) (nI k) (nI c) la M EU EF EW KU KE KF KW SU SD SB C NW (d + 1) (nI i) := by
  intro d
  induction d with
  | zero =>
    intro i hi hi2 hx
    have hle : nI (q * 2) + 2 ≤ nI i := by
      rw [show (2 : Int32) = nI 2 from rfl, nI_add]
      exact nI_le (by omega) (by omega)
    exact br_t hle (h0 fun x a b => hx x a (by omega))
  | succ d ih =>
    intro i hi hi2 hx
    have hv : vp_in (nI i) 8 := vp_in_nI (by omega) (by decide)
    have ec : (nI i).toNatClampNeg = i := nI_clamp (by omega)
    have hgt : ¬ nI (q * 2) + 2 ≤ nI i := by
      rw [show (2 : Int32) = nI 2 from rfl, nI_add]
      exact nI_ge (by omega) (by omega)
    refine br_f hgt ⟨hv, ?_⟩
    rw [ec]
    refine br_c (fun z => nm_r (nI_1 i) (ih (i + 1) (by omega) (by omega) ?_)) (fun z => ⟨hv, br_c (fun y => h1 i (by omega) (by omega) z y) (fun y => nm_r (nI_1 i) (ih (i + 1) (by omega) (by omega) ?_))⟩)
    · intro x hx1 hx2 hu
      by_cases hxi : x = i
      · rw [hxi] at hu
        exact absurd z hu
      · exact hx x hx1 (by omega) hu
    · intro x hx1 hx2 hu
      by_cases hxi : x = i
      · rw [hxi]
        exact y
      · exact hx x hx1 (by omega) hu
theorem cm_md {a b : Nat} (h1 : 1 ≤ b) (h2 : b ≤ 4) : a % b < b ∧ a % b < 4 := by
  have h := Nat.mod_lt a (show b > 0 by omega)
  omega
theorem cm_fs {post : Int32 → Prop} {b : Nat} (hL1 : 1 ≤ L) (hL : L ≤ 4) (hb : b < 16) (hC : cm_C L M SU SD SB C W) (h0 : (∀ t, t < 2 * L → SU t ≠ 0 → SB t ≠ nI b) → post (-1)) (h1 : ∀ s, s < 2 * L → SU s ≠ 0 → SB s = nI b → post (nI s)) : wpX_findSlot post ((nI L), (nI B), (nI k), (nI c), la, M, EU, EF, EW, KU, KE, KF, KW, SU, SD, SB, C, NW) (nI b) := by
  obtain ⟨hq, hq4⟩ := cm_md (a := b) hL1 hL
  have er : (nI b - nI b / nI L * nI L) * 2 = nI (b % L * 2) := by
    rw [pk_rem (by omega) (by omega) (by omega), show (2 : Int32) = nI 2 from rfl, pk_mul]
  unfold wpX_findSlot
  dsimp only
  rw [er]
  refine ⟨nI_ne0 (by omega) (by omega), nm_e ⟨3, cm_fs_l hq4 (fun hn => h0 fun t ht hu et => ?_) (fun s ha hb2 hu es => h1 s (by omega) hu es) 2 (b % L * 2) rfl (Nat.le_refl _) (fun x a b => absurd b (by omega))⟩⟩
  obtain ⟨x, x1, x2, x3⟩ := hC.1 t ht hu
  rw [et, nI_eq (by omega) (by omega)] at x2
  subst x2
  exact hn t (by omega) (by omega) hu et
theorem cm_wb_l {post : SX → Prop} {s b : Nat} (hs : s < 8) (hb : b < 16) (eb : SB s = nI b) (h : post ((nI L), (nI B), (nI k), (nI c), la, (cm_cp M C (b * 4) (s * 4) 4), EU, EF, EW, KU, KE, KF, KW, SU, (upd SD s 0), SB, C, NW)) : ∀ d i : Nat, i + d = 4 → wX_writeBack_21 post (nI s) (nI L) (nI B) (nI k) (nI c) la (d + 1) (nI i) (cm_cp M C (b * 4) (s * 4) i) EU EF EW KU KE KF KW SU SD SB C NW := by
  have hv : vp_in (nI s) 8 := vp_in_nI hs (by decide)
  have ec : (nI s).toNatClampNeg = s := nI_clamp (by omega)
  intro d
  induction d with
  | zero =>
    intro i hi
    have ei : i = 4 := by omega
    subst ei
    have hle : (4 : Int32) ≤ nI 4 := by decide
    refine br_t hle ⟨hv, ?_⟩
    rw [ec]
    exact nm_r rfl h
  | succ d ih =>
    intro i hi
    have hgt : ¬ (4 : Int32) ≤ nI i := nI_ge (b := 4) (by omega) (by decide)
    refine br_f hgt ?_
    rw [ec, eb, cm_x4, cm_x4, nI_clamp (n := s * 4 + i) (by omega), nI_clamp (n := b * 4 + i) (by omega)]
    exact ⟨hv, vp_in_nI (by omega) (by decide), vp_in_nI (by omega) (by decide), nm_e (nm_r (nI_1 i) (ih (i + 1) (by omega)))⟩
theorem cm_wb {post : SX → Prop} {s : Nat} (hL : L ≤ 4) (hs : s < 2 * L) (hC : cm_C L M SU SD SB C W) (h : ∀ M' SD' : Nat → Int32, cm_C L M' SU SD' SB C W → (SU s ≠ 0 → SD' s = 0) → post ((nI L), (nI B), (nI k), (nI c), la, M', EU, EF, EW, KU, KE, KF, KW, SU, SD', SB, C, NW)) : wpX_writeBack post ((nI L), (nI B), (nI k), (nI c), la, M, EU, EF, EW, KU, KE, KF, KW, SU, SD, SB, C, NW) (nI s) := by
  have hv : vp_in (nI s) 8 := vp_in_nI (by omega) (by decide)
  unfold wpX_writeBack
  dsimp only
  rw [nI_clamp (by omega)]
  refine ⟨hv, br_c (fun z => h M SD hC (fun y => absurd z y)) (fun u => ⟨hv, br_c (fun z => h M SD hC (fun _ => z)) (fun _ => ?_)⟩)⟩
  obtain ⟨b, hb, eb, _⟩ := hC.1 s hs u
  exact ⟨5, cm_wb_l (by omega) hb eb (h _ _ (cm_C_wb hC hs u hb eb) (fun _ => pk_us)) 4 0 rfl⟩
theorem cm_fl_l {post : SX → Prop} {s b : Nat} (hs : s < 8) (hb : b < 16) (h : post ((nI L), (nI B), (nI k), (nI c), la, M, EU, EF, EW, KU, KE, KF, KW, (upd SU s 1), (upd SD s 0), (upd SB s (nI b)), (cm_cp C M (s * 4) (b * 4) 4), NW)) : ∀ d i : Nat, i + d = 4 → wX_fill_2 post (nI s) (nI b) (nI L) (nI B) (nI k) (nI c) la (d + 1) (nI i) M EU EF EW KU KE KF KW SU SD SB (cm_cp C M (s * 4) (b * 4) i) NW := by
  have hv : vp_in (nI s) 8 := vp_in_nI hs (by decide)
  have ec : (nI s).toNatClampNeg = s := nI_clamp (by omega)
  intro d
  induction d with
  | zero =>
    intro i hi
    have ei : i = 4 := by omega
    subst ei
    have hle : (4 : Int32) ≤ nI 4 := by decide
    refine br_t hle ?_
    rw [ec]
    exact ⟨hv, nm_r rfl ⟨hv, nm_r rfl ⟨hv, nm_e h⟩⟩⟩
  | succ d ih =>
    intro i hi
    have hgt : ¬ (4 : Int32) ≤ nI i := nI_ge (b := 4) (by omega) (by decide)
    refine br_f hgt ?_
    rw [cm_x4, cm_x4, nI_clamp (n := s * 4 + i) (by omega), nI_clamp (n := b * 4 + i) (by omega)]
    exact ⟨vp_in_nI (by omega) (by decide), vp_in_nI (by omega) (by decide), nm_e (nm_r (nI_1 i) (ih (i + 1) (by omega)))⟩
theorem cm_fl {post : SX → Prop} {s b : Nat} (hs : s < 8) (hb : b < 16) (h : post ((nI L), (nI B), (nI k), (nI c), la, M, EU, EF, EW, KU, KE, KF, KW, (upd SU s 1), (upd SD s 0), (upd SB s (nI b)), (cm_cp C M (s * 4) (b * 4) 4), NW)) : wpX_fill post ((nI L), (nI B), (nI k), (nI c), la, M, EU, EF, EW, KU, KE, KF, KW, SU, SD, SB, C, NW) (nI s) (nI b) := by
  unfold wpX_fill
  exact ⟨5, cm_fl_l hs hb h 4 0 rfl⟩
theorem cm_s40 {post : Int32 → SX → Prop} {q s : Nat} (hq : q < 4) (hs : s < 8) (h : ∀ y, y < 2 → post (nI s) ((nI L), (nI B), (nI k), (nI c), la, M, EU, EF, EW, KU, KE, KF, KW, SU, SD, SB, C, (upd NW q (nI y)))) : wX_slotWith_40 post (nI q) (nI s) (nI L) (nI B) (nI k) (nI c) la M EU EF EW KU KE KF KW SU SD SB C NW := by
  have e1 : (1 : Int32) - nI (s % 2) = nI (1 - s % 2) := pk_sub (a := 1) (by omega)
  unfold wX_slotWith_40
  rw [cm_r2 (by omega), e1, nI_clamp (by omega)]
  exact ⟨by decide, vp_in_nI hq (by decide), nm_e (h _ (by omega))⟩
/-- the ways that are next: 0 or 1 in each set -/
def cm_N (L : Nat) (NW : Nat → Int32) : Prop := ∀ t, t < L → ∃ y, y < 2 ∧ NW t = nI y
theorem cm_N_u {q y : Nat} (h : cm_N L NW) (hy : y < 2) : cm_N L (upd NW q (nI y)) := by
  intro t ht
  by_cases z : t = q
  · rw [z, pk_us]
    exact ⟨y, hy, rfl⟩
  · rw [pk_un z]
    exact h t ht
theorem cm_sw {post : Int32 → SX → Prop} {b : Nat} (hL1 : 1 ≤ L) (hL : L ≤ 4) (hb : b < 16) (hC : cm_C L M SU SD SB C W) (hN : cm_N L NW) (h : ∀ (s : Nat) (M' SU' SD' SB' C' NW' : Nat → Int32), s < 2 * L → cm_C L M' SU' SD' SB' C' W → cm_N L NW' → SU' s ≠ 0 → SB' s = nI b → post (nI s) ((nI L), (nI B), (nI k), (nI c), la, M', EU, EF, EW, KU, KE, KF, KW, SU', SD', SB', C', NW')) : wpX_slotWith post ((nI L), (nI B), (nI k), (nI c), la, M, EU, EF, EW, KU, KE, KF, KW, SU, SD, SB, C, NW) (nI b) := by
  obtain ⟨hq, hq4⟩ := cm_md (a := b) hL1 hL
  have er : nI b - nI b / nI L * nI L = nI (b % L) := pk_rem (by omega) (by omega) (by omega)
  unfold wpX_slotWith
  dsimp only
  rw [er]
  refine ⟨nI_ne0 (by omega) (by omega), nm_e (cm_fs hL1 hL hb hC (fun hn => br_t rfl ⟨vp_in_nI hq4 (by decide), ?_⟩) (fun s hs hu es => br_f (cm_nm1 (by omega)) (cm_s40 hq4 (by omega) fun y hy => h s _ _ _ _ _ _ hs hC (cm_N_u hN hy) hu es)))⟩
  obtain ⟨y, hy, ey⟩ := hN (b % L) hq
  rw [nI_clamp (by omega), ey, cm_x2]
  refine nm_e (cm_wb hL (by omega) hC fun M' SD' hC' hd => ?_)
  dsimp only
  refine cm_fl (by omega) hb ?_
  dsimp only
  refine cm_s40 hq4 (by omega) fun y' hy' => ?_
  exact h _ _ _ _ _ _ _ (by omega) (cm_C_fill hC' hb (by omega) hn hd) (cm_N_u hN hy') (by rw [pk_us]; decide) pk_us
theorem cm_rc {post : Int32 → SX → Prop} {w : Nat} (hL1 : 1 ≤ L) (hL : L ≤ 4) (hw : w < 64) (hC : cm_C L M SU SD SB C W) (hN : cm_N L NW) (h : ∀ M' SU' SD' SB' C' NW' : Nat → Int32, cm_C L M' SU' SD' SB' C' W → cm_N L NW' → post (W w) ((nI L), (nI B), (nI k), (nI c), la, M', EU, EF, EW, KU, KE, KF, KW, SU', SD', SB', C', NW')) : wpX_readCached post ((nI L), (nI B), (nI k), (nI c), la, M, EU, EF, EW, KU, KE, KF, KW, SU, SD, SB, C, NW) (nI w) := by
  unfold wpX_readCached
  dsimp only
  rw [cm_r4 (by omega), cm_d4 (by omega)]
  refine ⟨by decide, cm_sw hL1 hL (by omega) hC hN fun s M' SU' SD' SB' C' NW' hs hC' hN' hu es => ?_⟩
  dsimp only
  rw [cm_x4, nI_clamp (by omega), hC'.2.2.1 s (w / 4) (w % 4) hs (by omega) (by omega) hu es, show w / 4 * 4 + w % 4 = w by omega]
  exact ⟨by decide, vp_in_nI (by omega) (by decide), h _ _ _ _ _ _ hC' hN'⟩
theorem cm_wc {post : SX → Prop} {w : Nat} {v : Int32} (hL1 : 1 ≤ L) (hL : L ≤ 4) (hw : w < 64) (hC : cm_C L M SU SD SB C W) (hN : cm_N L NW) (h : ∀ M' SU' SD' SB' C' NW' : Nat → Int32, cm_C L M' SU' SD' SB' C' (upd W w v) → cm_N L NW' → post ((nI L), (nI B), (nI k), (nI c), la, M', EU, EF, EW, KU, KE, KF, KW, SU', SD', SB', C', NW')) : wpX_writeCached post ((nI L), (nI B), (nI k), (nI c), la, M, EU, EF, EW, KU, KE, KF, KW, SU, SD, SB, C, NW) (nI w) v := by
  unfold wpX_writeCached
  dsimp only
  rw [cm_r4 (by omega), cm_d4 (by omega)]
  refine ⟨by decide, cm_sw hL1 hL (by omega) hC hN fun s M' SU' SD' SB' C' NW' hs hC' hN' hu es => ?_⟩
  dsimp only
  rw [cm_x4, nI_clamp (n := s * 4 + w % 4) (by omega), nI_clamp (n := s) (by omega)]
  have hC2 := cm_C_st (v := v) hC' hs (show w / 4 < 16 by omega) (show w % 4 < 4 by omega) hu es
  rw [show w / 4 * 4 + w % 4 = w by omega] at hC2
  exact ⟨by decide, vp_in_nI (by omega) (by decide), nm_e ⟨vp_in_nI (by omega) (by decide), nm_r rfl (h _ _ _ _ _ _ hC2 hN')⟩⟩
theorem cm_rd {post : Int32 → SX → Prop} {w : Nat} (hL1 : 1 ≤ L) (hL : L ≤ 4) (hw : w < 64) (hC : cm_C L M SU SD SB C W) (h : ∀ M' SD' : Nat → Int32, cm_C L M' SU SD' SB C W → post (W w) ((nI L), (nI B), (nI k), (nI c), la, M', EU, EF, EW, KU, KE, KF, KW, SU, SD', SB, C, NW)) : wpX_readByDevice post ((nI L), (nI B), (nI k), (nI c), la, M, EU, EF, EW, KU, KE, KF, KW, SU, SD, SB, C, NW) (nI w) := by
  have hv : vp_in (nI w) 64 := vp_in_nI hw (by decide)
  unfold wpX_readByDevice
  dsimp only
  rw [cm_d4 (by omega), nI_clamp (by omega)]
  refine ⟨by decide, cm_fs hL1 hL (by omega) hC (fun hn => br_t rfl ⟨hv, ?_⟩) (fun s hs hu es => br_f (cm_nm1 (by omega)) (cm_wb hL hs hC fun M' SD' hC' hd => ⟨hv, ?_⟩))⟩
  · rw [hC.2.2.2 w hw (fun s hs hu es => absurd es (hn s hs hu))]
    exact h _ _ hC
  · have e : M' w = W w := hC'.2.2.2 w hw (fun t ht htu et => by
      have ts : t = s := hC.2.1 t s ht hs htu hu (et.trans es.symm)
      rw [ts]
      exact hd hu)
    dsimp only
    rw [e]
    exact h _ _ hC'
theorem cm_wd {post : SX → Prop} {w : Nat} {v : Int32} (hL1 : 1 ≤ L) (hL : L ≤ 4) (hw : w < 64) (hC : cm_C L M SU SD SB C W) (h : ∀ M' SU' SD' : Nat → Int32, cm_C L M' SU' SD' SB C (upd W w v) → post ((nI L), (nI B), (nI k), (nI c), la, M', EU, EF, EW, KU, KE, KF, KW, SU', SD', SB, C, NW)) : wpX_writeByDevice post ((nI L), (nI B), (nI k), (nI c), la, M, EU, EF, EW, KU, KE, KF, KW, SU, SD, SB, C, NW) (nI w) v := by
  have hv : vp_in (nI w) 64 := vp_in_nI hw (by decide)
  unfold wpX_writeByDevice
  dsimp only
  rw [cm_d4 (by omega), nI_clamp (by omega)]
  refine ⟨by decide, cm_fs hL1 hL (by omega) hC (fun hn => br_t rfl ⟨hv, nm_e (h _ _ _ (cm_C_dw hC hn))⟩) (fun s hs hu es => br_f (cm_nm1 (by omega)) (cm_wb hL hs hC fun M' SD' hC' hd => ?_))⟩
  dsimp only
  rw [nI_clamp (by omega)]
  refine ⟨vp_in_nI (by omega) (by decide), nm_r rfl ⟨hv, nm_e (h _ _ _ (cm_C_dw (cm_C_dr hC' hd) fun t ht htu et => ?_))⟩⟩
  exact (cm_u0 htu).1 (hC.2.1 t s ht hs (cm_u0 htu).2 hu (et.trans es.symm))
end
end
section
/-! the reference's methods, and the relation -/
theorem cm_ix (x : Int32) (b : Nat) (hb : b < 2 ^ 31) : (x < 0 ∨ nI b ≤ x) ∨ ∃ j : Nat, j < b ∧ x = nI j := by
  rcases pk_ix x hb with h | h | h
  · exact Or.inl (Or.inl h)
  · exact Or.inl (Or.inr h)
  · exact Or.inr h
theorem cm_gt {x : Int32} {b : Nat} (hb : b + 1 < 2 ^ 31) (h0 : ¬ x < 0) (h : x < 0 ∨ nI (b + 1) ≤ x) : nI b < x := by
  obtain ⟨j, hj, rfl⟩ := nI_of h0
  have a := h.resolve_left h0
  rw [nI_leI hb hj] at a
  exact nI_lt (by omega) hj
theorem cm_sh3 {n : Nat} (h : n < 2 ^ 31) : nI n >>> ((3 : Int32) &&& 31) = nI (n / 8) := pk_shrN h _ 3 (by decide)
theorem cm_an7 {n : Nat} (h : n < 2 ^ 31) : nI n &&& 7 = nI (n % 8) := pk_andN (by omega) 3 (by decide)
section
variable {c : Nat} {la : Int32} {W YF EW : Nat → Int32}
theorem cm_yp_t {post : Int32 → Prop} {v : SY} {n : Nat} (h : n < 8) (hp : post 1) : wpY_isPage post v (nI n) := by
  obtain ⟨a1, a2, a3, a4, a5⟩ := v
  exact br_f (nI_pos (by omega)) (br_f (nI_nlt (a := 7) (by omega) (by decide)) hp)
theorem cm_yp_f {post : Int32 → Prop} {v : SY} {x : Int32} (h : x < 0 ∨ nI 8 ≤ x) (hp : post 0) : wpY_isPage post v x := by
  obtain ⟨a1, a2, a3, a4, a5⟩ := v
  by_cases h0 : x < 0
  · exact br_t h0 hp
  · exact br_f h0 (br_t (cm_gt (b := 7) (by decide) h0 h) hp)
theorem cm_ys_t {post : Int32 → Prop} {v : SY} {n : Nat} (h : n < 4) (hp : post 1) : wpY_isSpace post v (nI n) := by
  obtain ⟨a1, a2, a3, a4, a5⟩ := v
  exact br_f (nI_pos (by omega)) (br_f (nI_nlt (a := 3) (by omega) (by decide)) hp)
theorem cm_ys_f {post : Int32 → Prop} {v : SY} {x : Int32} (h : x < 0 ∨ nI 4 ≤ x) (hp : post 0) : wpY_isSpace post v x := by
  obtain ⟨a1, a2, a3, a4, a5⟩ := v
  by_cases h0 : x < 0
  · exact br_t h0 hp
  · exact br_f h0 (br_t (cm_gt (b := 3) (by decide) h0 h) hp)
theorem cm_yw_t {post : Int32 → Prop} {v : SY} {n : Nat} (h : n < 64) (hp : post 1) : wpY_isWord post v (nI n) := by
  obtain ⟨a1, a2, a3, a4, a5⟩ := v
  exact br_f (nI_pos (by omega)) (br_f (nI_nlt (a := 63) (by omega) (by decide)) hp)
theorem cm_yw_f {post : Int32 → Prop} {v : SY} {x : Int32} (h : x < 0 ∨ nI 64 ≤ x) (hp : post 0) : wpY_isWord post v x := by
  obtain ⟨a1, a2, a3, a4, a5⟩ := v
  by_cases h0 : x < 0
  · exact br_t h0 hp
  · exact br_f h0 (br_t (cm_gt (b := 63) (by decide) h0 h) hp)
theorem cm_yt_bad {post : Int32 → Prop} {a : Int32} (ha : a < 0 ∨ nI 64 ≤ a) (h : post (-1)) : wpY_translate post ((nI c), la, W, YF, EW) a := by
  unfold wpY_translate
  dsimp only
  exact cm_yw_f ha (br_t rfl h)
theorem cm_yt_no {post : Int32 → Prop} {n e : Nat} (hn : n < 64) (hc : c < 4) (he : c * 8 + n / 8 = e) (hy : YF e = -1) (h : post (-2)) : wpY_translate post ((nI c), la, W, YF, EW) (nI n) := by
  unfold wpY_translate
  dsimp only
  refine cm_yw_t hn (br_f (by decide) ?_)
  rw [cm_sh3 (by omega), cm_8x, he, nI_clamp (by omega), hy]
  exact ⟨vp_in_nI (by omega) (by decide), nm_e (br_f (by decide) h)⟩
theorem cm_yt_ok {post : Int32 → Prop} {n e f : Nat} (hn : n < 64) (hc : c < 4) (he : c * 8 + n / 8 = e) (hf : f < 8) (hy : YF e = nI f) (h : post (nI (f * 8 + n % 8))) : wpY_translate post ((nI c), la, W, YF, EW) (nI n) := by
  unfold wpY_translate
  dsimp only
  refine cm_yw_t hn (br_f (by decide) ?_)
  rw [cm_sh3 (by omega), cm_8x, he, nI_clamp (by omega), hy, cm_an7 (by omega)]
  refine ⟨vp_in_nI (by omega) (by decide), nm_e (br_t (nI_pos' (by omega)) ?_)⟩
  rw [cm_8x]
  exact h
theorem cm_yst_bad {post : Int32 → SY → Prop} {a v : Int32} (ha : a < 0 ∨ nI 64 ≤ a) (h : post (-1) ((nI c), la, W, YF, EW)) : wpY_store post ((nI c), la, W, YF, EW) a v := by
  unfold wpY_store
  dsimp only
  exact cm_yt_bad ha (br_f (by decide) h)
theorem cm_yst_no {post : Int32 → SY → Prop} {v : Int32} {n e : Nat} (hn : n < 64) (hc : c < 4) (he : c * 8 + n / 8 = e) (hy : YF e = -1) (h : post (-2) ((nI c), la, W, YF, EW)) : wpY_store post ((nI c), la, W, YF, EW) (nI n) v := by
  unfold wpY_store
  dsimp only
  exact cm_yt_no hn hc he hy (br_f (by decide) h)
theorem cm_yst_ro {post : Int32 → SY → Prop} {v : Int32} {n e f : Nat} (hn : n < 64) (hc : c < 4) (he : c * 8 + n / 8 = e) (hf : f < 8) (hy : YF e = nI f) (hw : EW e = 0) (h : post (-3) ((nI c), la, W, YF, EW)) : wpY_store post ((nI c), la, W, YF, EW) (nI n) v := by
  unfold wpY_store
  dsimp only
  refine cm_yt_ok hn hc he hf hy (br_t (nI_pos' (by omega)) ?_)
  rw [cm_sh3 (by omega), cm_8x, he, nI_clamp (n := e) (by omega)]
  exact ⟨vp_in_nI (by omega) (by decide), br_t hw h⟩
theorem cm_yst_ok {post : Int32 → SY → Prop} {v : Int32} {n e f : Nat} (hn : n < 64) (hc : c < 4) (he : c * 8 + n / 8 = e) (hf : f < 8) (hy : YF e = nI f) (hw : EW e ≠ 0) (h : post 0 ((nI c), la, (upd W (f * 8 + n % 8) v), YF, EW)) : wpY_store post ((nI c), la, W, YF, EW) (nI n) v := by
  unfold wpY_store
  dsimp only
  refine cm_yt_ok hn hc he hf hy (br_t (nI_pos' (by omega)) ?_)
  rw [cm_sh3 (by omega), cm_8x, he, nI_clamp (n := e) (by omega), nI_clamp (n := f * 8 + n % 8) (by omega)]
  exact ⟨vp_in_nI (by omega) (by decide), br_f hw ⟨vp_in_nI (by omega) (by decide), nm_e h⟩⟩
theorem cm_ymp {post : Int32 → SY → Prop} {x z : Int32} {s p f e : Nat} (hs : s < 4) (hp : p < 8) (hf : f < 8) (he : s * 8 + p = e) (hx : x = 0 ∨ x = 1) (hz : (YF e = -1 ∧ z = 0) ∨ (∃ g, g < 8 ∧ YF e = nI g ∧ z = 1)) (h : post z ((nI c), la, W, (upd YF e (nI f)), (upd EW e x))) : wpY_map post ((nI c), la, W, YF, EW) (nI s) (nI p) (nI f) x := by
  have hv : vp_in (nI e) 32 := vp_in_nI (by omega) (by decide)
  unfold wpY_map
  dsimp only
  refine cm_ys_t hs (br_f (by decide) (cm_yp_t hp (br_f (by decide) (cm_yp_t hf (br_f (by decide) ?_)))))
  unfold wY_map_45
  rw [cm_8x, he, nI_clamp (by omega), cm_b01 hx]
  refine ⟨hv, ?_⟩
  rcases hz with ⟨a, rfl⟩ | ⟨g, hg, a, rfl⟩
  · rw [a]
    exact br_f (by decide) ⟨hv, nm_e ⟨hv, nm_e h⟩⟩
  · rw [a]
    exact br_t (nI_pos' (by omega)) ⟨hv, nm_e ⟨hv, nm_e h⟩⟩
theorem cm_yum {post : Int32 → SY → Prop} {s p e : Nat} (hs : s < 4) (hp : p < 8) (he : s * 8 + p = e) (h0 : YF e = -1 → post (-2) ((nI c), la, W, YF, EW)) (h1 : YF e ≠ -1 → post 0 ((nI c), la, W, (upd YF e (-1)), EW)) (hy : YF e = -1 ∨ ∃ g, g < 8 ∧ YF e = nI g) : wpY_unmap post ((nI c), la, W, YF, EW) (nI s) (nI p) := by
  have hv : vp_in (nI e) 32 := vp_in_nI (by omega) (by decide)
  unfold wpY_unmap
  dsimp only
  refine cm_ys_t hs (br_f (by decide) (cm_yp_t hp (br_f (by decide) ?_)))
  rw [cm_8x, he, nI_clamp (by omega)]
  refine ⟨hv, ?_⟩
  rcases hy with a | ⟨g, hg, a⟩
  · have b : ¬ 0 ≤ YF e := by rw [a]; decide
    exact br_f b (h0 a)
  · have b : 0 ≤ YF e := by rw [a]; exact nI_pos' (by omega)
    exact br_t b ⟨hv, nm_e (h1 (by rw [a]; exact cm_nm1 (by omega)))⟩
theorem cm_ypr_l {post : Int32 → SY → Prop} {f : Nat} (h : post (nI (cm_pn YF EW (nI f) 32)) ((nI c), la, W, YF, (cm_pw YF EW (nI f) 32))) : ∀ d i : Nat, i + d = 32 → wY_protect_14 post (nI f) (nI c) la (d + 1) (nI (cm_pn YF EW (nI f) i)) (nI i) W YF (cm_pw YF EW (nI f) i) := by
  intro d
  induction d with
  | zero =>
    intro i hi
    have ei : i = 32 := by omega
    subst ei
    have hle : (32 : Int32) ≤ nI 32 := by decide
    exact br_t hle h
  | succ d ih =>
    intro i hi
    have hgt : ¬ (32 : Int32) ≤ nI i := nI_ge (b := 32) (by omega) (by decide)
    have hv : vp_in (nI i) 32 := vp_in_nI (by omega) (by decide)
    have t := ih (i + 1) (by omega)
    refine br_f hgt ⟨hv, ?_⟩
    rw [nI_clamp (by omega), cm_pw_at]
    by_cases hy : YF i = nI f
    · rw [← cm_pw_y hy] at t
      refine br_t hy ⟨hv, ?_⟩
      by_cases hw : EW i = 0
      · rw [cm_pn_n (Or.inr hw)] at t
        exact br_t hw ⟨hv, nm_r rfl (nm_r (nI_1 i) t)⟩
      · rw [cm_pn_y hy hw] at t
        exact br_f hw (nm_r (nI_1 _) ⟨hv, nm_r rfl (nm_r (nI_1 i) t)⟩)
    · rw [cm_pn_n (Or.inl hy), cm_pw_n (Or.inl hy)] at t
      exact br_f hy (nm_r (nI_1 i) t)
theorem cm_ydc_l {post : Int32 → SY → Prop} {f t m : Nat} (hf : f + m ≤ 64) (ht : t + m ≤ 64) (h : post (nI m) ((nI c), la, (cm_dc W f t m), YF, EW)) : ∀ d i : Nat, i + d = m → wY_deviceCopy_53 post (nI f) (nI t) (nI m) (nI c) la (d + 1) (nI i) (cm_dc W f t i) YF EW := by
  intro d
  induction d with
  | zero =>
    intro i hi
    have ei : i = m := by omega
    subst ei
    have hle : nI i ≤ nI i := nI_le (Nat.le_refl _) (by omega)
    exact br_t hle h
  | succ d ih =>
    intro i hi
    have hgt : ¬ nI m ≤ nI i := nI_ge (by omega) (by omega)
    refine br_f hgt ?_
    rw [nI_add f i, nI_add t i, nI_clamp (n := f + i) (by omega), nI_clamp (n := t + i) (by omega)]
    exact ⟨vp_in_nI (by omega) (by decide), vp_in_nI (by omega) (by decide), nm_e (nm_r (nI_1 i) (ih (i + 1) (by omega)))⟩
theorem cm_yi_l {post : SY → Prop} {a b : Int32} (h : ∀ YF' : Nat → Int32, (∀ j, j < 32 → YF' j = -1) → post (a, b, W, YF', EW)) : ∀ (d i : Nat) (YF' : Nat → Int32), i + d = 32 → (∀ j, j < i → YF' j = -1) → wY_init_40 post a b (d + 1) (nI i) W YF' EW := by
  intro d
  induction d with
  | zero =>
    intro i YF' hi hy
    have ei : i = 32 := by omega
    subst ei
    have hle : (32 : Int32) ≤ nI 32 := by decide
    exact br_t hle (h _ hy)
  | succ d ih =>
    intro i YF' hi hy
    have hgt : ¬ (32 : Int32) ≤ nI i := nI_ge (b := 32) (by omega) (by decide)
    refine br_f hgt ?_
    rw [nI_clamp (by omega)]
    refine ⟨vp_in_nI (by omega) (by decide), nm_e (nm_r (nI_1 i) (ih (i + 1) _ (by omega) fun j hj => ?_))⟩
    by_cases z : j = i
    · rw [z, pk_us]
    · rw [pk_un z]
      exact hy j (by omega)
end
section
variable {EU EF EW YF : Nat → Int32} {e : Nat}
theorem cm_E_0 (h : cm_E EU EF EW YF) (he : e < 32) (z : EU e = 0) : YF e = -1 := by
  rcases (h e he).2 with a | a
  · exact a.2
  · rw [a.1] at z
    exact absurd z (by decide)
theorem cm_E_1 (h : cm_E EU EF EW YF) (he : e < 32) (z : EU e ≠ 0) : ∃ f, f < 8 ∧ EF e = nI f ∧ YF e = nI f := by
  rcases (h e he).2 with a | a
  · exact absurd a.1 z
  · exact a.2
theorem cm_E_pw {fr : Int32} {i : Nat} (h : cm_E EU EF EW YF) : cm_E EU EF (cm_pw YF EW fr i) YF := by
  intro x hx
  refine ⟨?_, (h x hx).2⟩
  show (if x < i ∧ YF x = fr then (0 : Int32) else EW x) = 0 ∨ (if x < i ∧ YF x = fr then (0 : Int32) else EW x) = 1
  by_cases p : x < i ∧ YF x = fr
  · rw [if_pos p]
    exact Or.inl rfl
  · rw [if_neg p]
    exact (h x hx).1
end
/-- sizes and places -/
def cm_P (L B k c : Nat) : Prop := 1 ≤ L ∧ L ≤ 4 ∧ 1 ≤ B ∧ B ≤ 4 ∧ k < B ∧ c < 4
def i_Rel (_ : Nat) (u : SX) (v : SY) : Prop := ∃ (L B k c : Nat) (la : Int32) (M EU EF EW KU KE KF KW SU SD SB C NW W YF : Nat → Int32), u = ((nI L), (nI B), (nI k), (nI c), la, M, EU, EF, EW, KU, KE, KF, KW, SU, SD, SB, C, NW) ∧ v = ((nI c), la, W, YF, EW) ∧ cm_P L B k c ∧ cm_T B EU EF EW KU KE KF KW ∧ cm_E EU EF EW YF ∧ cm_C L M SU SD SB C W ∧ cm_N L NW
theorem cm_mk {n L B k c : Nat} {la : Int32} {M EU EF EW KU KE KF KW SU SD SB C NW W YF : Nat → Int32} (hP : cm_P L B k c) (hT : cm_T B EU EF EW KU KE KF KW) (hE : cm_E EU EF EW YF) (hC : cm_C L M SU SD SB C W) (hN : cm_N L NW) : i_Rel n ((nI L), (nI B), (nI k), (nI c), la, M, EU, EF, EW, KU, KE, KF, KW, SU, SD, SB, C, NW) ((nI c), la, W, YF, EW) :=
  ⟨L, B, k, c, la, M, EU, EF, EW, KU, KE, KF, KW, SU, SD, SB, C, NW, W, YF, rfl, rfl, hP, hT, hE, hC, hN⟩
theorem i_up {k : Nat} {u : SX} {v : SY} (h : i_Rel k u v) : i_Rel (k + 5) u v := h
end
section
/-! the loops of protect and deviceCopy, and what is owed -/
section
variable {L B k c : Nat} {la : Int32} {M EU EF EW KU KE KF KW SU SD SB C NW W YF : Nat → Int32}
theorem cm_pr_l {post : Int32 → SX → Prop} {f : Nat} (hf : f < 8) (hB : B ≤ 4) (hE : cm_E EU EF EW YF) (h : ∀ KU' : Nat → Int32, cm_T B EU EF (cm_pw YF EW (nI f) 32) KU' KE KF KW → post (nI (cm_pn YF EW (nI f) 32)) ((nI L), (nI B), (nI k), (nI c), la, M, EU, EF, (cm_pw YF EW (nI f) 32), KU', KE, KF, KW, SU, SD, SB, C, NW)) : ∀ (d i : Nat) (KU' : Nat → Int32), i + d = 32 → cm_T B EU EF (cm_pw YF EW (nI f) i) KU' KE KF KW → wX_protect_15 post (nI f) (d + 1) (nI (cm_pn YF EW (nI f) i)) (nI i) (nI L) (nI B) (nI k) (nI c) la M EU EF (cm_pw YF EW (nI f) i) KU' KE KF KW SU SD SB C NW := by
  intro d
  induction d with
  | zero =>
    intro i KU' hi hT
    have ei : i = 32 := by omega
    subst ei
    have hle : (32 : Int32) ≤ nI 32 := by decide
    exact br_t hle (h _ hT)
  | succ d ih =>
    intro i KU' hi hT
    have hi32 : i < 32 := by omega
    have hgt : ¬ (32 : Int32) ≤ nI i := nI_ge (b := 32) (by omega) (by decide)
    have hv : vp_in (nI i) 32 := vp_in_nI hi32 (by decide)
    have nx : (YF i ≠ nI f ∨ EW i = 0) → wX_protect_15 post (nI f) (d + 1) (nI (cm_pn YF EW (nI f) i)) (nI (i + 1)) (nI L) (nI B) (nI k) (nI c) la M EU EF (cm_pw YF EW (nI f) i) KU' KE KF KW SU SD SB C NW := by
      intro z
      have t := ih (i + 1) KU' (by omega)
      rw [cm_pn_n z, cm_pw_n z] at t
      exact t hT
    refine br_f hgt ⟨hv, ?_⟩
    rw [nI_clamp (by omega), cm_pw_at]
    by_cases hu : EU i = 0
    · have ne : YF i ≠ nI f := by
        rw [cm_E_0 hE hi32 hu]
        exact fun z => cm_nm1 (by omega) z.symm
      exact br_t hu (nm_r (nI_1 i) (nx (Or.inl ne)))
    · obtain ⟨g, hg, e1, e2⟩ := cm_E_1 hE hi32 hu
      refine br_f hu ⟨hv, ?_⟩
      by_cases hgf : g = f
      · subst hgf
        refine br_t e1 ⟨hv, ?_⟩
        by_cases hw : EW i = 0
        · exact br_t hw (nm_r (nI_1 i) (nx (Or.inr hw)))
        · refine br_f hw ⟨hv, nm_r rfl ?_⟩
          refine cm_dt hB hT (fun x _ hx => ⟨rfl, rfl, pk_un hx⟩) fun KU2 hT2 => ?_
          dsimp only
          have t := ih (i + 1) KU2 (by omega)
          rw [cm_pn_y e2 hw, ← cm_pw_y e2] at t
          exact nm_r (nI_1 _) (nm_r (nI_1 i) (t hT2))
      · have ne : YF i ≠ nI f := by
          rw [e2]
          intro z
          rw [nI_eq (by omega) (by omega)] at z
          exact hgf z
        have ne2 : ¬ EF i = nI f := by
          rw [e1, ← e2]
          exact ne
        exact br_f ne2 (nm_r (nI_1 i) (nx (Or.inl ne)))
theorem cm_dc_l {post : Int32 → SX → Prop} {f t m : Nat} (hL1 : 1 ≤ L) (hL : L ≤ 4) (hf : f + m ≤ 64) (ht : t + m ≤ 64) (h : ∀ M' SU' SD' : Nat → Int32, cm_C L M' SU' SD' SB C (cm_dc W f t m) → post (nI m) ((nI L), (nI B), (nI k), (nI c), la, M', EU, EF, EW, KU, KE, KF, KW, SU', SD', SB, C, NW)) : ∀ (d i : Nat) (M' SU' SD' : Nat → Int32), i + d = m → cm_C L M' SU' SD' SB C (cm_dc W f t i) → wX_deviceCopy_43 post (nI f) (nI t) (nI m) (d + 1) (nI i) (nI L) (nI B) (nI k) (nI c) la M' EU EF EW KU KE KF KW SU' SD' SB C NW := by
  intro d
  induction d with
  | zero =>
    intro i M' SU' SD' hi hC
    have ei : i = m := by omega
    subst ei
    have hle : nI i ≤ nI i := nI_le (Nat.le_refl _) (by omega)
    exact br_t hle (h _ _ _ hC)
  | succ d ih =>
    intro i M' SU' SD' hi hC
    have hgt : ¬ nI m ≤ nI i := nI_ge (by omega) (by omega)
    refine br_f hgt ?_
    rw [nI_add f i, nI_add t i]
    refine cm_rd hL1 hL (by omega) hC fun M2 SD2 hC2 => ?_
    dsimp only
    refine cm_wd hL1 hL (by omega) hC2 fun M3 SU3 SD3 hC3 => ?_
    dsimp only
    exact nm_r (nI_1 i) (ih (i + 1) _ _ _ (by omega) hC3)
end
theorem cm_cl {post : Int32 → Prop} {x : Int32} (h : ∀ n, 1 ≤ n → n ≤ 4 → post (nI n)) : wpX_clamp post x 4 := by
  unfold wpX_clamp
  refine br_c (fun h1 => br_c (fun h2 => ?_) (fun _ => h 4 (by omega) (by omega))) (fun _ => h 1 (by omega) (by omega))
  have h0 : ¬ x < 0 := Int32.not_lt.mpr (Int32.le_trans (by decide) h1)
  obtain ⟨j, hj, rfl⟩ := nI_of2 (M := 4) (n := 4) (by decide) h0 h2
  have a : nI 1 ≤ nI j := h1
  rw [nI_leI (by omega) (by omega)] at a
  exact h j a hj
theorem i_vc0 (k0 : Int32) (k1 : Int32) : wpX_init (fun u => wpY_init (fun v => i_Rel 2 u v) k0 k1) k0 k1 := by
  unfold wpX_init
  refine cm_cl fun n1 a1 b1 => cm_cl fun n2 a2 b2 => ?_
  unfold wpY_init
  refine ⟨33, cm_yi_l (fun YF' hy => ?_) 32 0 _ rfl (fun j hj => absurd hj (by omega))⟩
  refine ⟨n1, n2, 0, 0, 0, (fun _ => 0), (fun _ => 0), (fun _ => 0), (fun _ => 0), (fun _ => 0), (fun _ => 0), (fun _ => 0), (fun _ => 0), (fun _ => 0), (fun _ => 0), (fun _ => 0), (fun _ => 0), (fun _ => 0), (fun _ => 0), YF', rfl, rfl, ⟨a1, b1, a2, b2, by omega, by omega⟩, ⟨fun j hj hu => absurd rfl hu, fun i j hi hj hu => absurd rfl hu⟩, fun e he => ⟨Or.inl rfl, Or.inl ⟨rfl, hy e he⟩⟩, cm_C_0, fun t ht => ⟨0, by omega, rfl⟩⟩
theorem i_vc_enter {k : Nat} {u : SX} {v : SY} (I : i_Rel k u v) (hk : k + 5 ≤ 2562) (v1 : Int32) : wpX_enter (fun r u' => wpY_enter (fun r' v' => r' = r ∧ i_Rel (k + 5) u' v') v v1) u v1 := by
  obtain ⟨L, B, p, c, la, M, EU, EF, EW, KU, KE, KF, KW, SU, SD, SB, C, NW, W, YF, rfl, rfl, ⟨hL1, hL, hB1, hB, hp, hc⟩, hT, hE, hC, hN⟩ := I
  unfold wpX_enter wpY_enter
  dsimp only
  rcases cm_ix v1 4 (by decide) with h | ⟨n, hn, rfl⟩
  · exact cm_ib_f 4 h (br_t rfl (cm_ys_f h (br_t rfl ⟨rfl, cm_mk ⟨hL1, hL, hB1, hB, hp, hc⟩ hT hE hC hN⟩)))
  · exact cm_ib_t 4 hn (by decide) (br_f (by decide) (cm_ys_t hn (br_f (by decide) ⟨rfl, cm_mk ⟨hL1, hL, hB1, hB, hp, hn⟩ hT hE hC hN⟩)))
theorem i_vc_map {k : Nat} {u : SX} {v : SY} (I : i_Rel k u v) (hk : k + 5 ≤ 2562) (v1 : Int32) (v2 : Int32) (v3 : Int32) (v4 : Int32) : wpX_map (fun r u' => wpY_map (fun r' v' => r' = r ∧ i_Rel (k + 5) u' v') v v1 v2 v3 (lw_bz v4)) u v1 v2 v3 (lw_bz v4) := by
  obtain ⟨L, B, p, c, la, M, EU, EF, EW, KU, KE, KF, KW, SU, SD, SB, C, NW, W, YF, rfl, rfl, ⟨hL1, hL, hB1, hB, hp, hc⟩, hT, hE, hC, hN⟩ := I
  have hR := cm_mk (n := k + 5) (la := la) ⟨hL1, hL, hB1, hB, hp, hc⟩ hT hE hC hN
  have hx := lw_bz_01 v4
  generalize lw_bz v4 = x at hx ⊢
  unfold wpX_map
  dsimp only
  rcases cm_ix v1 4 (by decide) with h | ⟨s, hs, rfl⟩
  · refine cm_ib_f 4 h (br_t rfl ?_)
    unfold wpY_map
    exact cm_ys_f h (br_t rfl ⟨rfl, hR⟩)
  rcases cm_ix v2 8 (by decide) with h | ⟨q, hq, rfl⟩
  · refine cm_ib_t 4 hs (by decide) (br_f (by decide) (cm_ib_f 8 h (br_t rfl ?_)))
    unfold wpY_map
    exact cm_ys_t hs (br_f (by decide) (cm_yp_f h (br_t rfl ⟨rfl, hR⟩)))
  rcases cm_ix v3 8 (by decide) with h | ⟨f, hf, rfl⟩
  · refine cm_ib_t 4 hs (by decide) (br_f (by decide) (cm_ib_t 8 hq (by decide) (br_f (by decide) (cm_ib_f 8 h (br_t rfl ?_)))))
    unfold wpY_map
    exact cm_ys_t hs (br_f (by decide) (cm_yp_t hq (br_f (by decide) (cm_yp_f h (br_t rfl ⟨rfl, hR⟩)))))
  obtain ⟨e, he⟩ : ∃ e, s * 8 + q = e := ⟨_, rfl⟩
  have he2 : e < 32 := by omega
  have hv : vp_in (nI e) 32 := vp_in_nI he2 (by decide)
  refine cm_ib_t 4 hs (by decide) (br_f (by decide) (cm_ib_t 8 hq (by decide) (br_f (by decide) (cm_ib_t 8 hf (by decide) (br_f (by decide) ?_)))))
  rw [cm_x8, he]
  refine nm_e ?_
  rw [nI_clamp (by omega), cm_b01 hx]
  refine ⟨hv, nm_e ⟨hv, nm_r rfl ⟨hv, nm_e ⟨hv, nm_e ?_⟩⟩⟩⟩
  refine cm_dt hB hT (fun y _ hy => ⟨pk_un hy, pk_un hy, pk_un hy⟩) fun KU2 hT2 => ?_
  dsimp only
  have hR2 := cm_mk (n := k + 5) (la := la) ⟨hL1, hL, hB1, hB, hp, hc⟩ hT2 (cm_E_mp hE hf hx) hC hN
  refine br_c (fun z => ?_) (fun z => ?_)
  · exact cm_ymp hs hq hf he hx (Or.inl ⟨cm_E_0 hE he2 z, rfl⟩) ⟨rfl, hR2⟩
  · obtain ⟨g, hg, _, e2⟩ := cm_E_1 hE he2 z
    exact cm_ymp hs hq hf he hx (Or.inr ⟨g, hg, e2, rfl⟩) ⟨rfl, hR2⟩
theorem i_vc_unmap {k : Nat} {u : SX} {v : SY} (I : i_Rel k u v) (hk : k + 5 ≤ 2562) (v1 : Int32) (v2 : Int32) : wpX_unmap (fun r u' => wpY_unmap (fun r' v' => r' = r ∧ i_Rel (k + 5) u' v') v v1 v2) u v1 v2 := by
  obtain ⟨L, B, p, c, la, M, EU, EF, EW, KU, KE, KF, KW, SU, SD, SB, C, NW, W, YF, rfl, rfl, ⟨hL1, hL, hB1, hB, hp, hc⟩, hT, hE, hC, hN⟩ := I
  have hR := cm_mk (n := k + 5) (la := la) ⟨hL1, hL, hB1, hB, hp, hc⟩ hT hE hC hN
  unfold wpX_unmap
  dsimp only
  rcases cm_ix v1 4 (by decide) with h | ⟨s, hs, rfl⟩
  · refine cm_ib_f 4 h (br_t rfl ?_)
    unfold wpY_unmap
    exact cm_ys_f h (br_t rfl ⟨rfl, hR⟩)
  rcases cm_ix v2 8 (by decide) with h | ⟨q, hq, rfl⟩
  · refine cm_ib_t 4 hs (by decide) (br_f (by decide) (cm_ib_f 8 h (br_t rfl ?_)))
    unfold wpY_unmap
    exact cm_ys_t hs (br_f (by decide) (cm_yp_f h (br_t rfl ⟨rfl, hR⟩)))
  obtain ⟨e, he⟩ : ∃ e, s * 8 + q = e := ⟨_, rfl⟩
  have he2 : e < 32 := by omega
  have hv : vp_in (nI e) 32 := vp_in_nI he2 (by decide)
  refine cm_ib_t 4 hs (by decide) (br_f (by decide) (cm_ib_t 8 hq (by decide) (br_f (by decide) ?_)))
  rw [cm_x8, he]
  refine nm_e ?_
  rw [nI_clamp (by omega)]
  refine ⟨hv, br_c (fun z => ?_) (fun z => ⟨hv, nm_r rfl ?_⟩)⟩
  · have y := cm_E_0 hE he2 z
    exact cm_yum hs hq he (fun _ => ⟨rfl, hR⟩) (fun w => absurd y w) (Or.inl y)
  · refine cm_dt hB hT (fun y _ hy => ⟨pk_un hy, rfl, rfl⟩) fun KU2 hT2 => ?_
    dsimp only
    have hR2 := cm_mk (n := k + 5) (la := la) ⟨hL1, hL, hB1, hB, hp, hc⟩ hT2 (cm_E_um hE) hC hN
    obtain ⟨g, hg, _, e2⟩ := cm_E_1 hE he2 z
    refine cm_yum hs hq he (fun w => ?_) (fun _ => ⟨rfl, hR2⟩) (Or.inr ⟨g, hg, e2⟩)
    rw [e2] at w
    exact absurd w (cm_nm1 (by omega))
theorem i_vc_protect {k : Nat} {u : SX} {v : SY} (I : i_Rel k u v) (hk : k + 5 ≤ 2562) (v1 : Int32) : wpX_protect (fun r u' => wpY_protect (fun r' v' => r' = r ∧ i_Rel (k + 5) u' v') v v1) u v1 := by
  obtain ⟨L, B, p, c, la, M, EU, EF, EW, KU, KE, KF, KW, SU, SD, SB, C, NW, W, YF, rfl, rfl, ⟨hL1, hL, hB1, hB, hp, hc⟩, hT, hE, hC, hN⟩ := I
  have hR := cm_mk (n := k + 5) (la := la) ⟨hL1, hL, hB1, hB, hp, hc⟩ hT hE hC hN
  unfold wpX_protect
  dsimp only
  rcases cm_ix v1 8 (by decide) with h | ⟨f, hf, rfl⟩
  · refine cm_ib_f 8 h (br_t rfl ?_)
    unfold wpY_protect
    exact cm_yp_f h (br_t rfl ⟨rfl, hR⟩)
  · refine cm_ib_t 8 hf (by decide) (br_f (by decide) ?_)
    have t := cm_pr_l (L := L) (k := p) (c := c) (la := la) (M := M) (SU := SU) (SD := SD) (SB := SB) (C := C) (NW := NW) (KE := KE) (KF := KF) (KW := KW) (post := fun r u' => wpY_protect (fun r' v' => r' = r ∧ i_Rel (k + 5) u' v') ((nI c), la, W, YF, EW) (nI f)) hf hB hE (fun KU2 hT2 => by
      unfold wpY_protect
      refine cm_yp_t hf (br_f (by decide) ?_)
      have y := cm_ypr_l (c := c) (la := la) (W := W) (post := fun r' v' => r' = nI (cm_pn YF EW (nI f) 32) ∧ i_Rel (k + 5) ((nI L), (nI B), (nI p), (nI c), la, M, EU, EF, (cm_pw YF EW (nI f) 32), KU2, KE, KF, KW, SU, SD, SB, C, NW) v') (f := f) (YF := YF) (EW := EW) ⟨rfl, cm_mk ⟨hL1, hL, hB1, hB, hp, hc⟩ hT2 (cm_E_pw hE) hC hN⟩ 32 0 rfl
      rw [cm_pw_0] at y
      exact ⟨33, y⟩) 32 0 KU rfl (by rw [cm_pw_0]; exact hT)
    rw [cm_pw_0] at t
    exact ⟨33, t⟩
theorem i_vc_load {k : Nat} {u : SX} {v : SY} (I : i_Rel k u v) (hk : k + 5 ≤ 2562) (v1 : Int32) : wpX_load (fun r u' => wpY_load (fun r' v' => r' = r ∧ i_Rel (k + 5) u' v') v v1) u v1 := by
  obtain ⟨L, B, p, c, la, M, EU, EF, EW, KU, KE, KF, KW, SU, SD, SB, C, NW, W, YF, rfl, rfl, ⟨hL1, hL, hB1, hB, hp, hc⟩, hT, hE, hC, hN⟩ := I
  have hR := cm_mk (n := k + 5) (la := la) ⟨hL1, hL, hB1, hB, hp, hc⟩ hT hE hC hN
  unfold wpX_load wpY_load
  dsimp only
  rcases cm_ix v1 64 (by decide) with h | ⟨n, hn, rfl⟩
  · exact cm_to_bad h (br_f (by decide) (cm_yt_bad h (br_f (by decide) ⟨rfl, hR⟩)))
  · obtain ⟨e, he⟩ : ∃ e, c * 8 + n / 8 = e := ⟨_, rfl⟩
    have he2 : e < 32 := by omega
    refine cm_to 0 hn hc he hB1 hB hp hT (hE e he2).1 (fun z => ?_) (fun _ z => absurd rfl z) (fun hu _ k' j KU' KE' KF' KW' hk' hj hT' ef => ?_)
    · exact br_f (by decide) (cm_yt_no hn hc he (cm_E_0 hE he2 z) (br_f (by decide) ⟨rfl, hR⟩))
    · obtain ⟨f, hf, e1, e2⟩ := cm_E_1 hE he2 hu
      dsimp only
      refine br_t (nI_pos' (by omega)) (cm_ph (by omega) hn (ef.trans e1) (cm_rc hL1 hL (by omega) hC hN fun M' SU' SD' SB' C' NW' hC' hN' => ?_))
      dsimp only
      refine cm_yt_ok hn hc he hf e2 (br_t (nI_pos' (by omega)) ⟨vp_in_nI (by omega) (by decide), ?_⟩)
      rw [nI_clamp (by omega)]
      exact nm_e ⟨rfl, cm_mk ⟨hL1, hL, hB1, hB, hk', hc⟩ hT' hE hC' hN'⟩
theorem i_vc_translate {k : Nat} {u : SX} {v : SY} (I : i_Rel k u v) (hk : k + 5 ≤ 2562) (v1 : Int32) : wpX_translate (fun r u' => wpY_translate (fun r' => r' = r ∧ i_Rel (k + 5) u' v) v v1) u v1 := by
  obtain ⟨L, B, p, c, la, M, EU, EF, EW, KU, KE, KF, KW, SU, SD, SB, C, NW, W, YF, rfl, rfl, ⟨hL1, hL, hB1, hB, hp, hc⟩, hT, hE, hC, hN⟩ := I
  have hR := cm_mk (n := k + 5) (la := la) ⟨hL1, hL, hB1, hB, hp, hc⟩ hT hE hC hN
  unfold wpX_translate
  dsimp only
  rcases cm_ix v1 64 (by decide) with h | ⟨n, hn, rfl⟩
  · exact cm_to_bad h (br_f (by decide) (cm_yt_bad h ⟨rfl, hR⟩))
  · obtain ⟨e, he⟩ : ∃ e, c * 8 + n / 8 = e := ⟨_, rfl⟩
    have he2 : e < 32 := by omega
    refine cm_to 0 hn hc he hB1 hB hp hT (hE e he2).1 (fun z => ?_) (fun _ z => absurd rfl z) (fun hu _ k' j KU' KE' KF' KW' hk' hj hT' ef => ?_)
    · exact br_f (by decide) (cm_yt_no hn hc he (cm_E_0 hE he2 z) ⟨rfl, hR⟩)
    · obtain ⟨f, hf, e1, e2⟩ := cm_E_1 hE he2 hu
      dsimp only
      refine br_t (nI_pos' (by omega)) (cm_ph (by omega) hn (ef.trans e1) ?_)
      exact cm_yt_ok hn hc he hf e2 ⟨rfl, cm_mk ⟨hL1, hL, hB1, hB, hk', hc⟩ hT' hE hC hN⟩
theorem i_vc_store {k : Nat} {u : SX} {v : SY} (I : i_Rel k u v) (hk : k + 5 ≤ 2562) (v1 : Int32) (v2 : Int32) : wpX_store (fun r u' => wpY_store (fun r' v' => r' = r ∧ i_Rel (k + 5) u' v') v v1 v2) u v1 v2 := by
  obtain ⟨L, B, p, c, la, M, EU, EF, EW, KU, KE, KF, KW, SU, SD, SB, C, NW, W, YF, rfl, rfl, ⟨hL1, hL, hB1, hB, hp, hc⟩, hT, hE, hC, hN⟩ := I
  have hR := cm_mk (n := k + 5) (la := la) ⟨hL1, hL, hB1, hB, hp, hc⟩ hT hE hC hN
  unfold wpX_store
  dsimp only
  rcases cm_ix v1 64 (by decide) with h | ⟨n, hn, rfl⟩
  · exact cm_to_bad h (br_f (by decide) (cm_yst_bad h ⟨rfl, hR⟩))
  · obtain ⟨e, he⟩ : ∃ e, c * 8 + n / 8 = e := ⟨_, rfl⟩
    have he2 : e < 32 := by omega
    refine cm_to 1 hn hc he hB1 hB hp hT (hE e he2).1 (fun z => ?_) (fun hu _ hw => ?_) (fun hu ok k' j KU' KE' KF' KW' hk' hj hT' ef => ?_)
    · exact br_f (by decide) (cm_yst_no hn hc he (cm_E_0 hE he2 z) ⟨rfl, hR⟩)
    · obtain ⟨f, hf, e1, e2⟩ := cm_E_1 hE he2 hu
      exact br_f (by decide) (cm_yst_ro hn hc he hf e2 hw ⟨rfl, hR⟩)
    · obtain ⟨f, hf, e1, e2⟩ := cm_E_1 hE he2 hu
      have hw : EW e ≠ 0 := ok.resolve_left (by decide)
      dsimp only
      refine br_t (nI_pos' (by omega)) (cm_ph (by omega) hn (ef.trans e1) (cm_wc hL1 hL (by omega) hC hN fun M' SU' SD' SB' C' NW' hC' hN' => ?_))
      exact cm_yst_ok hn hc he hf e2 hw ⟨rfl, cm_mk ⟨hL1, hL, hB1, hB, hk', hc⟩ hT' hE hC' hN'⟩
theorem i_vc_add {k : Nat} {u : SX} {v : SY} (I : i_Rel k u v) (hk : k + 5 ≤ 2562) (v1 : Int32) (v2 : Int32) : wpX_add (fun r u' => wpY_add (fun r' v' => r' = r ∧ i_Rel (k + 5) u' v') v v1 v2) u v1 v2 := by
  obtain ⟨L, B, p, c, la, M, EU, EF, EW, KU, KE, KF, KW, SU, SD, SB, C, NW, W, YF, rfl, rfl, ⟨hL1, hL, hB1, hB, hp, hc⟩, hT, hE, hC, hN⟩ := I
  have hR := cm_mk (n := k + 5) (la := la) ⟨hL1, hL, hB1, hB, hp, hc⟩ hT hE hC hN
  unfold wpX_add wpY_add wY_add_24
  dsimp only
  rcases cm_ix v1 64 (by decide) with h | ⟨n, hn, rfl⟩
  · exact cm_to_bad h (br_f (by decide) (cm_yt_bad h (br_f (by decide) (cm_yst_bad h ⟨rfl, hR⟩))))
  · obtain ⟨e, he⟩ : ∃ e, c * 8 + n / 8 = e := ⟨_, rfl⟩
    have he2 : e < 32 := by omega
    refine cm_to 1 hn hc he hB1 hB hp hT (hE e he2).1 (fun z => ?_) (fun hu _ hw => ?_) (fun hu ok k' j KU' KE' KF' KW' hk' hj hT' ef => ?_)
    · have y := cm_E_0 hE he2 z
      exact br_f (by decide) (cm_yt_no hn hc he y (br_f (by decide) (cm_yst_no hn hc he y ⟨rfl, hR⟩)))
    · obtain ⟨f, hf, e1, e2⟩ := cm_E_1 hE he2 hu
      exact br_f (by decide) (cm_yt_ok hn hc he hf e2 (br_t (nI_pos' (by omega)) ⟨vp_in_nI (by omega) (by decide), cm_yst_ro hn hc he hf e2 hw ⟨rfl, hR⟩⟩))
    · obtain ⟨f, hf, e1, e2⟩ := cm_E_1 hE he2 hu
      have hw : EW e ≠ 0 := ok.resolve_left (by decide)
      dsimp only
      refine br_t (nI_pos' (by omega)) (cm_ph (by omega) hn (ef.trans e1) (cm_rc hL1 hL (by omega) hC hN fun M' SU' SD' SB' C' NW' hC' hN' => ?_))
      dsimp only
      refine nm_e (cm_wc hL1 hL (by omega) hC' hN' fun M2 SU2 SD2 SB2 C2 NW2 hC2 hN2 => ?_)
      dsimp only
      refine cm_yt_ok hn hc he hf e2 (br_t (nI_pos' (by omega)) ⟨vp_in_nI (by omega) (by decide), ?_⟩)
      rw [nI_clamp (by omega)]
      exact cm_yst_ok hn hc he hf e2 hw ⟨rfl, cm_mk ⟨hL1, hL, hB1, hB, hk', hc⟩ hT' hE hC2 hN2⟩
theorem i_vc_deviceRead {k : Nat} {u : SX} {v : SY} (I : i_Rel k u v) (hk : k + 5 ≤ 2562) (v1 : Int32) : wpX_deviceRead (fun r u' => wpY_deviceRead (fun r' => r' = r ∧ i_Rel (k + 5) u' v) v v1) u v1 := by
  obtain ⟨L, B, p, c, la, M, EU, EF, EW, KU, KE, KF, KW, SU, SD, SB, C, NW, W, YF, rfl, rfl, ⟨hL1, hL, hB1, hB, hp, hc⟩, hT, hE, hC, hN⟩ := I
  have hR := cm_mk (n := k + 5) (la := la) ⟨hL1, hL, hB1, hB, hp, hc⟩ hT hE hC hN
  unfold wpX_deviceRead wpY_deviceRead
  dsimp only
  rcases cm_ix v1 64 (by decide) with h | ⟨n, hn, rfl⟩
  · exact cm_ib_f 64 h (br_t rfl (cm_yw_f h (br_t rfl ⟨rfl, hR⟩)))
  · refine cm_ib_t 64 hn (by decide) (br_f (by decide) (cm_rd hL1 hL hn hC fun M' SD' hC' => ?_))
    dsimp only
    refine cm_yw_t hn (br_f (by decide) ⟨vp_in_nI hn (by decide), ?_⟩)
    rw [nI_clamp (by omega)]
    exact ⟨rfl, cm_mk ⟨hL1, hL, hB1, hB, hp, hc⟩ hT hE hC' hN⟩
theorem i_vc_deviceWrite {k : Nat} {u : SX} {v : SY} (I : i_Rel k u v) (hk : k + 5 ≤ 2562) (v1 : Int32) (v2 : Int32) : wpX_deviceWrite (fun r u' => wpY_deviceWrite (fun r' v' => r' = r ∧ i_Rel (k + 5) u' v') v v1 v2) u v1 v2 := by
  obtain ⟨L, B, p, c, la, M, EU, EF, EW, KU, KE, KF, KW, SU, SD, SB, C, NW, W, YF, rfl, rfl, ⟨hL1, hL, hB1, hB, hp, hc⟩, hT, hE, hC, hN⟩ := I
  have hR := cm_mk (n := k + 5) (la := la) ⟨hL1, hL, hB1, hB, hp, hc⟩ hT hE hC hN
  unfold wpX_deviceWrite wpY_deviceWrite
  dsimp only
  rcases cm_ix v1 64 (by decide) with h | ⟨n, hn, rfl⟩
  · exact cm_ib_f 64 h (br_t rfl (cm_yw_f h (br_t rfl ⟨rfl, hR⟩)))
  · refine cm_ib_t 64 hn (by decide) (br_f (by decide) (cm_wd hL1 hL hn hC fun M' SU' SD' hC' => ?_))
    dsimp only
    refine cm_yw_t hn (br_f (by decide) ⟨vp_in_nI hn (by decide), ?_⟩)
    rw [nI_clamp (by omega)]
    exact nm_e ⟨rfl, cm_mk ⟨hL1, hL, hB1, hB, hp, hc⟩ hT hE hC' hN⟩
section
variable {c : Nat} {la : Int32} {W YF EW : Nat → Int32}
theorem cm_ydc_bad {post : Int32 → SY → Prop} {a b m : Nat} (ha : a < 2 ^ 31) (hb : b < 2 ^ 31) (hm : m < 2 ^ 31) (hx : ¬ (a + m ≤ 64 ∧ b + m ≤ 64)) (h : post (-1) ((nI c), la, W, YF, EW)) : wpY_deviceCopy post ((nI c), la, W, YF, EW) (nI a) (nI b) (nI m) := by
  unfold wpY_deviceCopy
  dsimp only
  refine br_f (nI_pos ha) (br_f (nI_pos hb) (br_f (nI_pos hm) (pk_lt 64 a (fun _ => h) (fun h1 => pk_lt 64 b (fun _ => h) (fun h2 => pk_le m 64 (fun h3 => ?_) (fun _ => h))))))
  rw [nI_add a m, nI_add b m]
  exact pk_lt 64 (a + m) (fun _ => h) (fun h4 => pk_le (b + m) 64 (fun h5 => absurd ⟨h4, h5⟩ hx) (fun _ => h))
theorem cm_ydc_ok {post : Int32 → SY → Prop} {a b m : Nat} (h1 : a + m ≤ 64) (h2 : b + m ≤ 64) (h : post (nI m) ((nI c), la, (cm_dc W a b m), YF, EW)) : wpY_deviceCopy post ((nI c), la, W, YF, EW) (nI a) (nI b) (nI m) := by
  unfold wpY_deviceCopy
  dsimp only
  refine br_f (nI_pos (by omega)) (br_f (nI_pos (by omega)) (br_f (nI_pos (by omega)) (pk_lt 64 a (fun z => absurd z (by omega)) (fun _ => pk_lt 64 b (fun z => absurd z (by omega)) (fun _ => pk_le m 64 (fun _ => ?_) (fun z => absurd z (by omega)))))))
  rw [nI_add a m, nI_add b m]
  exact pk_lt 64 (a + m) (fun z => absurd z (by omega)) (fun _ => pk_le (b + m) 64 (fun _ => ⟨m + 1, cm_ydc_l h1 h2 h m 0 (by omega)⟩) (fun z => absurd z (by omega)))
end
theorem i_vc_deviceCopy {k : Nat} {u : SX} {v : SY} (I : i_Rel k u v) (hk : k + 5 ≤ 2562) (v1 : Int32) (v2 : Int32) (v3 : Int32) : wpX_deviceCopy (fun r u' => wpY_deviceCopy (fun r' v' => r' = r ∧ i_Rel (k + 5) u' v') v v1 v2 v3) u v1 v2 v3 := by
  obtain ⟨L, B, p, c, la, M, EU, EF, EW, KU, KE, KF, KW, SU, SD, SB, C, NW, W, YF, rfl, rfl, ⟨hL1, hL, hB1, hB, hp, hc⟩, hT, hE, hC, hN⟩ := I
  have hR := cm_mk (n := k + 5) (la := la) ⟨hL1, hL, hB1, hB, hp, hc⟩ hT hE hC hN
  unfold wpX_deviceCopy
  dsimp only
  by_cases h1 : v1 < 0
  · refine br_t h1 ?_
    unfold wpY_deviceCopy
    exact br_t h1 ⟨rfl, hR⟩
  by_cases h2 : v2 < 0
  · refine br_f h1 (br_t h2 ?_)
    unfold wpY_deviceCopy
    exact br_f h1 (br_t h2 ⟨rfl, hR⟩)
  by_cases h3 : v3 < 0
  · refine br_f h1 (br_f h2 (br_f (Int32.not_le.mpr h3) ?_))
    unfold wpY_deviceCopy
    exact br_f h1 (br_f h2 (br_t h3 ⟨rfl, hR⟩))
  refine br_f h1 (br_f h2 (br_t (Int32.not_lt.mp h3) ?_))
  obtain ⟨a, ha, rfl⟩ := nI_of h1
  obtain ⟨b, hb, rfl⟩ := nI_of h2
  obtain ⟨m, hm, rfl⟩ := nI_of h3
  rw [nI_l ha, nI_l hb, nI_l hm, lN_add a m, lN_add b m]
  by_cases c1 : 64 < a + m
  · have d1 : (64 : Int64) < lN (a + m) := (pk_lLT (a := 64) (by omega) (by omega)).mpr c1
    exact br_t d1 (cm_ydc_bad ha hb hm (by omega) ⟨rfl, hR⟩)
  · have d1 : ¬ (64 : Int64) < lN (a + m) := fun z => c1 ((pk_lLT (a := 64) (by omega) (by omega)).mp z)
    refine br_f d1 ?_
    by_cases c2 : b + m ≤ 64
    · have d2 : lN (b + m) ≤ (64 : Int64) := (pk_lLE (b := 64) (by omega) (by omega)).mpr c2
      refine br_t d2 ⟨m + 1, cm_dc_l hL1 hL (by omega) c2 (fun M' SU' SD' hC' => ?_) m 0 _ _ _ (by omega) hC⟩
      exact cm_ydc_ok (by omega) c2 ⟨rfl, cm_mk ⟨hL1, hL, hB1, hB, hp, hc⟩ hT hE hC' hN⟩
    · have d2 : ¬ lN (b + m) ≤ (64 : Int64) := fun z => c2 ((pk_lLE (b := 64) (by omega) (by omega)).mp z)
      exact br_f d2 (cm_ydc_bad ha hb hm (by omega) ⟨rfl, hR⟩)
end
section
theorem i_vc_last {k : Nat} {u : SX} {v : SY} (I : i_Rel k u v) (hk : k + 5 ≤ 2562) : wpX_last (fun r => wpY_last (fun r' => r' = r ∧ i_Rel (k + 5) u v) v) u := by
  have J := i_up I
  obtain ⟨L, B, p, c, la, M, EU, EF, EW, KU, KE, KF, KW, SU, SD, SB, C, NW, W, YF, rfl, rfl, h⟩ := I
  exact ⟨rfl, J⟩
end
