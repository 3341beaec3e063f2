/-! the mathematics: cells copied, the cache against the words, the kept translations against the entries -/
theorem cm_b01 {x : Int32} (h : x = 0 ∨ x = 1) : vp_nar .boolean x = x := by
  rcases h with rfl | rfl <;> rfl
theorem cm_n01 {x : Int32} (h : x = 0 ∨ x = 1) : narrow .boolean (.int x) = .int x := by
  rcases h with rfl | rfl <;> rfl
theorem cm_u0 {f : Nat → Int32} {k j : Nat} (h : upd f k 0 j ≠ 0) : j ≠ k ∧ f j ≠ 0 := by
  by_cases e : j = k
  · subst e
    rw [pk_us] at h
    exact absurd rfl h
  · rw [pk_un e] at h
    exact ⟨e, h⟩
/-- n cells of g from s on, written into f from d on -/
def cm_cp (f g : Nat → Int32) (d s : Nat) : Nat → Nat → Int32
  | 0 => f
  | i + 1 => upd (cm_cp f g d s i) (d + i) (g (s + i))
theorem cm_cp_in {f g : Nat → Int32} {d s : Nat} : ∀ n i : Nat, i < n → cm_cp f g d s n (d + i) = g (s + i) := by
  intro n
  induction n with
  | zero => intro i h; omega
  | succ n ih =>
    intro i h
    show upd (cm_cp f g d s n) (d + n) (g (s + n)) (d + i) = g (s + i)
    by_cases e : i = n
    · subst e
      exact pk_us
    · rw [pk_un (by omega)]
      exact ih i (by omega)
theorem cm_cp_out {f g : Nat → Int32} {d s : Nat} : ∀ n j : Nat, (j < d ∨ d + n ≤ j) → cm_cp f g d s n j = f j := by
  intro n
  induction n with
  | zero => intro j _; rfl
  | succ n ih =>
    intro j h
    show upd (cm_cp f g d s n) (d + n) (g (s + n)) j = f j
    rw [pk_un (by omega)]
    exact ih j (by omega)
/-- the cache (slots below 2 L) over the memory M shows the words W -/
def cm_C (L : Nat) (M SU SD SB C W : Nat → Int32) : Prop :=
  (∀ s, s < 2 * L → SU s ≠ 0 → ∃ b, b < 16 ∧ SB s = nI b ∧ b % L = s / 2) ∧
  (∀ s t, s < 2 * L → t < 2 * L → SU s ≠ 0 → SU t ≠ 0 → SB s = SB t → s = t) ∧
  (∀ s b i, s < 2 * L → b < 16 → i < 4 → SU s ≠ 0 → SB s = nI b → C (s * 4 + i) = W (b * 4 + i)) ∧
  (∀ w, w < 64 → (∀ s, s < 2 * L → SU s ≠ 0 → SB s = nI (w / 4) → SD s = 0) → M w = W w)
theorem cm_C_0 {L : Nat} {SD SB C W : Nat → Int32} : cm_C L W (fun _ => 0) SD SB C W :=
  ⟨fun _ _ h => absurd rfl h, fun _ _ _ _ h => absurd rfl h, fun _ _ _ _ _ _ h => absurd rfl h, fun _ _ _ => rfl⟩
section
variable {L : Nat} {M SU SD SB C W : Nat → Int32} {s b : Nat}
theorem cm_C_wb (h : cm_C L M SU SD SB C W) (hs : s < 2 * L) (hu : SU s ≠ 0) (hb : b < 16) (eb : SB s = nI b) : cm_C L (cm_cp M C (b * 4) (s * 4) 4) SU (upd SD s 0) SB C W := by
  obtain ⟨h1, h2, h3, h4⟩ := h
  refine ⟨h1, h2, h3, fun w hw hc => ?_⟩
  by_cases e : w / 4 = b
  · have e2 : w = b * 4 + w % 4 := by omega
    rw [e2, cm_cp_in 4 (w % 4) (by omega)]
    exact h3 s b _ hs hb (by omega) hu eb
  · rw [cm_cp_out 4 w (by omega)]
    refine h4 w hw fun t ht hut ebt => ?_
    have ne : t ≠ s := by
      intro z
      subst z
      rw [eb, nI_eq (by omega) (by omega)] at ebt
      omega
    have z := hc t ht hut ebt
    rwa [pk_un ne] at z
theorem cm_C_fill (h : cm_C L M SU SD SB C W) (hb : b < 16) (hm : b % L = s / 2) (hn : ∀ t, t < 2 * L → SU t ≠ 0 → SB t ≠ nI b) (hd : SU s ≠ 0 → SD s = 0) : cm_C L M (upd SU s 1) (upd SD s 0) (upd SB s (nI b)) (cm_cp C M (s * 4) (b * 4) 4) W := by
  obtain ⟨h1, h2, h3, h4⟩ := h
  refine ⟨fun t ht hu => ?_, fun t r ht hr hut hur e => ?_, fun t c i ht hc hi hu e => ?_, fun w hw hc => ?_⟩
  · by_cases e : t = s
    · subst e
      exact ⟨b, hb, pk_us, hm⟩
    · rw [pk_un e] at hu ⊢
      exact h1 t ht hu
  · by_cases e1 : t = s
    · by_cases e2 : r = s
      · omega
      · rw [pk_un e2] at hur
        rw [e1, pk_us, pk_un e2] at e
        exact absurd e.symm (hn r hr hur)
    · rw [pk_un e1] at hut
      by_cases e2 : r = s
      · rw [e2, pk_us, pk_un e1] at e
        exact absurd e (hn t ht hut)
      · rw [pk_un e2] at hur
        rw [pk_un e1, pk_un e2] at e
        exact h2 t r ht hr hut hur e
  · by_cases e1 : t = s
    · rw [e1, pk_us, nI_eq (by omega) (by omega)] at e
      subst e
      rw [e1, cm_cp_in 4 i hi]
      refine h4 _ (by omega) fun r hr hur er => ?_
      rw [show (b * 4 + i) / 4 = b by omega] at er
      exact absurd er (hn r hr hur)
    · rw [pk_un e1] at hu e
      rw [cm_cp_out 4 _ (by omega)]
      exact h3 t c i ht hc hi hu e
  · refine h4 w hw fun t ht hut ebt => ?_
    by_cases e1 : t = s
    · subst e1
      exact hd hut
    · have z := hc t ht (by rw [pk_un e1]; exact hut) (by rw [pk_un e1]; exact ebt)
      rwa [pk_un e1] at z
theorem cm_C_st {i : Nat} {v : Int32} (h : cm_C L M SU SD SB C W) (hs : s < 2 * L) (hb : b < 16) (hi : i < 4) (hu : SU s ≠ 0) (eb : SB s = nI b) : cm_C L M SU (upd SD s 1) SB (upd C (s * 4 + i) v) (upd W (b * 4 + i) v) := by
  obtain ⟨h1, h2, h3, h4⟩ := h
  refine ⟨h1, h2, fun t c j ht hc hj hut e => ?_, fun w hw hc => ?_⟩
  · by_cases e1 : t = s
    · have ec : c = b := by
        rw [e1, eb, nI_eq (by omega) (by omega)] at e
        omega
      by_cases e2 : j = i
      · rw [e1, ec, e2, pk_us, pk_us]
      · rw [pk_un (by omega), pk_un (by omega)]
        exact h3 t c j ht hc hj hut e
    · have ec : c ≠ b := by
        intro z
        subst z
        exact e1 (h2 t s ht hs hut hu (e.trans eb.symm))
      rw [pk_un (by omega), pk_un (by omega)]
      exact h3 t c j ht hc hj hut e
  · by_cases e1 : w / 4 = b
    · have z := hc s hs hu (by rw [e1]; exact eb)
      rw [pk_us] at z
      exact absurd z (by decide)
    · rw [pk_un (by omega)]
      refine h4 w hw fun t ht hut ebt => ?_
      have ne : t ≠ s := by
        intro z
        subst z
        rw [eb, nI_eq (by omega) (by omega)] at ebt
        omega
      have z := hc t ht hut ebt
      rwa [pk_un ne] at z
theorem cm_C_dr (h : cm_C L M SU SD SB C W) (hd : SU s ≠ 0 → SD s = 0) : cm_C L M (upd SU s 0) SD SB C W := by
  obtain ⟨h1, h2, h3, h4⟩ := h
  refine ⟨fun t ht hu => h1 t ht (cm_u0 hu).2, fun t r ht hr hut hur e => h2 t r ht hr (cm_u0 hut).2 (cm_u0 hur).2 e, fun t c i ht hc hi hu e => h3 t c i ht hc hi (cm_u0 hu).2 e, fun w hw hc => ?_⟩
  refine h4 w hw fun t ht hut ebt => ?_
  by_cases e1 : t = s
  · subst e1
    exact hd hut
  · exact hc t ht (by rw [pk_un e1]; exact hut) ebt
theorem cm_C_dw {w : Nat} {v : Int32} (h : cm_C L M SU SD SB C W) (hn : ∀ t, t < 2 * L → SU t ≠ 0 → SB t ≠ nI (w / 4)) : cm_C L (upd M w v) SU SD SB C (upd W w v) := by
  obtain ⟨h1, h2, h3, h4⟩ := h
  refine ⟨h1, h2, fun t c j ht hc hj hut e => ?_, fun x hx hc => ?_⟩
  · have ec : c ≠ w / 4 := by
      intro z
      subst z
      exact hn t ht hut e
    rw [pk_un (by omega)]
    exact h3 t c j ht hc hj hut e
  · by_cases e : x = w
    · rw [e, pk_us, pk_us]
    · rw [pk_un e, pk_un e]
      exact h4 x hx hc
end
/-- the kept translations are copies of used entries, each entry at most once -/
def cm_T (B : Nat) (EU EF EW KU KE KF KW : Nat → Int32) : Prop :=
  (∀ j, j < B → KU j ≠ 0 → ∃ e, e < 32 ∧ KE j = nI e ∧ EU e ≠ 0 ∧ KF j = EF e ∧ KW j = EW e) ∧
  (∀ i j, i < B → j < B → KU i ≠ 0 → KU j ≠ 0 → KE i = KE j → i = j)
section
variable {B : Nat} {EU EF EW KU KE KF KW EU' EF' EW' : Nat → Int32} {e j : Nat}
theorem cm_T_no (h : cm_T B EU EF EW KU KE KF KW) (hn : ∀ i, i < B → KU i ≠ 0 → KE i ≠ nI e) (hx : ∀ x, x < 32 → x ≠ e → EU' x = EU x ∧ EF' x = EF x ∧ EW' x = EW x) : cm_T B EU' EF' EW' KU KE KF KW := by
  refine ⟨fun i hi hu => ?_, h.2⟩
  obtain ⟨x, x1, x2, x3, x4, x5⟩ := h.1 i hi hu
  have ne : x ≠ e := fun z => hn i hi hu (z ▸ x2)
  obtain ⟨y1, y2, y3⟩ := hx x x1 ne
  exact ⟨x, x1, x2, by rw [y1]; exact x3, by rw [y2]; exact x4, by rw [y3]; exact x5⟩
theorem cm_T_cl (h : cm_T B EU EF EW KU KE KF KW) : cm_T B EU EF EW (upd KU j 0) KE KF KW :=
  ⟨fun i hi hu => h.1 i hi (cm_u0 hu).2, fun i k hi hk hu hv ee => h.2 i k hi hk (cm_u0 hu).2 (cm_u0 hv).2 ee⟩
theorem cm_T_dr (h : cm_T B EU EF EW KU KE KF KW) (hj : j < B) (hu : KU j ≠ 0) (ej : KE j = nI e) (hx : ∀ x, x < 32 → x ≠ e → EU' x = EU x ∧ EF' x = EF x ∧ EW' x = EW x) : cm_T B EU' EF' EW' (upd KU j 0) KE KF KW :=
  cm_T_no (cm_T_cl h) (fun i hi hv ee => (cm_u0 hv).1 (h.2 i j hi hj (cm_u0 hv).2 hu (ee.trans ej.symm))) hx
theorem cm_T_kp (h : cm_T B EU EF EW KU KE KF KW) (he : e < 32) (hu : EU e ≠ 0) (hn : ∀ i, i < B → KU i ≠ 0 → KE i ≠ nI e) : cm_T B EU EF EW (upd KU j 1) (upd KE j (nI e)) (upd KF j (EF e)) (upd KW j (EW e)) := by
  refine ⟨fun i hi hv => ?_, fun i k hi hk hv hw ee => ?_⟩
  · by_cases z : i = j
    · rw [z]
      exact ⟨e, he, pk_us, hu, pk_us, pk_us⟩
    · rw [pk_un z] at hv
      rw [pk_un z, pk_un z, pk_un z]
      exact h.1 i hi hv
  · by_cases z : i = j
    · by_cases y : k = j
      · omega
      · rw [pk_un y] at hw
        rw [z, pk_us, pk_un y] at ee
        exact absurd ee.symm (hn k hk hw)
    · rw [pk_un z] at hv
      by_cases y : k = j
      · rw [y, pk_us, pk_un z] at ee
        exact absurd ee (hn i hi hv)
      · rw [pk_un y] at hw
        rw [pk_un y, pk_un z] at ee
        exact h.2 i k hi hk hv hw ee
end
/-- the entries against the reference's frames -/
def cm_E (EU EF EW YF : Nat → Int32) : Prop :=
  ∀ e, e < 32 → (EW e = 0 ∨ EW e = 1) ∧ ((EU e = 0 ∧ YF e = -1) ∨ (EU e = 1 ∧ ∃ f, f < 8 ∧ EF e = nI f ∧ YF e = nI f))
section
variable {EU EF EW YF : Nat → Int32} {e f : Nat} {x : Int32}
theorem cm_E_mp (h : cm_E EU EF EW YF) (hf : f < 8) (hx : x = 0 ∨ x = 1) : cm_E (upd EU e 1) (upd EF e (nI f)) (upd EW e x) (upd YF e (nI f)) := by
  intro i hi
  by_cases z : i = e
  · rw [z, pk_us, pk_us, pk_us, pk_us]
    exact ⟨hx, Or.inr ⟨rfl, f, hf, rfl, rfl⟩⟩
  · rw [pk_un z, pk_un z, pk_un z, pk_un z]
    exact h i hi
theorem cm_E_um (h : cm_E EU EF EW YF) : cm_E (upd EU e 0) EF EW (upd YF e (-1)) := by
  intro i hi
  by_cases z : i = e
  · rw [z, pk_us, pk_us]
    exact ⟨(h e (z ▸ hi)).1, Or.inl ⟨rfl, rfl⟩⟩
  · rw [pk_un z, pk_un z]
    exact h i hi
theorem cm_E_pr (h : cm_E EU EF EW YF) : cm_E EU EF (upd EW e 0) YF := by
  intro i hi
  by_cases z : i = e
  · rw [z, pk_us]
    exact ⟨Or.inl rfl, (h e (z ▸ hi)).2⟩
  · rw [pk_un z]
    exact h i hi
end
/-- the writable flags after the first i entries that name frame fr were protected, and how many were set -/
def cm_pw (YF EW : Nat → Int32) (fr : Int32) (i : Nat) : Nat → Int32 := fun j => if j < i ∧ YF j = fr then 0 else EW j
def cm_pn (YF EW : Nat → Int32) (fr : Int32) : Nat → Nat
  | 0 => 0
  | i + 1 => cm_pn YF EW fr i + (if YF i = fr ∧ EW i ≠ 0 then 1 else 0)
section
variable {YF EW : Nat → Int32} {fr : Int32} {i : Nat}
theorem cm_pw_0 : cm_pw YF EW fr 0 = EW := by
  funext j
  exact if_neg (by omega)
theorem cm_pw_at : cm_pw YF EW fr i i = EW i := if_neg (by omega)
theorem cm_pw_y (h : YF i = fr) : upd (cm_pw YF EW fr i) i 0 = cm_pw YF EW fr (i + 1) := by
  funext j
  by_cases z : j = i
  · rw [z, pk_us]
    exact (if_pos ⟨by omega, h⟩).symm
  · rw [pk_un z]
    show (if j < i ∧ YF j = fr then (0 : Int32) else EW j) = (if j < i + 1 ∧ YF j = fr then 0 else EW j)
    have q : (j < i ∧ YF j = fr) ↔ (j < i + 1 ∧ YF j = fr) := ⟨fun a => ⟨by omega, a.2⟩, fun a => ⟨by omega, a.2⟩⟩
    by_cases p : j < i ∧ YF j = fr
    · rw [if_pos p, if_pos (q.mp p)]
    · rw [if_neg p, if_neg (fun a => p (q.mpr a))]
theorem cm_pw_n (h : YF i ≠ fr ∨ EW i = 0) : cm_pw YF EW fr (i + 1) = cm_pw YF EW fr i := by
  funext j
  show (if j < i + 1 ∧ YF j = fr then (0 : Int32) else EW j) = (if j < i ∧ YF j = fr then 0 else EW j)
  by_cases z : j = i
  · rw [z, if_neg (c := i < i ∧ YF i = fr) (by omega)]
    rcases h with h | h
    · exact if_neg (fun a => h a.2)
    · by_cases p : i < i + 1 ∧ YF i = fr
      · rw [if_pos p, h]
      · rw [if_neg p]
  · have q : (j < i + 1 ∧ YF j = fr) ↔ (j < i ∧ YF j = fr) := ⟨fun a => ⟨by omega, a.2⟩, fun a => ⟨by omega, a.2⟩⟩
    by_cases p : j < i ∧ YF j = fr
    · rw [if_pos p, if_pos (q.mpr p)]
    · rw [if_neg p, if_neg (fun a => p (q.mp a))]
theorem cm_pn_y (h : YF i = fr) (h0 : EW i ≠ 0) : cm_pn YF EW fr (i + 1) = cm_pn YF EW fr i + 1 := by
  show cm_pn YF EW fr i + (if YF i = fr ∧ EW i ≠ 0 then 1 else 0) = _
  rw [if_pos ⟨h, h0⟩]
theorem cm_pn_n (h : YF i ≠ fr ∨ EW i = 0) : cm_pn YF EW fr (i + 1) = cm_pn YF EW fr i := by
  have q : ¬ (YF i = fr ∧ EW i ≠ 0) := by
    intro a
    rcases h with h | h
    · exact h a.1
    · exact a.2 h
  show cm_pn YF EW fr i + (if YF i = fr ∧ EW i ≠ 0 then 1 else 0) = _
  rw [if_neg q]
  rfl
end
/-- the words after i steps of a device's copy -/
def cm_dc (W : Nat → Int32) (f t : Nat) : Nat → Nat → Int32
  | 0 => W
  | i + 1 => upd (cm_dc W f t i) (t + i) (cm_dc W f t i (f + i))
