theorem i_vc_last {k : Nat} {u : SX} {v : SY} (I : i_Rel k u v) (hk : k + 5 ≤ 2562) : wpX_last (fun r => wpY_last (fun r' => r' = r ∧ i_Rel (k + 5) u v) v) u := by
  have J := i_up I
  obtain ⟨L, B, p, c, la, M, EU, EF, EW, KU, KE, KF, KW, SU, SD, SB, C, NW, W, YF, rfl, rfl, h⟩ := I
  exact ⟨rfl, J⟩
