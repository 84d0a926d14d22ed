theorem i_vc_cellCount {k : Nat} {u : SX} {v : SY} (I : i_Rel k u v) (hk : k + 3 ≤ 1538) : wpX_cellCount (fun r => wpY_cellCount (fun r' => r' = r ∧ i_Rel (k + 3) u v) v) u := by
  have I2 : i_Rel (k + 3) u v := I
  obtain ⟨N, T, t, l, ed, sk, sh, os, de, re, le, so, od, D, ysh, yol, ydep, ynx, ysk, rfl, rfl, hN, hT, ha, hd, hs, hdl, hX, hY⟩ := I
  exact ⟨rfl, I2⟩
theorem i_vc_topValue {k : Nat} {u : SX} {v : SY} (I : i_Rel k u v) (hk : k + 3 ≤ 1538) : wpX_topValue (fun r => wpY_topValue (fun r' => r' = r ∧ i_Rel (k + 3) u v) v) u := by
  have I2 : i_Rel (k + 3) u v := I
  obtain ⟨N, T, t, l, ed, sk, sh, os, de, re, le, so, od, D, ysh, yol, ydep, ynx, ysk, rfl, rfl, hN, hT, ha, hd, hs, hdl, hX, hY⟩ := I
  exact ⟨rfl, I2⟩
