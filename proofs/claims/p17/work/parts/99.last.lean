theorem i_vc (xs : Nat → Int32) (L : Nat) (hL : L ≤ 260) : wpL_law (fun r => r = 1) L xs := by
  unfold wpL_law
  exact la_cell (k := 0) hL (by omega) (fun v => la_pickE 16 rfl (by omega) (by omega) (fun j _ => br_c (fun _ => lm_32 hL _) (fun _ => ⟨by decide, lm_32 hL _⟩)))
