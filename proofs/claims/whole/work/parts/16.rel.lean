/-! the relation, and the calls that only ask -/
def i_Rel (_ : Nat) (u : SX) (v : SY) : Prop := ∃ (N T : Nat) (t l : Nat → Nat) (ed : Int32) (sk sh os de re le so od : Nat → Int32) (D : Nat → Nat → Bool) (ysh yol ydep ynx ysk : Nat → Int32), u = (nI N, nI T, nI (ls_dp (ls_kd t 12) (l 12)), ed, ls_I t, ls_I l, sk, sh, os, de, re, le, so, od) ∧ v = (nI N, nI T, ed, ls_I t, ls_I l, ysh, yol, ydep, ynx, ysk) ∧ N ≤ 12 ∧ T ≤ 15 ∧ ls_all N T t l ∧ ls_dr N T (l 12) (ls_kd t 12) (ls_ar t 12) ∧ (∀ c, c < N → sh c = ysh c) ∧ (∀ c, c < N → de c = ysh c - yol c) ∧ xs_ok N D re le od ∧ yd_ok N D ydep
theorem i_up {k : Nat} {u : SX} {v : SY} (h : i_Rel k u v) : i_Rel (k + 3) u v := h
theorem xe_ncell {N : Nat} {x : Int32} {post : Int32 → Prop} {T dd ed : Int32} {tk ln sk sh os de re le so od : Nat → Int32} (hx : x < 0 ∨ nI N ≤ x) (h : post 0) : wpX_isCell post (nI N, T, dd, ed, tk, ln, sk, sh, os, de, re, le, so, od) x := by
  by_cases z : x < 0
  · exact br_t z h
  · exact br_f z (br_t (hx.resolve_left z) h)
theorem rl_ix (x : Int32) {N : Nat} (hN : N ≤ 12) : (x < 0 ∨ nI N ≤ x) ∨ ∃ j : Nat, j < N ∧ x = nI j := by
  rcases pk_ix x (n := N) (by omega) with h | h | h
  · exact Or.inl (Or.inl h)
  · exact Or.inl (Or.inr h)
  · exact Or.inr h
theorem rl_n99 {c : Nat} (h : c < 13) : ¬ nI c = (-99) := by
  intro z
  have := nI_pos (n := c) (by omega)
  rw [z] at this
  exact this (by decide)
theorem rl_n1 {c : Nat} (h : c < 13) : ¬ nI c = (-1) := by
  intro z
  have := nI_pos (n := c) (by omega)
  rw [z] at this
  exact this (by decide)
theorem i_vc_value {k : Nat} {u : SX} {v : SY} (I : i_Rel k u v) (hk : k + 3 ≤ 1538) (v1 : Int32) : wpX_value (fun r => wpY_value (fun r' => r' = r ∧ i_Rel (k + 3) u v) v v1) u v1 := by
  have I2 : i_Rel (k + 3) u v := I
  obtain ⟨N, T, t, l, ed, sk, sh, os, de, re, le, so, od, D, ysh, yol, ydep, ynx, ysk, rfl, rfl, hN, hT, ha, hd, hs, hdl, hX, hY⟩ := I
  unfold wpX_value wpY_value
  rcases rl_ix v1 hN with h | ⟨c, hc, rfl⟩
  · exact xe_ncell h (br_t rfl (ye_ncell h (br_t rfl ⟨rfl, I2⟩)))
  · have hin : vp_in (nI c) 12 := vp_in_nI (by omega) (by decide)
    refine xe_cell hN hc (br_f (by decide) ⟨hin, ye_cell hN hc (br_f (by decide) ⟨hin, ?_, I2⟩)⟩)
    rw [nI_clamp (by omega)]
    exact (hs c hc).symm
theorem i_vc_delta {k : Nat} {u : SX} {v : SY} (I : i_Rel k u v) (hk : k + 3 ≤ 1538) (v1 : Int32) : wpX_delta (fun r => wpY_delta (fun r' => r' = r ∧ i_Rel (k + 3) u v) v v1) u v1 := by
  have I2 : i_Rel (k + 3) u v := I
  obtain ⟨N, T, t, l, ed, sk, sh, os, de, re, le, so, od, D, ysh, yol, ydep, ynx, ysk, rfl, rfl, hN, hT, ha, hd, hs, hdl, hX, hY⟩ := I
  unfold wpX_delta wpY_delta
  rcases rl_ix v1 hN with h | ⟨c, hc, rfl⟩
  · exact xe_ncell h (br_t rfl (ye_ncell h (br_t rfl ⟨rfl, I2⟩)))
  · have hin : vp_in (nI c) 12 := vp_in_nI (by omega) (by decide)
    refine xe_cell hN hc (br_f (by decide) ⟨hin, ye_cell hN hc (br_f (by decide) ⟨hin, hin, ?_, I2⟩)⟩)
    rw [nI_clamp (by omega)]
    exact (hdl c hc).symm
theorem i_vc_edited {k : Nat} {u : SX} {v : SY} (I : i_Rel k u v) (hk : k + 3 ≤ 1538) : wpX_edited (fun r => wpY_edited (fun r' => r' = r ∧ i_Rel (k + 3) u v) v) u := by
  have I2 : i_Rel (k + 3) u v := I
  obtain ⟨N, T, t, l, ed, sk, sh, os, de, re, le, so, od, D, ysh, yol, ydep, ynx, ysk, rfl, rfl, hN, hT, ha, hd, hs, hdl, hX, hY⟩ := I
  exact ⟨rfl, I2⟩
theorem i_vc_depends {k : Nat} {u : SX} {v : SY} (I : i_Rel k u v) (hk : k + 3 ≤ 1538) (v1 : Int32) (v2 : Int32) : wpX_depends (fun r => wpY_depends (fun r' => r' = r ∧ i_Rel (k + 3) u v) v v1 v2) u v1 v2 := by
  have I2 : i_Rel (k + 3) u v := I
  obtain ⟨N, T, t, l, ed, sk, sh, os, de, re, le, so, od, D, ysh, yol, ydep, ynx, ysk, rfl, rfl, hN, hT, ha, hd, hs, hdl, hX, hY⟩ := I
  unfold wpX_depends wpY_depends
  rcases rl_ix v1 hN with h | ⟨c, hc, rfl⟩
  · exact xe_ncell h (br_t rfl (ye_ncell h (br_t rfl ⟨rfl, I2⟩)))
  · rcases rl_ix v2 hN with h | ⟨d, hdN, rfl⟩
    · exact xe_cell hN hc (br_f (by decide) (xe_ncell h (br_t rfl (ye_cell hN hc (br_f (by decide) (ye_ncell h (br_t rfl ⟨rfl, I2⟩)))))))
    · have hin : vp_in (nI c * 12 + nI d) 144 := by rw [yd_ix]; exact vp_in_nI (by omega) (by decide)
      have e : ydep (nI c * 12 + nI d).toNatClampNeg = ydep (12 * c + d) := by rw [yd_ix, nI_clamp (by omega)]
      refine xe_cell hN hc (br_f (by decide) (xe_cell hN hdN (br_f (by decide) (xr_reaches (by omega) (by omega) (fun h1 => ?_) (fun h1 => ?_)))))
      · rw [hX.1 c d hc hdN] at h1
        have h2 : ¬ ydep (12 * c + d) = 0 := fun z => by rw [(hY c d hc hdN).mp z] at h1; exact Bool.false_ne_true h1
        exact br_f (by decide) (ye_cell hN hc (br_f (by decide) (ye_cell hN hdN (br_f (by decide) ⟨hin, br_f (by rw [e]; exact h2) ⟨rfl, I2⟩⟩))))
      · rw [hX.1 c d hc hdN] at h1
        have h2 : ydep (12 * c + d) = 0 := (hY c d hc hdN).mpr h1
        exact br_t rfl (ye_cell hN hc (br_f (by decide) (ye_cell hN hdN (br_f (by decide) ⟨hin, br_t (by rw [e]; exact h2) ⟨rfl, I2⟩⟩))))
theorem i_vc_leader {k : Nat} {u : SX} {v : SY} (I : i_Rel k u v) (hk : k + 3 ≤ 1538) (v1 : Int32) : wpX_leader (fun r => wpY_leader (fun r' => r' = r ∧ i_Rel (k + 3) u v) v v1) u v1 := by
  have I2 : i_Rel (k + 3) u v := I
  obtain ⟨N, T, t, l, ed, sk, sh, os, de, re, le, so, od, D, ysh, yol, ydep, ynx, ysk, rfl, rfl, hN, hT, ha, hd, hs, hdl, hX, hY⟩ := I
  unfold wpX_leader
  rcases rl_ix v1 hN with h | ⟨c, hc, rfl⟩
  · refine xe_ncell h (br_t rfl ?_)
    unfold wpY_leader
    exact ye_ncell h (br_t rfl ⟨rfl, I2⟩)
  · refine xe_cell hN hc (br_f (by decide) ⟨vp_in_nI (by omega) (by decide), yo_leader hN hc hY ⟨?_, I2⟩⟩)
    rw [nI_clamp (by omega)]
    exact (hX.2.1 c hc).symm
theorem i_vc_orderAt {k : Nat} {u : SX} {v : SY} (I : i_Rel k u v) (hk : k + 3 ≤ 1538) (v1 : Int32) : wpX_orderAt (fun r => wpY_orderAt (fun r' => r' = r ∧ i_Rel (k + 3) u v) v v1) u v1 := by
  have I2 : i_Rel (k + 3) u v := I
  obtain ⟨N, T, t, l, ed, sk, sh, os, de, re, le, so, od, D, ysh, yol, ydep, ynx, ysk, rfl, rfl, hN, hT, ha, hd, hs, hdl, hX, hY⟩ := I
  unfold wpX_orderAt
  rcases rl_ix v1 hN with h | ⟨p, hp, rfl⟩
  · refine xe_ncell h (br_t rfl (yo_order hN hY (fun c hc z => ?_) (fun _ => ⟨rfl, I2⟩)))
    have h1 := or_pl_lt D hc
    rw [← z] at h
    rcases h with h | h
    · exact absurd h (nI_pos (by omega))
    · exact absurd h (nI_ge h1 (by omega))
  · refine xe_cell hN hp (br_f (by decide) ⟨vp_in_nI (by omega) (by decide), yo_order hN hY (fun c hc z => ⟨?_, I2⟩) (fun z => ?_)⟩)
    · have h1 := or_pl_lt D hc
      rw [nI_eq (by omega) (by omega)] at z
      rw [nI_clamp (by omega), ← z]
      exact (hX.2.2 c hc).symm
    · obtain ⟨c, hc, e⟩ := or_pl_sur (D := D) hN hp
      exact absurd (by rw [e]) (z c hc)
theorem i_vc_length {k : Nat} {u : SX} {v : SY} (I : i_Rel k u v) (hk : k + 3 ≤ 1538) (v1 : Int32) : wpX_length (fun r => wpY_length (fun r' => r' = r ∧ i_Rel (k + 3) u v) v v1) u v1 := by
  have I2 : i_Rel (k + 3) u v := I
  obtain ⟨N, T, t, l, ed, sk, sh, os, de, re, le, so, od, D, ysh, yol, ydep, ynx, ysk, rfl, rfl, hN, hT, ha, hd, hs, hdl, hX, hY⟩ := I
  unfold wpX_length wpX_rowOf wpY_length
  by_cases e : v1 = (-1)
  · refine br_t e (br_f (by decide) ⟨vp_in_iff.mpr (by decide), br_t e ⟨?_, I2⟩⟩)
    exact congrArg (ls_I l) (show (12 : Nat) = (12 : Int32).toNatClampNeg by decide)
  · refine br_f e ?_
    rcases rl_ix v1 hN with h | ⟨c, hc, rfl⟩
    · exact xe_ncell h (br_t rfl (br_t rfl (br_f e (ye_ncell h (br_t rfl ⟨rfl, I2⟩)))))
    · have hin : vp_in (nI c) 13 := vp_in_nI (by omega) (by decide)
      exact xe_cell hN hc (br_f (by decide) (br_f (rl_n99 (by omega)) ⟨hin, br_f e (ye_cell hN hc (br_f (by decide) ⟨hin, rfl, I2⟩))⟩))
theorem rl_tok {r : Nat} {A : Prop} {v1 z : Int32} {t l : Nat → Nat} {N T ed : Int32} {ysh yol ydep ynx ysk : Nat → Int32} (hr : r < 13) (h8 : l r ≤ 8) (hz : z = nI r) (hA : A) : ((v1 < 0 → wY_tokenAt_27 (fun r' => r' = (-99) ∧ A) v1 z N T ed (ls_I t) (ls_I l) ysh yol ydep ynx ysk) ∧ (¬ v1 < 0 → (vp_in z 13 ∧ (((v1 < (ls_I l z.toNatClampNeg) → (vp_in ((z * 8) + v1) 104 ∧ (wY_tokenAt_27 (fun r' => r' = (ls_I t ((z * 8) + v1).toNatClampNeg) ∧ A) v1 z N T ed (ls_I t) (ls_I l) ysh yol ydep ynx ysk))) ∧ (¬ v1 < (ls_I l z.toNatClampNeg) → (wY_tokenAt_27 (fun r' => r' = (-99) ∧ A) v1 z N T ed (ls_I t) (ls_I l) ysh yol ydep ynx ysk))))))) := by
  subst hz
  have hin : vp_in (nI r) 13 := vp_in_nI hr (by decide)
  by_cases h0 : v1 < 0
  · exact br_t h0 (br_t h0 ⟨rfl, hA⟩)
  · obtain ⟨i, hi, rfl⟩ := nI_of h0
    have el : ls_I l (nI r).toNatClampNeg = nI (l r) := ls_Iat (by omega)
    by_cases h1 : i < l r
    · have h1' : nI i < ls_I l (nI r).toNatClampNeg := by rw [el]; exact nI_lt h1 (by omega)
      have hix : vp_in (nI r * 8 + nI i) 104 := by
        rw [show nI r * 8 = nI (r * 8) from pk_mul r 8, nI_add]
        exact vp_in_nI (by omega) (by decide)
      exact br_f h0 ⟨hin, br_t h1' ⟨hix, br_f h0 ⟨hin, br_t h1' ⟨hix, rfl, hA⟩⟩⟩⟩
    · have h1' : ¬ nI i < ls_I l (nI r).toNatClampNeg := by rw [el]; exact nI_nlt (by omega) (by omega)
      exact br_f h0 ⟨hin, br_f h1' (br_f h0 ⟨hin, br_f h1' ⟨rfl, hA⟩⟩)⟩
theorem i_vc_tokenAt {k : Nat} {u : SX} {v : SY} (I : i_Rel k u v) (hk : k + 3 ≤ 1538) (v1 : Int32) (v2 : Int32) : wpX_tokenAt (fun r => wpY_tokenAt (fun r' => r' = r ∧ i_Rel (k + 3) u v) v v1 v2) u v1 v2 := by
  have I2 : i_Rel (k + 3) u v := I
  obtain ⟨N, T, t, l, ed, sk, sh, os, de, re, le, so, od, D, ysh, yol, ydep, ynx, ysk, rfl, rfl, hN, hT, ha, hd, hs, hdl, hX, hY⟩ := I
  unfold wpX_tokenAt wpX_rowOf wpY_tokenAt
  by_cases e : v1 = (-1)
  · have h := rl_tok (v1 := v2) (z := 12) (t := t) (N := nI N) (T := nI T) (ed := ed) (ysh := ysh) (yol := yol) (ydep := ydep) (ynx := ynx) (ysk := ysk) (r := 12) (by omega) hd.1 rfl I2
    refine br_t e (br_f (by decide) ⟨fun z => br_t e (br_t e (h.1 z)), fun z => ⟨(h.2 z).1, fun y => ⟨((h.2 z).2.1 y).1, br_t e (br_t e ((h.2 z).2.1 y).2)⟩, fun y => br_t e (br_t e ((h.2 z).2.2 y))⟩⟩)
  · refine br_f e ?_
    rcases rl_ix v1 hN with h | ⟨c, hc, rfl⟩
    · exact xe_ncell h (br_t rfl (br_t rfl (br_f e (ye_ncell h (br_t rfl ⟨rfl, I2⟩)))))
    · have h := rl_tok (v1 := v2) (z := nI c) (t := t) (N := nI N) (T := nI T) (ed := ed) (ysh := ysh) (yol := yol) (ydep := ydep) (ynx := ynx) (ysk := ysk) (r := c) (by omega) (ha c hc).1.1 rfl I2
      exact xe_cell hN hc (br_f (by decide) (br_f (rl_n99 (by omega)) ⟨fun z => br_f e (ye_cell hN hc (br_f (by decide) (br_f e (h.1 z)))), fun z => ⟨(h.2 z).1, fun y => ⟨((h.2 z).2.1 y).1, br_f e (ye_cell hN hc (br_f (by decide) (br_f e ((h.2 z).2.1 y).2)))⟩, fun y => br_f e (ye_cell hN hc (br_f (by decide) (br_f e ((h.2 z).2.2 y))))⟩⟩))
