/-! setInput, commit -/
theorem lf_FC {N T : Nat} {F F' : (Nat → Nat) → Nat → Nat} {w : Nat → Nat} (h : ∀ w c, c < N → F w c = F' w c) (l : lf_least N T F w) : lf_least N T F' w :=
  ⟨⟨l.1.1, fun c hc => by rw [← h w c hc]; exact l.1.2 c hc⟩, fun v hv c hc => l.2 v ⟨hv.1, fun c hc => by rw [h v c hc]; exact hv.2 c hc⟩ c hc⟩
theorem ed_U {N : Nat} {t l ly : Nat → Nat} (hl : ∀ c, c < N → l c = ly c) : de_Ub N t l = de_Ub N t ly := by
  funext c d
  unfold de_Ub
  by_cases h : c < N
  · rw [hl c h]
  · rw [decide_eq_false h, Bool.false_and, Bool.false_and]
theorem ed_rel {N T k : Nat} {t l ly w w' : Nat → Nat} {e : Int32} {sk sh sh' os de re le so od ysh ysh' yol ydep ynx ysk : Nat → Int32} (hN : N ≤ 12) (hT : T ≤ 15) (ha : ls_all N T t l) (hd : ls_dr N T (l 12) (ls_kd t 12) (ls_ar t 12)) (hl : ∀ c, c < N → l c = ly c) (x1 : ∀ d, d < N → sh' d = nI (w d)) (x2 : lf_least N T (ls_F T t l) w) (x3 : ∀ d, d < N → de d = sh' d - sh d) (x4 : xs_ok N (wa_S (de_Ub N t l) N) re le od) (y1 : ∀ d, d < N → ysh' d = nI (w' d)) (y2 : lf_least N T (ls_F T t ly) w') (y3 : ∀ d, d < N → yol d = ysh d) (y4 : yd_ok N (wa_S (de_Ub N t ly) N) ydep) (hs : ∀ c, c < N → sh c = ysh c) : i_Rel k (nI N, nI T, nI (ls_dp (ls_kd t 12) (l 12)), e, ls_I t, ls_I l, sk, sh', os, de, re, le, so, od) (nI N, nI T, e, ls_I t, ls_I l, ysh', yol, ydep, ynx, ysk) := by
  have x2' : lf_least N T (ls_F T t ly) w := lf_FC (fun w c hc => by unfold ls_F; rw [hl c hc]) x2
  have ew := lf_uniq x2' y2
  have es : ∀ c, c < N → sh' c = ysh' c := fun c hc => by rw [x1 c hc, y1 c hc, ew c hc]
  rw [← ed_U hl] at y4
  exact ⟨N, T, t, l, e, sk, sh', os, de, re, le, so, od, _, ysh', yol, ydep, ynx, ysk, rfl, rfl, hN, hT, ha, hd, es, fun c hc => by rw [x3 c hc, es c hc, hs c hc, y3 c hc], x4, y4⟩
theorem rl_set {N T c x : Nat} {t l : Nat → Nat} (hN : N ≤ 12) (hT : T ≤ 15) (hc : c < N) (hx : x ≤ T) (ha : ls_all N T t l) (hd : ls_dr N T (l 12) (ls_kd t 12) (ls_ar t 12)) : ls_all N T (ls_up t (8 * c) x) (ls_up l c 1) ∧ ls_dr N T (ls_up l c 1 12) (ls_kd (ls_up t (8 * c) x) 12) (ls_ar (ls_up t (8 * c) x) 12) ∧ ls_dp (ls_kd (ls_up t (8 * c) x) 12) (ls_up l c 1 12) = ls_dp (ls_kd t 12) (l 12) := by
  have h8 := hd.1
  have r := ls_row (t := t) (t' := ls_up t (8 * c) x) (c := 12) (c' := 12) (n := l 12) (fun i hi => (ls_un (by omega)).symm)
  have e12 : ls_up l c 1 12 = l 12 := ls_un (by omega)
  refine ⟨fun c' hc' => ?_, ?_, ?_⟩
  · by_cases e : c' = c
    · subst e
      have ek : ls_kd (ls_up t (8 * c') x) c' 0 = 0 := by
        show ls_up t (8 * c') x (8 * c' + 0) / 100 = 0
        rw [Nat.add_zero, ls_us]; omega
      have ea : ls_ar (ls_up t (8 * c') x) c' 0 = x := by
        show ls_up t (8 * c') x (8 * c' + 0) % 100 = x
        rw [Nat.add_zero, ls_us]; omega
      rw [ls_us]
      refine ⟨⟨by omega, fun i hi => ?_⟩, ?_⟩
      · have e0 : i = 0 := by omega
        subst e0
        rw [ek, ea]
        exact ⟨⟨by omega, fun _ => hx, fun _ => by omega, fun _ => by omega, fun _ => by omega⟩, fun _ => by omega⟩
      · rw [ls_dp_a (by rw [ek]; omega)]; rfl
    · have h8' := (ha c' hc').1.1
      rw [ls_un e]
      have r' := ls_row (t := t) (t' := ls_up t (8 * c) x) (c := c') (c' := c') (n := l c') (fun i hi => (ls_un (by omega)).symm)
      exact ls_wf_congr r'.1 r'.2 (ha c' hc')
  · rw [e12]; exact ls_dr_congr r.1 r.2 hd
  · rw [e12]; exact (ls_dp_congr (l 12) r.1).symm
theorem i_vc_setInput {k : Nat} {u : SX} {v : SY} (I : i_Rel k u v) (hk : k + 3 ≤ 1538) (v1 : Int32) (v2 : Int32) : wpX_setInput (fun r u' => wpY_setInput (fun r' v' => r' = r ∧ i_Rel (k + 3) u' v') v v1 v2) u v1 v2 := by
  have I2 : i_Rel (k + 3) u v := I
  obtain ⟨N, T, t, l, ed, sk, sh, os, de, re, le, so, od, D, ysh, yol, ydep, ynx, ysk, rfl, rfl, hN, hT, ha, hd, hs, hdl, hX, hY⟩ := I
  unfold wpX_setInput wpY_setInput
  rcases rl_ix v1 hN with h | ⟨c, hc, rfl⟩
  · exact xe_ncell h (br_t rfl (ye_ncell h (br_t rfl ⟨rfl, I2⟩)))
  refine xe_cell hN hc (br_f (by decide) (xp_arg (k := 0) (by omega) (fun hg => ?_) (fun hg => ?_)))
  rotate_left
  · refine br_t rfl (ye_cell hN hc (br_f (by decide) (br_c (fun _ => ⟨rfl, I2⟩) (fun z => br_c (fun y => ?_) (fun _ => ⟨rfl, I2⟩)))))
    exact absurd (show rl_arg N T 0 v2 from ⟨fun _ => ⟨z, rl_le.mp y⟩, fun z => absurd z (by decide), fun z => absurd z (by decide)⟩) hg
  have ⟨a1, a2⟩ := hg.1 rfl
  obtain ⟨x, hx, rfl⟩ := nI_of a1
  have hxT : x ≤ T := by rw [nI_ltI (by omega) hx] at a2; omega
  have ⟨A', d', p'⟩ := rl_set hN hT hc hxT ha hd
  have e1 : nI c * 8 = nI (8 * c) := by rw [Nat.mul_comm]; exact pk_mul c 8
  have i1 : vp_in (nI c * 8) 104 := by rw [e1]; exact vp_in_nI (by omega) (by decide)
  have i2 : vp_in (nI c) 13 := vp_in_nI (by omega) (by decide)
  have et : upd (ls_I t) (nI c * 8).toNatClampNeg (0 + nI x) = ls_I (ls_up t (8 * c) x) := by rw [e1, nI_clamp (by omega), Int32.zero_add, ls_Iup]
  have el : upd (ls_I l) (nI c).toNatClampNeg 1 = ls_I (ls_up l c 1) := by rw [nI_clamp (by omega)]; exact ls_Iup (x := 1)
  refine br_f (by decide) ⟨i1, nm_r et ⟨i2, nm_r el (xt_settle hN hT A' (fun sk' sh' os' de' re' le' so' od' w x1 x2 x3 x4 => ?_))⟩⟩
  refine ye_cell hN hc (br_f (by decide) (br_f a1 (br_t (rl_le.mpr a2) ⟨i1, nm_r et ⟨i2, nm_r el (yt_finish hN hT A' (fun ysh' yol' ydep' ynx' ysk' w' y1 y2 y3 y4 => ⟨rfl, ?_⟩))⟩⟩)))
  rw [← p']
  exact ed_rel hN hT A' d' (fun _ _ => rfl) x1 x2 x3 x4 y1 y2 y3 y4 hs
def cp_t (t : Nat → Nat) (c : Nat) : Nat → Nat → Nat
  | 0 => t
  | i + 1 => ls_up (cp_t t c i) (8 * c + i) (cp_t t c i (96 + i))
theorem cp_at {t : Nat → Nat} {c : Nat} (hc : c < 12) : ∀ n, n ≤ 8 → ∀ j, cp_t t c n j = if 8 * c ≤ j ∧ j < 8 * c + n then t (96 + (j - 8 * c)) else t j
  | 0, _, j => by
    rw [if_neg (by omega)]; rfl
  | n + 1, hn, j => by
    show ls_up (cp_t t c n) (8 * c + n) (cp_t t c n (96 + n)) j = _
    by_cases e : j = 8 * c + n
    · rw [e, ls_us, cp_at hc n (by omega), if_neg (by omega), if_pos (by omega)]
      exact congrArg t (by omega)
    · rw [ls_un e, cp_at hc n (by omega) j]
      by_cases z : 8 * c ≤ j ∧ j < 8 * c + n
      · rw [if_pos z, if_pos (by omega)]
      · rw [if_neg z, if_neg (by omega)]
theorem rl_copy {N T c : Nat} {t l : Nat → Nat} (hN : N ≤ 12) (hc : c < N) (ha : ls_all N T t l) (hd : ls_dr N T (l 12) (ls_kd t 12) (ls_ar t 12)) (h1 : ls_dp (ls_kd t 12) (l 12) = 1) : ls_all N T (cp_t t c (l 12)) (ls_up l c (l 12)) := by
  have h8 := hd.1
  intro c' hc'
  by_cases e : c' = c
  · subst e
    rw [ls_us]
    have r := ls_row (t := t) (t' := cp_t t c' (l 12)) (c := 12) (c' := c') (n := l 12) (fun i hi => by
      rw [cp_at (by omega) _ h8, if_pos (by omega)]
      exact congrArg t (by omega))
    exact ls_wf_congr r.1 r.2 ⟨hd, h1⟩
  · have h8' := (ha c' hc').1.1
    rw [ls_un e]
    have r := ls_row (t := t) (t' := cp_t t c (l 12)) (c := c') (c' := c') (n := l c') (fun i hi => by
      rw [cp_at (by omega) _ h8, if_neg (by omega)])
    exact ls_wf_congr r.1 r.2 (ha c' hc')
theorem cp_upd {t : Nat → Nat} {c i : Nat} (hc : c < 12) (hi : i < 8) : upd (ls_I (cp_t t c i)) (nI c * 8 + nI i).toNatClampNeg (ls_I (cp_t t c i) (96 + nI i).toNatClampNeg) = ls_I (cp_t t c (i + 1)) := by
  rw [show nI c * 8 + nI i = nI (8 * c + i) by rw [Nat.mul_comm, show nI c * 8 = nI (c * 8) from pk_mul c 8, nI_add], show 96 + nI i = nI (96 + i) from nI_add 96 i, nI_clamp (by omega), ls_Iat (by omega), ls_Iup]
  rfl
theorem cp_in {c i : Nat} (hc : c < 12) (hi : i < 8) : vp_in (96 + nI i) 104 ∧ vp_in (nI c * 8 + nI i) 104 := by
  rw [show nI c * 8 + nI i = nI (8 * c + i) by rw [Nat.mul_comm, show nI c * 8 = nI (c * 8) from pk_mul c 8, nI_add], show 96 + nI i = nI (96 + i) from nI_add 96 i]
  exact ⟨vp_in_nI (by omega) (by decide), vp_in_nI (by omega) (by decide)⟩
theorem xc_draft {c : Nat} {t l : Nat → Nat} {N T dd ed : Int32} {sk sh os de re le so od : Nat → Int32} {post : SX → Prop} (hc : c < 12) (h8 : l 12 ≤ 8) (hp : post (N, T, dd, ed, ls_I (cp_t t c (l 12)), ls_I (ls_up l c (l 12)), sk, sh, os, de, re, le, so, od)) : ∀ (m i n : Nat), i + m = l 12 → m < n → wX_writeDraft_10 post (nI c) (nI (l 12)) N T dd ed n (nI i) (ls_I (cp_t t c i)) (ls_I l) sk sh os de re le so od := by
  intro m
  induction m with
  | zero =>
    intro i n hi hn
    obtain ⟨n, rfl⟩ : ∃ k, n = k + 1 := ⟨n - 1, by omega⟩
    have e : i = l 12 := by omega
    refine br_t (nI_le (by omega) (by omega)) ⟨vp_in_nI (by omega) (by decide), nm_r (e' := ls_I (ls_up l c (l 12))) (by rw [nI_clamp (by omega), ls_Iup]) ?_⟩
    rw [e]
    exact hp
  | succ m ih =>
    intro i n hi hn
    obtain ⟨n, rfl⟩ : ∃ k, n = k + 1 := ⟨n - 1, by omega⟩
    have ⟨i1, i2⟩ := cp_in (i := i) hc (by omega)
    exact br_f (nI_ge (by omega) (by omega)) ⟨i1, i2, nm_r (cp_upd hc (by omega)) (nm_r (nI_1 i) (ih (i + 1) n (by omega) (by omega)))⟩
theorem yc_draft {c : Nat} {t l : Nat → Nat} {N T ed : Int32} {sh ol dep nx sk : Nat → Int32} {post : Int32 → SY → Prop} (hc : c < 12) (h8 : l 12 ≤ 8) (hp : wpY_finishEdit (fun u => match u with | (f_n, f_top, f_editedCell, a_tokens, a_lengths, a_shown, a_old, a_dep, a_next, a_stack) => ∀ ln' : Nat → Int32, ln' = upd a_lengths 12 0 → post 0 (f_n, f_top, f_editedCell, a_tokens, ln', a_shown, a_old, a_dep, a_next, a_stack)) (N, T, ed, ls_I (cp_t t c (l 12)), ls_I (ls_up l c (l 12)), sh, ol, dep, nx, sk) (nI c)) : ∀ (m i n : Nat), i + m = l 12 → m < n → wY_commit_23 post (nI c) N T ed n (nI i) (ls_I (cp_t t c i)) (ls_I l) sh ol dep nx sk := by
  have el : ls_I l 12 = nI (l 12) := rfl
  intro m
  induction m with
  | zero =>
    intro i n hi hn
    obtain ⟨n, rfl⟩ : ∃ k, n = k + 1 := ⟨n - 1, by omega⟩
    have e : i = l 12 := by omega
    refine br_t (by rw [el]; exact nI_le (by omega) (by omega)) ⟨vp_in_nI (by omega) (by decide), nm_r (e' := ls_I (ls_up l c (l 12))) (by rw [el, nI_clamp (by omega), ls_Iup]) ?_⟩
    rw [e]
    exact hp
  | succ m ih =>
    intro i n hi hn
    obtain ⟨n, rfl⟩ : ∃ k, n = k + 1 := ⟨n - 1, by omega⟩
    have ⟨i1, i2⟩ := cp_in (i := i) hc (by omega)
    exact br_f (by rw [el]; exact nI_ge (by omega) (by omega)) ⟨i1, i2, nm_r (cp_upd hc (by omega)) (nm_r (nI_1 i) (ih (i + 1) n (by omega) (by omega)))⟩
theorem i_vc_commit {k : Nat} {u : SX} {v : SY} (I : i_Rel k u v) (hk : k + 3 ≤ 1538) (v1 : Int32) : wpX_commit (fun r u' => wpY_commit (fun r' v' => r' = r ∧ i_Rel (k + 3) u' v') v v1) u v1 := by
  have I2 : i_Rel (k + 3) u v := I
  obtain ⟨N, T, t, l, ed, sk, sh, os, de, re, le, so, od, D, ysh, yol, ydep, ynx, ysk, rfl, rfl, hN, hT, ha, hd, hs, hdl, hX, hY⟩ := I
  have h8 := hd.1
  have hdp := ls_dp_le (ls_kd t 12) (l 12)
  unfold wpX_commit wpY_commit
  rcases rl_ix v1 hN with h | ⟨c, hc, rfl⟩
  · exact xe_ncell h (br_t rfl (ye_ncell h (br_t rfl ⟨rfl, I2⟩)))
  refine xe_cell hN hc (br_f (by decide) (pk_eq _ 1 (fun h1 => ?_) (fun h1 => ?_)))
  rotate_left
  · exact ye_cell hN hc (br_f (by decide) (yp_depth hN hT hd (pk_eq _ 1 (fun z => absurd z h1) (fun _ => ⟨rfl, I2⟩))))
  have A1 := rl_copy hN hc ha hd h1
  have A2 : ls_all N T (cp_t t c (l 12)) (ls_up (ls_up l c (l 12)) 12 0) := ls_all_low hN (fun _ _ => rfl) (fun c' hc' => (ls_un (by omega)).symm) A1
  refine nm_r (e' := nI (l 12)) rfl ⟨l 12 + 1, xc_draft (by omega) h8 ?_ (l 12) 0 (l 12 + 1) (by omega) (by omega)⟩
  refine nm_r (e' := ls_I (ls_up (ls_up l c (l 12)) 12 0)) ls_Iup (xt_settle hN hT A2 (fun sk' sh' os' de' re' le' so' od' w x1 x2 x3 x4 => ?_))
  refine ye_cell hN hc (br_f (by decide) (yp_depth hN hT hd (pk_eq _ 1 (fun _ => ⟨l 12 + 1, yc_draft (by omega) h8 ?_ (l 12) 0 (l 12 + 1) (by omega) (by omega)⟩) (fun z => absurd h1 z))))
  refine yt_finish hN hT A1 (fun ysh' yol' ydep' ynx' ysk' w' y1 y2 y3 y4 => nm_r (e' := ls_I (ls_up (ls_up l c (l 12)) 12 0)) ls_Iup ⟨rfl, ?_⟩)
  have R := ed_rel (k := k + 3) (e := nI c) (sk := sk') (os := os') (so := so') (ynx := ynx') (ysk := ysk') hN hT A2 (by rw [ls_us]; exact ls_dr0 _ _) (fun c' hc' => ls_un (by omega)) x1 x2 x3 x4 y1 y2 y3 y4 hs
  rw [ls_us] at R
  exact R
