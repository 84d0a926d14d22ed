/-! push, dropDraft -/
theorem ls_dr_congr {N T n : Nat} {kd kd' ar ar' : Nat → Nat} (hk : ∀ i, i < n → kd i = kd' i) (ha : ∀ i, i < n → ar i = ar' i) (h : ls_dr N T n kd ar) : ls_dr N T n kd' ar' := by
  refine ⟨h.1, fun i hi => ?_⟩
  have := h.2 i hi
  rw [← hk i hi, ← ha i hi, ← ls_dp_congr i (fun j hj => hk j (by omega))]
  exact this
theorem ls_wf_congr {N T n : Nat} {kd kd' ar ar' : Nat → Nat} (hk : ∀ i, i < n → kd i = kd' i) (ha : ∀ i, i < n → ar i = ar' i) (h : ls_wf N T n kd ar) : ls_wf N T n kd' ar' := ⟨ls_dr_congr hk ha h.1, by rw [← ls_dp_congr n hk]; exact h.2⟩
/-- a row that holds the same tokens -/
theorem ls_row {t t' : Nat → Nat} {c c' n : Nat} (h : ∀ i, i < n → t (8 * c + i) = t' (8 * c' + i)) : (∀ i, i < n → ls_kd t c i = ls_kd t' c' i) ∧ ∀ i, i < n → ls_ar t c i = ls_ar t' c' i := by
  refine ⟨fun i hi => ?_, fun i hi => ?_⟩
  · unfold ls_kd; rw [h i hi]
  · unfold ls_ar; rw [h i hi]
theorem ls_all_low {N T : Nat} {t t' l l' : Nat → Nat} (hN : N ≤ 12) (ht : ∀ j, j < 96 → t j = t' j) (hl : ∀ c, c < N → l c = l' c) (h : ls_all N T t l) : ls_all N T t' l' := by
  intro c hc
  have h8 := (h c hc).1.1
  rw [← hl c hc]
  have r := ls_row (t := t) (t' := t') (c := c) (c' := c) (n := l c) (fun i hi => ht _ (by omega))
  exact ls_wf_congr r.1 r.2 (h c hc)
theorem rl_push {N T k a : Nat} {t l : Nat → Nat} (hd : ls_dr N T (l 12) (ls_kd t 12) (ls_ar t 12)) (h8 : l 12 < 8) (htok : ls_tok N T k a) (ha : a < 100) (hs : 2 ≤ k → 2 ≤ ls_dp (ls_kd t 12) (l 12)) : ls_dr N T (ls_up l 12 (l 12 + 1) 12) (ls_kd (ls_up t (96 + l 12) (100 * k + a)) 12) (ls_ar (ls_up t (96 + l 12) (100 * k + a)) 12) ∧ ls_dp (ls_kd (ls_up t (96 + l 12) (100 * k + a)) 12) (ls_up l 12 (l 12 + 1) 12) = (if k < 2 then ls_dp (ls_kd t 12) (l 12) + 1 else ls_dp (ls_kd t 12) (l 12) - 1) := by
  rw [ls_us]
  have r := ls_row (t := t) (t' := ls_up t (96 + l 12) (100 * k + a)) (c := 12) (c' := 12) (n := l 12) (fun i hi => (ls_un (by omega)).symm)
  have ek : ls_kd (ls_up t (96 + l 12) (100 * k + a)) 12 (l 12) = k := by
    show ls_up t (96 + l 12) (100 * k + a) (96 + l 12) / 100 = k
    rw [ls_us]; omega
  have ea : ls_ar (ls_up t (96 + l 12) (100 * k + a)) 12 (l 12) = a := by
    show ls_up t (96 + l 12) (100 * k + a) (96 + l 12) % 100 = a
    rw [ls_us]; omega
  have ed := ls_dp_congr (l 12) r.1
  have d2 := ls_dr_congr r.1 r.2 hd
  refine ⟨⟨by omega, fun i hi => ?_⟩, ?_⟩
  · by_cases e : i = l 12
    · rw [e, ek, ea, ← ed]; exact ⟨htok, hs⟩
    · exact d2.2 i (by omega)
  · by_cases h2 : k < 2
    · rw [if_pos h2, ls_dp_a (by rw [ek]; exact h2), ed]
    · rw [if_neg h2, ls_dp_b (by rw [ek]; exact h2), ed]
theorem xp_91 {N T k a : Nat} {x4 dd' : Int32} {t l : Nat → Nat} {post : Int32 → SX → Prop} {dd ed : Int32} {sk sh os de re le so od : Nat → Int32} (h8 : l 12 < 8) (h4 : (x4 = 0 → dd' = dd + (-1)) ∧ (¬ x4 = 0 → dd' = dd + 1)) (h : post 0 (nI N, nI T, dd', ed, ls_I (ls_up t (96 + l 12) (100 * k + a)), ls_I (ls_up l 12 (l 12 + 1)), sk, sh, os, de, re, le, so, od)) : wX_push_91 post (nI k) (nI (l 12)) x4 (nI a) (nI N) (nI T) dd ed (ls_I t) (ls_I l) sk sh os de re le so od := by
  have e1 : 96 + nI (l 12) = nI (96 + l 12) := nI_add 96 (l 12)
  have e2 : 100 * nI k + nI a = nI (100 * k + a) := by rw [show 100 * nI k = nI (100 * k) from pk_mul 100 k, nI_add]
  unfold wX_push_91
  rw [e1, e2, nI_clamp (by omega), ls_Iup, nI_1, ls_Iup]
  refine ⟨vp_in_nI (by omega) (by decide), nm_e (nm_e (br_c (fun z => nm_r (h4.1 z).symm h) (fun z => nm_r (h4.2 z).symm h)))⟩
theorem xp_59 {k : Nat} {x2 x3 x4 : Int32} {post : Int32 → SX → Prop} {N T dd ed : Int32} {tk ln sk sh os de re le so od : Nat → Int32} (hk : k ≤ 5) (h : wX_push_91 post (nI k) x3 x4 (if 2 ≤ k ∧ k ≤ 4 then 0 else x2) N T dd ed tk ln sk sh os de re le so od) : wX_push_59 post (nI k) x2 x3 x4 N T dd ed tk ln sk sh os de re le so od := by
  unfold wX_push_59 wX_push_74 wX_push_79
  by_cases p : 2 ≤ k ∧ k ≤ 4
  · rw [if_pos p] at h
    have h' := br_f (c := (1 : Int32) = 0) (A := wX_push_91 post (nI k) x3 x4 x2 N T dd ed tk ln sk sh os de re le so od) (by decide) h
    exact pk_eq k 2 (fun _ => h') (fun _ => pk_eq k 3 (fun _ => h') (fun _ => pk_eq k 4 (fun _ => h') (fun _ => by omega)))
  · rw [if_neg p] at h
    exact pk_eq k 2 (fun _ => by omega) (fun _ => pk_eq k 3 (fun _ => by omega) (fun _ => pk_eq k 4 (fun _ => by omega) (fun _ => br_t rfl h)))
def rl_arg (N T k : Nat) (v : Int32) : Prop := (k = 0 → ¬ v < 0 ∧ ¬ nI T < v) ∧ (k = 1 → ¬ v < 0 ∧ ¬ nI N ≤ v) ∧ (k = 5 → ¬ v < 1 ∧ ¬ nI T < v)
theorem rl_arg_tok {N T k : Nat} {v : Int32} (hN : N ≤ 12) (hT : T ≤ 15) (hk : k ≤ 5) (h : rl_arg N T k v) : ∃ a : Nat, a < 100 ∧ ls_tok N T k a ∧ (if 2 ≤ k ∧ k ≤ 4 then 0 else v) = nI a := by
  have h1 : ¬ v < 1 → ¬ v < 0 := fun z y => z (Int32.lt_trans y (by decide))
  by_cases p : 2 ≤ k ∧ k ≤ 4
  · exact ⟨0, by omega, ⟨hk, fun _ => by omega, fun _ => by omega, fun _ _ => rfl, fun _ => by omega⟩, by rw [if_pos p]; rfl⟩
  · rw [if_neg p]
    by_cases k0 : k = 0
    · have ⟨a1, a2⟩ := h.1 k0
      obtain ⟨a, ha, rfl⟩ := nI_of a1
      rw [nI_ltI (by omega) ha] at a2
      exact ⟨a, by omega, ⟨hk, fun _ => by omega, fun _ => by omega, fun _ => by omega, fun _ => by omega⟩, rfl⟩
    · by_cases k1 : k = 1
      · have ⟨a1, a2⟩ := h.2.1 k1
        obtain ⟨a, ha, rfl⟩ := nI_of a1
        rw [nI_leI (by omega) ha] at a2
        exact ⟨a, by omega, ⟨hk, fun _ => by omega, fun _ => by omega, fun _ => by omega, fun _ => by omega⟩, rfl⟩
      · have ⟨a1, a2⟩ := h.2.2 (by omega)
        obtain ⟨a, ha, rfl⟩ := nI_of (h1 a1)
        rw [nI_ltI (by omega) ha] at a2
        have a3 : ¬ a < 1 := fun z => a1 (nI_lt (b := 1) z (by decide))
        exact ⟨a, by omega, ⟨hk, fun _ => by omega, fun _ => by omega, fun _ => by omega, fun _ => by omega⟩, rfl⟩
theorem xp_arg {N T k : Nat} {v : Int32} {post : Int32 → Prop} {dd ed : Int32} {tk ln sk sh os de re le so od : Nat → Int32} (hk : k ≤ 5) (h1 : rl_arg N T k v → post 1) (h0 : ¬ rl_arg N T k v → post 0) : wpX_isArgument post (nI N, nI T, dd, ed, tk, ln, sk, sh, os, de, re, le, so, od) (nI k) v := by
  unfold wpX_isArgument
  refine pk_eq k 0 (fun k0 => ?_) (fun k0 => pk_eq k 1 (fun k1 => ?_) (fun k1 => pk_eq k 5 (fun k5 => ?_) (fun k5 => h1 ⟨fun z => absurd z k0, fun z => absurd z k1, fun z => absurd z k5⟩)))
  · exact br_c (fun z => h0 (fun y => (y.1 k0).1 z)) (fun z => br_c (fun x => h0 (fun y => (y.1 k0).2 x)) (fun x => h1 ⟨fun _ => ⟨z, x⟩, fun _ => by omega, fun _ => by omega⟩))
  · exact br_c (fun z => ⟨rfl, h0 (fun y => (y.2.1 k1).1 z)⟩) (fun z => br_c (fun x => ⟨rfl, h0 (fun y => (y.2.1 k1).2 x)⟩) (fun x => ⟨rfl, h1 ⟨fun _ => by omega, fun _ => ⟨z, x⟩, fun _ => by omega⟩⟩))
  · exact br_c (fun z => h0 (fun y => (y.2.2 k5).1 z)) (fun z => br_c (fun x => h0 (fun y => (y.2.2 k5).2 x)) (fun x => h1 ⟨fun _ => by omega, fun _ => by omega, fun _ => ⟨z, x⟩⟩))
theorem yp_117 {N T k a : Nat} {t l : Nat → Nat} {post : Int32 → SY → Prop} {ed : Int32} {sh ol dep nx sk : Nat → Int32} (h8 : l 12 < 8) (h : post 0 (nI N, nI T, ed, ls_I (ls_up t (96 + l 12) (100 * k + a)), ls_I (ls_up l 12 (l 12 + 1)), sh, ol, dep, nx, sk)) : wY_push_117 post (nI k) (nI a) (nI N) (nI T) ed (ls_I t) (ls_I l) sh ol dep nx sk := by
  have e0 : ls_I l 12 = nI (l 12) := rfl
  have e1 : 96 + nI (l 12) = nI (96 + l 12) := nI_add 96 (l 12)
  have e2 : 100 * nI k + nI a = nI (100 * k + a) := by rw [show 100 * nI k = nI (100 * k) from pk_mul 100 k, nI_add]
  unfold wY_push_117
  rw [e0, e1, e2, nI_clamp (by omega), ls_Iup, nI_1, ls_Iup]
  exact ⟨vp_in_nI (by omega) (by decide), nm_e (nm_e h)⟩
theorem yp_97 {k : Nat} {x2 : Int32} {post : Int32 → SY → Prop} {N T ed : Int32} {tk ln sh ol dep nx sk : Nat → Int32} (hk : k ≤ 5) (h : wY_push_117 post (nI k) (if 2 ≤ k ∧ k ≤ 4 then 0 else x2) N T ed tk ln sh ol dep nx sk) : wY_push_97 post (nI k) x2 N T ed tk ln sh ol dep nx sk := by
  unfold wY_push_97 wY_push_112
  by_cases p : 2 ≤ k ∧ k ≤ 4
  · rw [if_pos p] at h
    exact pk_eq k 2 (fun _ => h) (fun _ => pk_eq k 3 (fun _ => h) (fun _ => pk_eq k 4 (fun _ => h) (fun _ => by omega)))
  · rw [if_neg p] at h
    exact pk_eq k 2 (fun _ => by omega) (fun _ => pk_eq k 3 (fun _ => by omega) (fun _ => pk_eq k 4 (fun _ => by omega) (fun _ => h)))
theorem rl_le {x y : Int32} : x ≤ y ↔ ¬ y < x := Int32.not_lt.symm
theorem yp_push {N T k : Nat} {v : Int32} {t l : Nat → Nat} {post : Int32 → SY → Prop} {ed : Int32} {sh ol dep nx sk : Nat → Int32} (hN : N ≤ 12) (hT : T ≤ 15) (hk : k ≤ 5) (h8 : l 12 < 8) (hd : ls_dr N T (l 12) (ls_kd t 12) (ls_ar t 12)) (h3 : ¬ rl_arg N T k v → post 3 (nI N, nI T, ed, ls_I t, ls_I l, sh, ol, dep, nx, sk)) (h4 : rl_arg N T k v → 2 ≤ k → ls_dp (ls_kd t 12) (l 12) < 2 → post 4 (nI N, nI T, ed, ls_I t, ls_I l, sh, ol, dep, nx, sk)) (h0 : rl_arg N T k v → (2 ≤ k → 2 ≤ ls_dp (ls_kd t 12) (l 12)) → wY_push_97 post (nI k) v (nI N) (nI T) ed (ls_I t) (ls_I l) sh ol dep nx sk) : wpY_push post (nI N, nI T, ed, ls_I t, ls_I l, sh, ol, dep, nx, sk) (nI k) v := by
  have hdp := ls_dp_le (ls_kd t 12) (l 12)
  have h82 : rl_arg N T k v → wY_push_82 post (nI k) v (nI N) (nI T) ed (ls_I t) (ls_I l) sh ol dep nx sk := by
    intro h
    unfold wY_push_82
    refine pk_lt k 2 (fun z => h0 h (by omega)) (fun z => yp_depth hN hT hd (pk_le 2 _ (fun y => h0 h (fun _ => y)) (fun y => h4 h z y)))
  have h62 : ((k = 0 → ¬ v < 0 ∧ ¬ nI T < v) ∧ (k = 1 → ¬ v < 0 ∧ ¬ nI N ≤ v)) → wY_push_62 post (nI k) v (nI N) (nI T) ed (ls_I t) (ls_I l) sh ol dep nx sk := by
    intro h
    unfold wY_push_62
    refine pk_eq k 5 (fun k5 => br_c (fun z => h3 (fun y => (y.2.2 k5).1 z)) (fun z => br_c (fun x => h82 ⟨h.1, h.2, fun _ => ⟨z, rl_le.mp x⟩⟩) (fun x => h3 (fun y => x (rl_le.mpr (y.2.2 k5).2))))) (fun k5 => h82 ⟨h.1, h.2, fun z => absurd z k5⟩)
  have h43 : (k = 0 → ¬ v < 0 ∧ ¬ nI T < v) → wY_push_43 post (nI k) v (nI N) (nI T) ed (ls_I t) (ls_I l) sh ol dep nx sk := by
    intro h
    unfold wY_push_43
    refine pk_eq k 1 (fun k1 => br_c (fun z => h3 (fun y => (y.2.1 k1).1 z)) (fun z => br_c (fun x => h62 ⟨h, fun _ => ⟨z, fun y => rl_le.mp y x⟩⟩) (fun x => h3 (fun y => (y.2.1 k1).2 (rl_le.mpr x))))) (fun k1 => h62 ⟨h, fun z => absurd z k1⟩)
  refine br_f (nI_pos (by omega)) (br_t (nI_le (b := 5) hk (by decide)) (br_t (nI_lt (b := 8) h8 (by decide)) ?_))
  exact pk_eq k 0 (fun k0 => br_c (fun z => h3 (fun y => (y.1 k0).1 z)) (fun z => br_c (fun x => h43 (fun _ => ⟨z, rl_le.mp x⟩)) (fun x => h3 (fun y => x (rl_le.mpr (y.1 k0).2))))) (fun k0 => h43 (fun z => absurd z k0))
theorem i_vc_push {k : Nat} {u : SX} {v : SY} (I : i_Rel k u v) (hk : k + 3 ≤ 1538) (v1 : Int32) (v2 : Int32) : wpX_push (fun r u' => wpY_push (fun r' v' => r' = r ∧ i_Rel (k + 3) u' v') v v1 v2) u v1 v2 := by
  have I2 : i_Rel (k + 3) u v := I
  obtain ⟨N, T, t, l, ed, sk, sh, os, de, re, le, so, od, D, ysh, yol, ydep, ynx, ysk, rfl, rfl, hN, hT, ha, hd, hs, hdl, hX, hY⟩ := I
  by_cases g0 : v1 < 0
  · exact br_t g0 (br_t g0 ⟨rfl, I2⟩)
  by_cases g5 : v1 ≤ 5
  rotate_left
  · exact br_f g0 (br_f g5 (br_f g0 (br_f g5 ⟨rfl, I2⟩)))
  obtain ⟨q, hq, rfl⟩ := nI_of2 (M := 5) (n := 5) (by decide) g0 g5
  by_cases h8 : l 12 < 8
  rotate_left
  · have n8 : ¬ ls_I l 12 < 8 := nI_nlt (b := 8) (by omega) (by have := hd.1; omega)
    exact br_f g0 (br_t g5 (nm_e (br_f n8 (br_f g0 (br_t g5 (br_f n8 ⟨rfl, I2⟩))))))
  have y8 : ls_I l 12 < 8 := nI_lt (b := 8) h8 (by decide)
  have hdp := ls_dp_le (ls_kd t 12) (l 12)
  refine br_f g0 (br_t g5 (nm_r (e' := nI (l 12)) rfl (br_t y8 (xp_arg hq (fun hg => ?_) (fun hg => ?_)))))
  · refine br_f (by decide) ?_
    obtain ⟨a, ha1, htok, hkept⟩ := rl_arg_tok hN hT hq hg
    have acc : ∀ (x4 : Int32) (dd' : Int32), (2 ≤ q → 2 ≤ ls_dp (ls_kd t 12) (l 12)) → dd' = nI (if q < 2 then ls_dp (ls_kd t 12) (l 12) + 1 else ls_dp (ls_kd t 12) (l 12) - 1) → ((x4 = 0 → dd' = nI (ls_dp (ls_kd t 12) (l 12)) + (-1)) ∧ (¬ x4 = 0 → dd' = nI (ls_dp (ls_kd t 12) (l 12)) + 1)) → wX_push_59 (fun r u' => wpY_push (fun r' v' => r' = r ∧ i_Rel (k + 3) u' v') (nI N, nI T, ed, ls_I t, ls_I l, ysh, yol, ydep, ynx, ysk) (nI q) v2) (nI q) v2 (nI (l 12)) x4 (nI N) (nI T) (nI (ls_dp (ls_kd t 12) (l 12))) ed (ls_I t) (ls_I l) sk sh os de re le so od := by
      intro x4 dd' hsh hdd h4
      have P := rl_push hd h8 htok ha1 hsh
      have A' : ls_all N T (ls_up t (96 + l 12) (100 * q + a)) (ls_up l 12 (l 12 + 1)) := ls_all_low hN (fun j hj => (ls_un (by omega)).symm) (fun c hc => (ls_un (by omega)).symm) ha
      refine xp_59 hq ?_
      rw [hkept]
      refine xp_91 h8 h4 (yp_push hN hT hq h8 hd (fun z => absurd hg z) (fun _ z y => by have := hsh z; omega) (fun _ _ => yp_97 hq ?_))
      rw [hkept]
      refine yp_117 h8 ⟨rfl, N, T, _, _, ed, sk, sh, os, de, re, le, so, od, D, ysh, yol, ydep, ynx, ysk, ?_, rfl, hN, hT, A', P.1, hs, hdl, hX, hY⟩
      rw [P.2, hdd]
    refine xe_op (by omega) (fun z => ?_) (fun z => ?_)
    · exact br_f (by decide) (acc 1 _ (by omega) rfl ⟨fun y => absurd y (by decide), fun _ => by rw [if_pos z, nI_1]⟩)
    · refine br_t rfl (pk_le 2 _ (fun y => acc 0 _ (fun _ => y) rfl ⟨fun _ => ?_, fun y => absurd rfl y⟩) (fun y => ?_))
      · rw [if_neg z]
        rw [show nI (ls_dp (ls_kd t 12) (l 12)) = nI ((ls_dp (ls_kd t 12) (l 12) - 1) + 1) by rw [show (ls_dp (ls_kd t 12) (l 12) - 1) + 1 = ls_dp (ls_kd t 12) (l 12) by omega]]
        exact (pk_m1 _).symm
      · exact yp_push hN hT hq h8 hd (fun z => absurd hg z) (fun _ _ _ => ⟨rfl, I2⟩) (fun _ z => by have := z (by omega); omega)
  · exact br_t rfl (yp_push hN hT hq h8 hd (fun _ => ⟨rfl, I2⟩) (fun z => absurd z hg) (fun z => absurd z hg))
theorem ls_dr0 {N T : Nat} (kd ar : Nat → Nat) : ls_dr N T 0 kd ar := ⟨by omega, fun i hi => absurd hi (Nat.not_lt_zero i)⟩
theorem i_vc_dropDraft {k : Nat} {u : SX} {v : SY} (I : i_Rel k u v) (hk : k + 3 ≤ 1538) : wpX_dropDraft (fun u' => wpY_dropDraft (fun v' => i_Rel (k + 3) u' v') v) u := by
  obtain ⟨N, T, t, l, ed, sk, sh, os, de, re, le, so, od, D, ysh, yol, ydep, ynx, ysk, rfl, rfl, hN, hT, ha, hd, hs, hdl, hX, hY⟩ := I
  refine nm_r (e' := ls_I (ls_up l 12 0)) ls_Iup (nm_r (e' := ls_I (ls_up l 12 0)) ls_Iup ?_)
  refine ⟨N, T, t, ls_up l 12 0, ed, sk, sh, os, de, re, le, so, od, D, ysh, yol, ydep, ynx, ysk, ?_, rfl, hN, hT, ls_all_low hN (fun _ _ => rfl) (fun c hc => (ls_un (by omega)).symm) ha, ?_, hs, hdl, hX, hY⟩
  · rw [ls_us]; rfl
  · rw [ls_us]; exact ls_dr0 _ _
