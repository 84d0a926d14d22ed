/-! the law: its check of the read-back formulas, its own least solution, the comparison -/
theorem lx_len {N T c : Nat} {t l : Nat → Nat} {post : Int32 → Prop} {dd ed : Int32} {sk sh os de re le so od : Nat → Int32} (hN : N ≤ 12) (hc : c < N) (h : post (nI (l c))) : wpX_length post (nI N, nI T, dd, ed, ls_I t, ls_I l, sk, sh, os, de, re, le, so, od) (nI c) := by
  unfold wpX_length wpX_rowOf
  refine br_f (rl_n1 (by omega)) (xe_cell hN hc (br_f (by decide) (br_f (rl_n99 (by omega)) ⟨vp_in_nI (by omega) (by decide), ?_⟩)))
  rw [ls_Iat (by omega)]
  exact h
theorem lx_tok {N T c i : Nat} {t l : Nat → Nat} {post : Int32 → Prop} {dd ed : Int32} {sk sh os de re le so od : Nat → Int32} (hN : N ≤ 12) (hc : c < N) (h8 : l c ≤ 8) (hi : i < l c) (h : post (nI (t (8 * c + i)))) : wpX_tokenAt post (nI N, nI T, dd, ed, ls_I t, ls_I l, sk, sh, os, de, re, le, so, od) (nI c) (nI i) := by
  have e : nI c * 8 + nI i = nI (8 * c + i) := by rw [Nat.mul_comm, show nI c * 8 = nI (c * 8) from pk_mul c 8, nI_add]
  unfold wpX_tokenAt wpX_rowOf
  refine br_f (rl_n1 (by omega)) (xe_cell hN hc (br_f (by decide) (br_f (rl_n99 (by omega)) (br_f (nI_pos (by omega)) ⟨vp_in_nI (by omega) (by decide), ?_⟩))))
  rw [e, ls_Iat (by omega), ls_Iat (by omega)]
  exact br_t (nI_lt hi (by omega)) ⟨vp_in_nI (by omega) (by decide), h⟩
theorem lx_delta {N c : Nat} {post : Int32 → Prop} {T dd ed : Int32} {tk ln sk sh os de re le so od : Nat → Int32} (hN : N ≤ 12) (hc : c < N) (h : post (de c)) : wpX_delta post (nI N, T, dd, ed, tk, ln, sk, sh, os, de, re, le, so, od) (nI c) := by
  unfold wpX_delta
  refine xe_cell hN hc (br_f (by decide) ⟨vp_in_nI (by omega) (by decide), ?_⟩)
  rw [nI_clamp (by omega)]
  exact h
theorem lx_dep {N c e : Nat} {post : Int32 → Prop} {T dd ed : Int32} {tk ln sk sh os de re le so od : Nat → Int32} (hN : N ≤ 12) (hc : c < N) (he : e < N) (hb : bt (re c) e = true) (h : post 1) : wpX_depends post (nI N, T, dd, ed, tk, ln, sk, sh, os, de, re, le, so, od) (nI c) (nI e) := by
  unfold wpX_depends
  refine xe_cell hN hc (br_f (by decide) (xe_cell hN he (br_f (by decide) (xr_reaches (by omega) (by omega) (fun _ => br_f (by decide) h) (fun z => ?_)))))
  rw [hb] at z
  exact Bool.noConfusion z
theorem sp_n0 {s : Nat → Nat} {d : Nat} (hd : 1 ≤ d) (h : ∀ j, j < d → s j ≤ 15) : sp_s s d / 16 ^ 0 % 16 = s (d - 1) := by
  obtain ⟨e, rfl⟩ : ∃ e, d = e + 1 := ⟨d - 1, by omega⟩
  have := h e (by omega)
  rw [sp_e, Nat.pow_zero, Nat.div_one, Nat.add_sub_cancel]
  omega
theorem sp_n1 {s : Nat → Nat} {d : Nat} (hd : 2 ≤ d) (h : ∀ j, j < d → s j ≤ 15) : sp_s s d / 16 ^ 1 % 16 = s (d - 2) := by
  obtain ⟨e, rfl⟩ : ∃ e, d = e + 2 := ⟨d - 2, by omega⟩
  have h1 := h e (by omega)
  have h2 := h (e + 1) (by omega)
  rw [sp_e, sp_e, Nat.pow_one, Nat.add_sub_cancel]
  omega
theorem sp_dv {s : Nat → Nat} {d : Nat} (hd : 2 ≤ d) (h : ∀ j, j < d → s j ≤ 15) : sp_s s d / 256 = sp_s s (d - 2) := by
  obtain ⟨e, rfl⟩ : ∃ e, d = e + 2 := ⟨d - 2, by omega⟩
  have h1 := h e (by omega)
  have h2 := h (e + 1) (by omega)
  rw [sp_e, sp_e, Nat.add_sub_cancel]
  omega
theorem sp_put (s : Nat → Nat) (d v : Nat) : sp_s s d * 16 + v = sp_s (ls_up s d v) (d + 1) := by
  rw [sp_e, ls_us, sp_congr (s := ls_up s d v) (s' := s) d (fun j hj => ls_un (by omega))]
theorem sp_8 {s : Nat → Nat} {d : Nat} (hd : d ≤ 8) (h : ∀ j, j < d → s j ≤ 15) : sp_s s d < 16 ^ 8 := Nat.lt_of_lt_of_le (sp_lt d h) (Nat.pow_le_pow_right (by omega) hd)
theorem mp_62 {w : Nat → Nat} {N : Nat} (hN : N ≤ 12) (h : ∀ c, c < N → w c ≤ 15) : mp_w w N < 2 ^ 62 := Nat.lt_of_lt_of_le (mp_lt N h) (Nat.le_trans (Nat.pow_le_pow_right (by omega) hN) (by decide))
theorem le_672 {L : Nat} {xs : Nat → Int32} {N T : Nat} {t l : Nat → Nat} {x5 x6 x7 x8 x11 x12 x13 x14 dd ed : Int32} {x9 : Int64} {kc ks : Nat} {sk sh os de re le so od : Nat → Int32} {post : Int32 → Prop} {J112 : Int32 → Int32 → Int32 → Int32 → Int64 → Int32 → Int32 → Int32 → Int32 → Int32 → (Nat → Int32) → (Nat → Int32) → (Nat → Int32) → (Nat → Int32) → (Nat → Int32) → (Nat → Int32) → (Nat → Int32) → (Nat → Int32) → (Nat → Int32) → (Nat → Int32) → Prop} {c : Nat} {w : Nat → Nat} {x17 x18 : Int32} {J615 J634 : Int64 → Int32 → Int32 → Prop} (hN : N ≤ 12) (hT : T ≤ 15) (hw : ls_wf N T (l c) (ls_kd t c) (ls_ar t c)) (hc : c < N) (hb : ∀ d, d < N → w d ≤ T) (hle : w c ≤ ls_F T t l w c) (K1 : ls_F T t l w c = w c → J634 (lN (mp_w w N)) x17 (nI (c + 1))) (K2 : ¬ ls_F T t l w c = w c → J634 (lN (mp_w (ls_up w c (ls_F T t l w c)) N)) 1 (nI (c + 1))) : ∀ (m i n : Nat), i + m = l c → m < n → wL_law_672 post L xs J112 J615 J634 (nI N) (nI T) x5 x6 x7 x8 x9 x11 x12 x13 x14 (lN (mp_w w N)) x17 x18 (nI c) (nI (l c)) kc ks (nI N) (nI T) dd ed (ls_I t) (ls_I l) sk sh os de re le so od n (lN (sp_s (ls_st T w (ls_kd t c) (ls_ar t c) i) (ls_dp (ls_kd t c) i))) (nI (ls_dp (ls_kd t c) i)) (nI i) := by
  have h8 := hw.1.1
  have hb15 : ∀ d, d < N → w d ≤ 15 := fun d hd => Nat.le_trans (hb d hd) hT
  have hm62 := mp_62 hN hb15
  intro m
  induction m with
  | zero =>
    intro i n hi hn
    obtain ⟨n, rfl⟩ : ∃ k, n = k + 1 := ⟨n - 1, by omega⟩
    have e : i = l c := by omega
    subst e
    have hF : ls_F T t l w c ≤ T := ls_ev_le hw hb
    have e0 : sp_s (ls_st T w (ls_kd t c) (ls_ar t c) (l c)) (ls_dp (ls_kd t c) (l c)) = ls_F T t l w c := by
      rw [hw.2]
      show 0 * 16 + ls_st T w (ls_kd t c) (ls_ar t c) (l c) 0 = _
      rw [Nat.zero_mul, Nat.zero_add]
      rfl
    rw [e0, hw.2]
    refine br_t (nI_le (by omega) (by omega)) (br_t rfl (la_nib (c := 0) (by omega) (by omega) (la_nib (c := c) hm62 (by omega) ?_)))
    rw [mp_at N hb15 c hc, Nat.pow_zero, Nat.div_one, Nat.mod_eq_of_lt (by omega)]
    refine nm_r (pk_sub hle) (pk_eq (ls_F T t l w c - w c) 0 (fun z => nm_r (nI_1 c) (K1 (by omega))) (fun z => nm_r ?_ (nm_r (nI_1 c) (K2 (by omega)))))
    rw [nI_l (by omega), show 4 * nI c = nI (4 * c) from pk_mul 4 c, wb_shl _ (by omega), lN_add, la_16]
    have u := mp_up (w := w) (c := c) (v := ls_F T t l w c) N hc
    rw [Nat.sub_mul]
    have g : w c * 16 ^ c ≤ ls_F T t l w c * 16 ^ c := Nat.mul_le_mul_right _ hle
    exact congrArg lN (by omega)
  | succ m ih =>
    intro i n hi hn
    obtain ⟨n, rfl⟩ : ∃ k, n = k + 1 := ⟨n - 1, by omega⟩
    have ⟨h5, ha, h6, hi8, hsh, href⟩ := xe_tok hN hT hw.1 (i := i) (by omega)
    have ⟨ht, _⟩ := hw.1.2 i (by omega)
    have hd := ls_dp_le (ls_kd t c) i
    have hst : ∀ j, j < ls_dp (ls_kd t c) i → ls_st T w (ls_kd t c) (ls_ar t c) i j ≤ T := ls_st_le hw.1 hb i (by omega)
    have hs15 : ∀ j, j < ls_dp (ls_kd t c) i → ls_st T w (ls_kd t c) (ls_ar t c) i j ≤ 15 := fun j hj => Nat.le_trans (hst j hj) hT
    have hs8 := sp_8 (by omega) hs15
    have hs62 : sp_s (ls_st T w (ls_kd t c) (ls_ar t c) i) (ls_dp (ls_kd t c) i) < 2 ^ 62 := Nat.lt_of_lt_of_le hs8 (by decide)
    have ihd := ih (i + 1) n (by omega) (by omega)
    refine br_f (nI_ge (by omega) (by omega)) (lx_tok hN hc h8 (by omega) (br_f (nI_pos (by omega)) (br_t (nI_lt (b := 600) h6 (by decide)) ⟨by decide, nm_r (e' := nI (ls_kd t c i)) (pk_div (d := 100) (by omega) (by omega) (by omega)) ⟨by decide, nm_r (e' := nI (ls_ar t c i)) (pk_rem (d := 100) (by omega) (by omega) (by omega)) (pk_le 2 _ (fun h2 => ?_) (fun h2 => ?_))⟩⟩)))
    · have hk : ¬ ls_kd t c i < 2 := by omega
      have d2 := hsh h2
      have op805 : wL_law_805 post L xs J112 J615 J634 (wL_law_672 post L xs J112 J615 J634 (nI N) (nI T) x5 x6 x7 x8 x9 x11 x12 x13 x14 (lN (mp_w w N)) x17 x18 (nI c) (nI (l c)) kc ks (nI N) (nI T) dd ed (ls_I t) (ls_I l) sk sh os de re le so od n) (nI N) (nI T) x5 x6 x7 x8 x9 x11 x12 x13 x14 (lN (mp_w w N)) x17 x18 (nI c) (nI (l c)) (lN (sp_s (ls_st T w (ls_kd t c) (ls_ar t c) i) (ls_dp (ls_kd t c) i))) (nI (ls_dp (ls_kd t c) i)) (nI i) (nI (ls_kd t c i)) (nI (ls_ar t c i)) kc ks (nI N) (nI T) dd ed (ls_I t) (ls_I l) sk sh os de re le so od := by
        unfold wL_law_805
        refine la_nib (c := 1) hs62 (by omega) (la_nib (c := 0) hs62 (by omega) ?_)
        rw [sp_n1 d2 hs15, sp_n0 (by omega) hs15]
        refine la_op hT ha (hst _ (by omega)) (hst _ (by omega)) h2 h5 ?_
        have hcm : ls_cmb T (ls_kd t c i) (ls_ar t c i) (ls_st T w (ls_kd t c) (ls_ar t c) i (ls_dp (ls_kd t c) i - 2)) (ls_st T w (ls_kd t c) (ls_ar t c) i (ls_dp (ls_kd t c) i - 1)) ≤ T := ls_cmb_le (hst _ (by omega)) (hst _ (by omega))
        have hlow : sp_s (ls_st T w (ls_kd t c) (ls_ar t c) i) (ls_dp (ls_kd t c) i - 2) < 16 ^ 8 := sp_8 (by omega) (fun j hj => hs15 j (by omega))
        rw [la_pop hs8, sp_dv d2 hs15, la_put hlow (by omega), sp_put, show ls_dp (ls_kd t c) i - 2 + 1 = ls_dp (ls_kd t c) i - 1 by omega, ← ls_st_b hk]
        rw [ls_dp_b hk] at ihd
        refine nm_e (nm_r (e' := nI (ls_dp (ls_kd t c) i - 1)) ?_ (nm_r (nI_1 i) ihd))
        rw [show ls_dp (ls_kd t c) i = (ls_dp (ls_kd t c) i - 1) + 1 by omega]
        exact pk_m1 _
      refine br_f (nI_nlt (b := 2) d2 (by omega)) (pk_eq _ 5 (fun k5 => ?_) (fun _ => op805))
      have ⟨a1, a2⟩ := ht.2.2.2.2 k5
      exact br_f (nI_nlt (b := 1) a1 (by omega)) (br_t (nI_le a2 (by omega)) op805)
    · have hk : ls_kd t c i < 2 := by omega
      have fin : ∀ v : Nat, v = (if ls_kd t c i = 1 then w (ls_ar t c i) else ls_ar t c i) → v ≤ T → wL_law_672 post L xs J112 J615 J634 (nI N) (nI T) x5 x6 x7 x8 x9 x11 x12 x13 x14 (lN (mp_w w N)) x17 x18 (nI c) (nI (l c)) kc ks (nI N) (nI T) dd ed (ls_I t) (ls_I l) sk sh os de re le so od n ((lN (sp_s (ls_st T w (ls_kd t c) (ls_ar t c) i) (ls_dp (ls_kd t c) i)) <<< ((4 : Int32).toInt64 &&& 63)) ||| (nI v).toInt64) (nI (ls_dp (ls_kd t c) i) + 1) (nI i + 1) := by
        intro v ev hv
        rw [la_put hs8 (by omega), nI_1, nI_1, sp_put, ev, ← ls_st_a hk, ← ls_dp_a hk]
        exact ihd
      refine pk_eq _ 0 (fun k0 => ?_) (fun k0 => ?_)
      · have a1 := ht.2.1 k0
        exact br_t (nI_le a1 (by omega)) (br_t (by rw [k0]; rfl) (nm_e (nm_e (nm_e (fin _ (by rw [if_neg (by omega)]) a1)))))
      · have k1 : ls_kd t c i = 1 := by omega
        have a1 := href k1
        refine br_t (nI_lt a1 (by omega)) (br_f (by rw [k1]; decide) (la_nib hm62 (by omega) ?_))
        rw [mp_at N hb15 _ a1]
        exact nm_e (nm_e (nm_e (fin _ (by rw [if_pos k1]) (hb _ a1))))
theorem le_634 {L : Nat} {xs : Nat → Int32} {N T : Nat} {t l : Nat → Nat} {x5 x6 x7 x8 x11 x12 x13 x14 dd ed : Int32} {x9 : Int64} {kc ks : Nat} {sk sh os de re le so od : Nat → Int32} {post : Int32 → Prop} {J112 : Int32 → Int32 → Int32 → Int32 → Int64 → Int32 → Int32 → Int32 → Int32 → Int32 → (Nat → Int32) → (Nat → Int32) → (Nat → Int32) → (Nat → Int32) → (Nat → Int32) → (Nat → Int32) → (Nat → Int32) → (Nat → Int32) → (Nat → Int32) → (Nat → Int32) → Prop} {w0 : Nat → Nat} {x18 : Int32} {J615 : Int64 → Int32 → Int32 → Prop} (hN : N ≤ 12) (hT : T ≤ 15) (hw : ls_all N T t l) (K : ∀ (mv : Int32) (w : Nat → Nat), xv_I N T (ls_F T t l) w0 N w mv → J615 (lN (mp_w w N)) mv (x18 + 1)) : ∀ (m c n : Nat) (w : Nat → Nat) (mv : Int32), c + m = N → m < n → xv_I N T (ls_F T t l) w0 c w mv → wL_law_634 post L xs J112 J615 (nI N) (nI T) x5 x6 x7 x8 x9 x11 x12 x13 x14 x18 kc ks (nI N) (nI T) dd ed (ls_I t) (ls_I l) sk sh os de re le so od n (lN (mp_w w N)) mv (nI c) := by
  have ok := ls_F_ok hw
  intro m
  induction m with
  | zero =>
    intro c n w mv hc hn hv
    obtain ⟨n, rfl⟩ : ∃ k, n = k + 1 := ⟨n - 1, by omega⟩
    have e : c = N := by omega
    subst e
    exact br_t (nI_le (by omega) (by omega)) (nm_e (K mv w hv))
  | succ m ih =>
    intro c n w mv hc hn hv
    obtain ⟨n, rfl⟩ : ∃ k, n = k + 1 := ⟨n - 1, by omega⟩
    have hcN : c < N := by omega
    have h1 := ls_wf_pos (hw c hcN)
    have h8 := (hw c hcN).1.1
    refine br_f (nI_ge (by omega) (by omega)) (lx_len hN hcN (br_f (nI_nlt (b := 1) h1 (by omega)) (br_t (nI_le (b := 8) h8 (by decide)) ⟨l c + 1, ?_⟩)))
    refine le_672 hN hT (hw c hcN) hcN hv.1.1 (hv.1.2.1 c hcN) (fun z => ?_) (fun z => ?_) (l c) 0 (l c + 1) (by omega) (by omega)
    · have s := ih (c + 1) n _ mv (by omega) (by omega) (xv_step ok hv hcN (fun q => ⟨q, z⟩))
      rw [mp_congr (w := ls_up w c (ls_F T t l w c)) (w' := w) N (fun d hd => by
        by_cases e : d = c
        · rw [e, ls_us, z]
        · rw [ls_un e])] at s
      exact s
    · exact ih (c + 1) n _ 1 (by omega) (by omega) (xv_step ok hv hcN (fun q => absurd q (by decide)))
theorem le_910 {L : Nat} {xs : Nat → Int32} {N T : Nat} {t l : Nat → Nat} {x5 x6 x7 x8 x11 x12 x13 x14 dd ed : Int32} {x9 : Int64} {kc ks : Nat} {sk sh os de re le so od : Nat → Int32} {post : Int32 → Prop} {J112 : Int32 → Int32 → Int32 → Int32 → Int64 → Int32 → Int32 → Int32 → Int32 → Int32 → (Nat → Int32) → (Nat → Int32) → (Nat → Int32) → (Nat → Int32) → (Nat → Int32) → (Nat → Int32) → (Nat → Int32) → (Nat → Int32) → (Nat → Int32) → (Nat → Int32) → Prop} {w w0 : Nat → Nat} (hN : N ≤ 12) (hT : T ≤ 15) (hb : ∀ c, c < N → w c ≤ T) (hb0 : ∀ c, c < N → w0 c ≤ T) (hs : ∀ c, c < N → sh c = nI (w c)) (h9 : x9 = lN (mp_w w0 N)) (ha : ¬ x13 = 0 → ∀ c, c < N → de c = nI (w c) - nI (w0 c) ∧ (¬ nI c = x14 → ¬ w c = w0 c → ∃ e, e < N ∧ x14 = nI e ∧ bt (re c) e = true)) (K : J112 x5 x6 x7 x8 (lN (mp_w w N)) (x12 + 1) (nI N) (nI T) dd ed (ls_I t) (ls_I l) sk sh os de re le so od) : ∀ (m c n : Nat), c + m = N → m < n → wL_law_910 post L xs J112 (nI N) (nI T) x5 x6 x7 x8 x9 x11 x12 x13 x14 (lN (mp_w w N)) kc ks (nI N) (nI T) dd ed (ls_I t) (ls_I l) sk sh os de re le so od n (nI c) := by
  have hb15 : ∀ d, d < N → w d ≤ 15 := fun d hd => Nat.le_trans (hb d hd) hT
  have hb015 : ∀ d, d < N → w0 d ≤ 15 := fun d hd => Nat.le_trans (hb0 d hd) hT
  have hm := mp_62 hN hb15
  have hm0 := mp_62 hN hb015
  subst h9
  intro m
  induction m with
  | zero =>
    intro c n hc hn
    obtain ⟨n, rfl⟩ : ∃ k, n = k + 1 := ⟨n - 1, by omega⟩
    exact br_t (nI_le (by omega) (by omega)) (nm_e K)
  | succ m ih =>
    intro c n hc hn
    obtain ⟨n, rfl⟩ : ∃ k, n = k + 1 := ⟨n - 1, by omega⟩
    have hcN : c < N := by omega
    have ihd := ih (c + 1) n (by omega) (by omega)
    refine br_f (nI_ge (by omega) (by omega)) (xe_val hN hcN (la_nib hm (by omega) ?_))
    rw [mp_at N hb15 c hcN]
    refine br_t (hs c hcN) ?_
    by_cases hx : x13 = 0
    · exact br_t hx (nm_r (nI_1 c) ihd)
    have ⟨a1, a2⟩ := ha hx c hcN
    refine br_f hx (la_nib hm (by omega) (la_nib hm0 (by omega) ?_))
    rw [mp_at N hb15 c hcN, mp_at N hb015 c hcN]
    refine nm_e (lx_delta hN hcN (br_t a1 (br_c (fun _ => nm_r (nI_1 c) ihd) (fun z => br_c (fun _ => nm_r (nI_1 c) ihd) (fun y => ?_)))))
    obtain ⟨e, he, rfl, hbit⟩ := a2 z (fun q => y (by rw [q, Int32.sub_self]))
    exact lx_dep hN hcN he hbit (br_f (by decide) (nm_r (nI_1 c) ihd))
theorem le_615 {L : Nat} {xs : Nat → Int32} {N T : Nat} {t l : Nat → Nat} {x5 x6 x7 x8 x11 x12 x13 x14 dd ed : Int32} {x9 : Int64} {kc ks : Nat} {sk sh os de re le so od : Nat → Int32} {post : Int32 → Prop} {J112 : Int32 → Int32 → Int32 → Int32 → Int64 → Int32 → Int32 → Int32 → Int32 → Int32 → (Nat → Int32) → (Nat → Int32) → (Nat → Int32) → (Nat → Int32) → (Nat → Int32) → (Nat → Int32) → (Nat → Int32) → (Nat → Int32) → (Nat → Int32) → (Nat → Int32) → Prop} {w1 w0 : Nat → Nat} (hN : N ≤ 12) (hT : T ≤ 15) (hw : ls_all N T t l) (hl : lf_least N T (ls_F T t l) w1) (hb0 : ∀ c, c < N → w0 c ≤ T) (hs : ∀ c, c < N → sh c = nI (w1 c)) (h9 : x9 = lN (mp_w w0 N)) (ha : ¬ x13 = 0 → ∀ c, c < N → de c = nI (w1 c) - nI (w0 c) ∧ (¬ nI c = x14 → ¬ w1 c = w0 c → ∃ e, e < N ∧ x14 = nI e ∧ bt (re c) e = true)) (K : J112 x5 x6 x7 x8 (lN (mp_w w1 N)) (x12 + 1) (nI N) (nI T) dd ed (ls_I t) (ls_I l) sk sh os de re le so od) : ∀ (m r n : Nat) (w : Nat → Nat) (mv : Int32), r + m = 200 → m < n → lf_R N T (ls_F T t l) r w → (mv = 0 → ∀ d, d < N → ls_F T t l w d = w d) → wL_law_615 post L xs J112 (nI N) (nI T) x5 x6 x7 x8 x9 x11 x12 x13 x14 kc ks (nI N) (nI T) dd ed (ls_I t) (ls_I l) sk sh os de re le so od n (lN (mp_w w N)) mv (nI r) := by
  have ok := ls_F_ok hw
  have hNT := Nat.mul_le_mul hN hT
  have fin : ∀ w : Nat → Nat, lf_least N T (ls_F T t l) w → ∃ fu : Nat, wL_law_910 post L xs J112 (nI N) (nI T) x5 x6 x7 x8 x9 x11 x12 x13 x14 (lN (mp_w w N)) kc ks (nI N) (nI T) dd ed (ls_I t) (ls_I l) sk sh os de re le so od fu 0 := by
    intro w hwl
    rw [mp_congr N (lf_uniq hwl hl)]
    exact ⟨N + 1, le_910 hN hT hl.1.1 hb0 hs h9 ha K N 0 (N + 1) (by omega) (by omega)⟩
  intro m
  induction m with
  | zero =>
    intro r n w mv hr hn hv hm
    obtain ⟨n, rfl⟩ : ∃ k, n = k + 1 := ⟨n - 1, by omega⟩
    by_cases h0 : mv = 0
    · exact br_t h0 (fin w (lf_end hv.1 (hm h0)))
    · exact br_f h0 (br_t (nI_le (a := 200) (by omega) (by omega)) (fin w (lf_done ok hv (by omega))))
  | succ m ih =>
    intro r n w mv hr hn hv hm
    obtain ⟨n, rfl⟩ : ∃ k, n = k + 1 := ⟨n - 1, by omega⟩
    by_cases h0 : mv = 0
    · exact br_t h0 (fin w (lf_end hv.1 (hm h0)))
    · refine br_f h0 (br_f (nI_ge (b := 200) (by omega) (by decide)) ⟨N + 1, ?_⟩)
      refine le_634 hN hT hw (fun mv' w' hv' => ?_) N 0 (N + 1) w 0 (by omega) (by omega) (xv_I0 hv.1)
      rw [nI_1]
      refine ih (r + 1) n w' mv' (by omega) (by omega) (lf_round ok hv hv'.1 hv'.2.2.1) (fun z => ?_)
      have ⟨a, b⟩ := hv'.2.2.2 z
      exact lf_sol_congr ok (fun c hc => (a c hc).symm) b
/-- the whole check behind a step -/
theorem le_chk {L : Nat} {xs : Nat → Int32} {N T : Nat} {t l : Nat → Nat} {x5 x6 x7 x8 x11 x12 x13 x14 dd ed : Int32} {x9 : Int64} {kc ks : Nat} {sk sh os de re le so od : Nat → Int32} {post : Int32 → Prop} {J112 : Int32 → Int32 → Int32 → Int32 → Int64 → Int32 → Int32 → Int32 → Int32 → Int32 → (Nat → Int32) → (Nat → Int32) → (Nat → Int32) → (Nat → Int32) → (Nat → Int32) → (Nat → Int32) → (Nat → Int32) → (Nat → Int32) → (Nat → Int32) → (Nat → Int32) → Prop} {w1 w0 : Nat → Nat} (hN : N ≤ 12) (hT : T ≤ 15) (hw : ls_all N T t l) (hl : lf_least N T (ls_F T t l) w1) (hb0 : ∀ c, c < N → w0 c ≤ T) (hs : ∀ c, c < N → sh c = nI (w1 c)) (h9 : x9 = lN (mp_w w0 N)) (ha : ¬ x13 = 0 → ∀ c, c < N → de c = nI (w1 c) - nI (w0 c) ∧ (¬ nI c = x14 → ¬ w1 c = w0 c → ∃ e, e < N ∧ x14 = nI e ∧ bt (re c) e = true)) (K : J112 x5 x6 x7 x8 (lN (mp_w w1 N)) (x12 + 1) (nI N) (nI T) dd ed (ls_I t) (ls_I l) sk sh os de re le so od) : ∃ fu : Nat, wL_law_615 post L xs J112 (nI N) (nI T) x5 x6 x7 x8 x9 x11 x12 x13 x14 kc ks (nI N) (nI T) dd ed (ls_I t) (ls_I l) sk sh os de re le so od fu 0 1 0 := by
  refine ⟨201, ?_⟩
  have h := le_615 (post := post) (L := L) (xs := xs) (kc := kc) (ks := ks) (x11 := x11) hN hT hw hl hb0 hs h9 ha K 200 0 201 (fun _ => 0) 1 (by omega) (by omega) (lf_R0 (lf_inv0 (fun _ _ => rfl))) (fun z => absurd z (by decide))
  rw [mp_0] at h
  exact h
