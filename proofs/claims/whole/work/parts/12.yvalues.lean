/-! Y: evaluate, solve -/
theorem ye_loop {N T : Nat} {t l w : Nat → Nat} {c : Nat} {ed : Int32} {sh ol dp nx : Nat → Int32} {post : Int32 → SY → Prop} (hN : N ≤ 12) (hT : T ≤ 15) (hw : ls_wf N T (l c) (ls_kd t c) (ls_ar t c)) (hc : c < N) (hs : ∀ d, d < N → sh d = nI (w d)) (hb : ∀ d, d < N → w d ≤ T) (hp : ∀ sk' : Nat → Int32, post (nI (ls_F T t l w c)) (nI N, nI T, ed, ls_I t, ls_I l, sh, ol, dp, nx, sk')) : ∀ (m i n : Nat) (sk : Nat → Int32), i + m = l c → m < n → (∀ j, j < ls_dp (ls_kd t c) i → sk j = nI (ls_st T w (ls_kd t c) (ls_ar t c) i j)) → wY_evaluate_4 post (nI c) (nI N) (nI T) ed n (nI (ls_dp (ls_kd t c) i)) (nI i) (ls_I t) (ls_I l) sh ol dp nx sk := by
  have h8 := hw.1.1
  have el : ls_I l (nI c).toNatClampNeg = nI (l c) := ls_Iat (by omega)
  have hc13 : vp_in (nI c) 13 := vp_in_nI (by omega) (by decide)
  intro m
  induction m with
  | zero =>
    intro i n sk hi hn hv
    obtain ⟨n, rfl⟩ : ∃ k, n = k + 1 := ⟨n - 1, by omega⟩
    refine ⟨hc13, br_t (by rw [el]; exact nI_le (by omega) (by omega)) ?_⟩
    have e := hv 0 (by rw [show i = l c by omega, hw.2]; exact Nat.one_pos)
    rw [e, show i = l c by omega]
    exact hp sk
  | succ m ih =>
    intro i n sk hi hn hv
    obtain ⟨n, rfl⟩ : ∃ k, n = k + 1 := ⟨n - 1, by omega⟩
    have ⟨h5, ha, h6, hi8, hsh, href⟩ := xe_tok hN hT hw.1 (i := i) (by omega)
    have hd := ls_dp_le (ls_kd t c) i
    have ei : nI c * 8 + nI i = nI (8 * c + i) := by rw [Nat.mul_comm, show nI c * 8 = nI (c * 8) from pk_mul c 8, nI_add]
    have hin : vp_in (nI c * 8 + nI i) 104 := by rw [ei]; exact vp_in_nI (by omega) (by decide)
    have e6 : (ls_I t (nI c * 8 + nI i).toNatClampNeg) / 100 = nI (ls_kd t c i) := by rw [ei]; exact xe_div h6 (by omega) hi8
    have e7 : (ls_I t (nI c * 8 + nI i).toNatClampNeg) - (ls_I t (nI c * 8 + nI i).toNatClampNeg) / 100 * 100 = nI (ls_ar t c i) := by rw [ei]; exact xe_rem h6 (by omega) hi8
    refine ⟨hc13, br_f (by rw [el]; exact nI_ge (by omega) (by omega)) ⟨hin, by decide, nm_r e6 ⟨hin, by decide, nm_r e7 ?_⟩⟩⟩
    have opd : ls_kd t c i < 2 → ∀ v : Int32, v = nI (if ls_kd t c i = 1 then w (ls_ar t c i) else ls_ar t c i) → wY_evaluate_4 post (nI c) (nI N) (nI T) ed n (nI (ls_dp (ls_kd t c) i) + 1) (nI i + 1) (ls_I t) (ls_I l) sh ol dp nx (upd sk (nI (ls_dp (ls_kd t c) i)).toNatClampNeg v) := by
      intro hk v ev
      rw [nI_1, nI_1, nI_clamp (by omega), ← ls_dp_a hk]
      exact ih (i + 1) n _ (by omega) (by omega) (xe_invA hv hk ev)
    refine pk_eq _ 0 (fun h0 => ?_) (fun h0 => pk_eq _ 1 (fun h1 => ?_) (fun h1 => ?_))
    · exact ⟨vp_in_nI (by omega) (by decide), nm_e (nm_e (nm_e (opd (by omega) _ (by rw [if_neg (by omega)]))))⟩
    · have hr := href h1
      refine ⟨vp_in_nI (by omega) (by decide), vp_in_nI (by omega) (by decide), nm_e (nm_e (nm_e (opd (by omega) _ ?_)))⟩
      rw [if_pos h1, nI_clamp (by omega)]
      exact hs _ hr
    · have hk : ¬ ls_kd t c i < 2 := by omega
      have h2 := hsh (by omega)
      have e1 : nI (ls_dp (ls_kd t c) i) + (-1) = nI (ls_dp (ls_kd t c) i - 1) := by
        rw [show ls_dp (ls_kd t c) i = (ls_dp (ls_kd t c) i - 1) + 1 by omega]
        exact pk_m1 _
      have e2 : nI (ls_dp (ls_kd t c) i - 1) - 1 = nI (ls_dp (ls_kd t c) i - 2) := by
        rw [show ls_dp (ls_kd t c) i - 2 = ls_dp (ls_kd t c) i - 1 - 1 by omega]
        exact pk_sub (b := 1) (by omega)
      have e3 : nI (ls_dp (ls_kd t c) i) - 1 = nI (ls_dp (ls_kd t c) i - 1) := pk_sub (b := 1) (by omega)
      have e4 : nI (ls_dp (ls_kd t c) i) - 2 = nI (ls_dp (ls_kd t c) i - 2) := pk_sub (b := 2) (by omega)
      have hst := ls_st_le hw.1 hb i (by omega)
      have hx := hst (ls_dp (ls_kd t c) i - 2) (by omega)
      have hy := hst (ls_dp (ls_kd t c) i - 1) (by omega)
      have fin : ∀ r : Nat, ls_cmb T (ls_kd t c i) (ls_ar t c i) (ls_st T w (ls_kd t c) (ls_ar t c) i (ls_dp (ls_kd t c) i - 2)) (ls_st T w (ls_kd t c) (ls_ar t c) i (ls_dp (ls_kd t c) i - 1)) = r → wY_evaluate_215 post (wY_evaluate_4 post (nI c) (nI N) (nI T) ed n) (nI c) (nI (ls_dp (ls_kd t c) i)) (nI i) (nI r) (nI N) (nI T) ed (ls_I t) (ls_I l) sh ol dp nx sk := by
        intro r er
        refine nm_r e1 ?_
        rw [e2]
        refine ⟨vp_in_nI (by omega) (by decide), nm_e (nm_r (nI_1 i) ?_)⟩
        rw [nI_clamp (by omega), ← ls_dp_b hk]
        exact ih (i + 1) n _ (by omega) (by omega) (xe_invB hv hk (by rw [er]))
      refine br_f (nI_nlt (b := 2) (by omega) (by omega)) ?_
      rw [e3, e4]
      refine ⟨vp_in_nI (by omega) (by decide), nm_r (e' := nI (ls_st T w (ls_kd t c) (ls_ar t c) i (ls_dp (ls_kd t c) i - 1))) (by rw [nI_clamp (by omega)]; exact hv _ (by omega)) ⟨vp_in_nI (by omega) (by decide), nm_r (e' := nI (ls_st T w (ls_kd t c) (ls_ar t c) i (ls_dp (ls_kd t c) i - 2))) (by rw [nI_clamp (by omega)]; exact hv _ (by omega)) ?_⟩⟩
      generalize ls_st T w (ls_kd t c) (ls_ar t c) i (ls_dp (ls_kd t c) i - 2) = x at *
      generalize ls_st T w (ls_kd t c) (ls_ar t c) i (ls_dp (ls_kd t c) i - 1) = y at *
      generalize ls_ar t c i = a at *
      refine pk_eq _ 2 (fun k2 => ?_) (fun k2 => pk_eq _ 3 (fun k3 => ?_) (fun k3 => pk_eq _ 4 (fun k4 => ?_) (fun k4 => ?_)))
      · refine pk_le y x (fun z => fin y ?_) (fun z => fin x ?_)
        all_goals (unfold ls_cmb; repeat' split)
        all_goals omega
      · refine pk_le x y (fun z => fin y ?_) (fun z => fin x ?_)
        all_goals (unfold ls_cmb; repeat' split)
        all_goals omega
      · rw [nI_add]
        refine pk_le (x + y) T (fun z => fin (x + y) ?_) (fun z => fin T ?_)
        all_goals (unfold ls_cmb; repeat' split)
        all_goals omega
      · refine pk_lt x a (fun z => fin 0 ?_) (fun z => fin y ?_)
        all_goals (unfold ls_cmb; repeat' split)
        all_goals omega
theorem ye_eval {N T : Nat} {t l w : Nat → Nat} {c : Nat} {ed : Int32} {sh ol dp nx sk : Nat → Int32} {post : Int32 → SY → Prop} (hN : N ≤ 12) (hT : T ≤ 15) (hw : ls_wf N T (l c) (ls_kd t c) (ls_ar t c)) (hc : c < N) (hs : ∀ d, d < N → sh d = nI (w d)) (hb : ∀ d, d < N → w d ≤ T) (hp : ∀ sk' : Nat → Int32, post (nI (ls_F T t l w c)) (nI N, nI T, ed, ls_I t, ls_I l, sh, ol, dp, nx, sk')) : wpY_evaluate post (nI N, nI T, ed, ls_I t, ls_I l, sh, ol, dp, nx, sk) (nI c) :=
  ⟨l c + 1, ye_loop hN hT hw hc hs hb hp (l c) 0 (l c + 1) sk (by omega) (by omega) (fun j hj => absurd hj (Nat.not_lt_zero j))⟩
