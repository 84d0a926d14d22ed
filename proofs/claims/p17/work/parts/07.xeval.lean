/-! X: evaluate -/
def ls_I (f : Nat → Nat) : Nat → Int32 := fun j => nI (f j)
theorem ls_Iup {f : Nat → Nat} {k x : Nat} : upd (ls_I f) k (nI x) = ls_I (ls_up f k x) := by
  funext j
  unfold upd ls_I ls_up
  split <;> rfl
theorem ls_Iat {f : Nat → Nat} {n : Nat} (h : n < 2 ^ 31) : ls_I f (nI n).toNatClampNeg = nI (f n) := by rw [nI_clamp h]; rfl
theorem xe_op {k : Nat} {post : Int32 → Prop} (hk : k < 100) (h1 : k < 2 → post 1) (h2 : ¬ k < 2 → post 0) : wpX_isOperand post () (nI k) := by
  unfold wpX_isOperand
  exact pk_eq k 0 (fun _ => h1 (by omega)) (fun _ => pk_eq k 1 (fun _ => h1 (by omega)) (fun _ => h2 (by omega)))
theorem xe_cell {N c : Nat} {post : Int32 → Prop} {T dd ed : Int32} {tk ln sk sh os de re le so od : Nat → Int32} (hN : N ≤ 12) (hc : c < N) (h : post 1) : wpX_isCell post (nI N, T, dd, ed, tk, ln, sk, sh, os, de, re, le, so, od) (nI c) :=
  br_f (nI_pos (by omega)) (br_f (nI_ge hc (by omega)) h)
theorem xe_val {N c : Nat} {post : Int32 → Prop} {T dd ed : Int32} {tk ln sk sh os de re le so od : Nat → Int32} (hN : N ≤ 12) (hc : c < N) (h : post (sh c)) : wpX_value post (nI N, T, dd, ed, tk, ln, sk, sh, os, de, re, le, so, od) (nI c) := by
  unfold wpX_value
  refine xe_cell hN hc (br_f (by decide) ⟨pk_in c 12 (by omega), ?_⟩)
  rw [nI_clamp (by omega)]
  exact h
theorem xe_cmb {N T k a x y : Nat} {post : Int32 → Prop} {dd ed : Int32} {tk ln sk sh os de re le so od : Nat → Int32} (hT : T ≤ 15) (ha : a < 100) (hx : x ≤ T) (hy : y ≤ T) (h2 : 2 ≤ k) (h5 : k ≤ 5) (h : post (nI (ls_cmb T k a x y))) : wpX_combine post (nI N, nI T, dd, ed, tk, ln, sk, sh, os, de, re, le, so, od) (nI k) (nI a) (nI x) (nI y) := by
  have hc : ∀ r, ls_cmb T k a x y = r → post (nI r) := fun r e => e ▸ h
  unfold wpX_combine
  refine pk_lt k 2 (fun _ => by omega) (fun _ => pk_lt 4 k (fun _ => pk_lt x a (fun _ => hc 0 ?_) (fun _ => hc y ?_)) (fun _ => pk_eq k 2 (fun _ => pk_le y x (fun _ => hc y ?_) (fun _ => hc x ?_)) (fun _ => pk_eq k 3 (fun _ => pk_le x y (fun _ => hc y ?_) (fun _ => hc x ?_)) (fun _ => pk_eq k 4 (fun _ => ?_) (fun _ => trivial)))))
  case refine_7 =>
    rw [nI_add]
    exact pk_le (x + y) T (fun _ => hc _ (by unfold ls_cmb; repeat' split
                                             all_goals omega)) (fun _ => hc _ (by unfold ls_cmb; repeat' split
                                                                                  all_goals omega))
  all_goals (unfold ls_cmb; repeat' split)
  all_goals omega
theorem xe_invA {T i : Nat} {w kd ar : Nat → Nat} {sk : Nat → Int32} {v : Int32} (hv : ∀ j, j < ls_dp kd i → sk j = nI (ls_st T w kd ar i j)) (hk : kd i < 2) (e : v = nI (if kd i = 1 then w (ar i) else ar i)) : ∀ j, j < ls_dp kd (i + 1) → upd sk (ls_dp kd i) v j = nI (ls_st T w kd ar (i + 1) j) := by
  intro j hj
  rw [ls_st_a hk]
  rw [ls_dp_a hk] at hj
  by_cases z : j = ls_dp kd i
  · rw [z, pk_us, ls_us, e]
  · rw [pk_un z, ls_un z]; exact hv j (by omega)
theorem xe_invB {T i : Nat} {w kd ar : Nat → Nat} {sk : Nat → Int32} {v : Int32} (hv : ∀ j, j < ls_dp kd i → sk j = nI (ls_st T w kd ar i j)) (hk : ¬ kd i < 2) (e : v = nI (ls_cmb T (kd i) (ar i) (ls_st T w kd ar i (ls_dp kd i - 2)) (ls_st T w kd ar i (ls_dp kd i - 1)))) : ∀ j, j < ls_dp kd (i + 1) → upd sk (ls_dp kd i - 2) v j = nI (ls_st T w kd ar (i + 1) j) := by
  intro j hj
  rw [ls_st_b hk]
  rw [ls_dp_b hk] at hj
  by_cases z : j = ls_dp kd i - 2
  · rw [z, pk_us, ls_us, e]
  · rw [pk_un z, ls_un z]; exact hv j (by omega)
/-- what one token of a formula is, as numbers -/
theorem xe_tok {N T c i : Nat} {t l : Nat → Nat} (hN : N ≤ 12) (hT : T ≤ 15) (hw : ls_dr N T (l c) (ls_kd t c) (ls_ar t c)) (hi : i < l c) : ls_kd t c i ≤ 5 ∧ ls_ar t c i < 100 ∧ t (8 * c + i) < 600 ∧ i < 8 ∧ (2 ≤ ls_kd t c i → 2 ≤ ls_dp (ls_kd t c) i) ∧ (ls_kd t c i = 1 → ls_ar t c i < N) := by
  have ⟨ht, hs⟩ := hw.2 i hi
  have h5 := ht.1
  have h8 := hw.1
  refine ⟨h5, Nat.mod_lt _ (by omega), ?_, by omega, hs, ht.2.2.1⟩
  unfold ls_kd at h5
  omega
theorem xe_div {t : Nat → Nat} {c i : Nat} (h6 : t (8 * c + i) < 600) (hc : c < 13) (h8 : i < 8) : (ls_I t (nI (8 * c + i)).toNatClampNeg) / 100 = nI (ls_kd t c i) := by
  rw [ls_Iat (by omega)]
  exact pk_div (d := 100) (by omega) (by omega) (by omega)
theorem xe_rem {t : Nat → Nat} {c i : Nat} (h6 : t (8 * c + i) < 600) (hc : c < 13) (h8 : i < 8) : (ls_I t (nI (8 * c + i)).toNatClampNeg) - (ls_I t (nI (8 * c + i)).toNatClampNeg) / 100 * 100 = nI (ls_ar t c i) := by
  rw [ls_Iat (by omega)]
  exact pk_rem (d := 100) (by omega) (by omega) (by omega)
theorem xe_loop {N T : Nat} {t l w : Nat → Nat} {c : Nat} {dd ed : Int32} {sh os de re le so od : Nat → Int32} {post : Int32 → St2 → Prop} (hN : N ≤ 12) (hT : T ≤ 15) (hw : ls_wf N T (l c) (ls_kd t c) (ls_ar t c)) (hc : c < N) (hs : ∀ d, d < N → sh d = nI (w d)) (hb : ∀ d, d < N → w d ≤ T) (hp : ∀ sk' : Nat → Int32, post (nI (ls_F T t l w c)) (nI N, nI T, dd, ed, ls_I t, ls_I l, sk', sh, os, de, re, le, so, od)) : ∀ (m i n : Nat) (sk : Nat → Int32), i + m = l c → m < n → (∀ j, j < ls_dp (ls_kd t c) i → sk j = nI (ls_st T w (ls_kd t c) (ls_ar t c) i j)) → wX_evaluate_20 post (nI (8 * c + l c)) (nI N) (nI T) dd ed n (nI (ls_dp (ls_kd t c) i)) (nI (8 * c + i)) (ls_I t) (ls_I l) sk sh os de re le so od := by
  have h8 := hw.1.1
  intro m
  induction m with
  | zero =>
    intro i n sk hi hn hv
    obtain ⟨n, rfl⟩ : ∃ k, n = k + 1 := ⟨n - 1, by omega⟩
    refine br_t (nI_le (by omega) (by omega)) ?_
    have e := hv 0 (by rw [show i = l c by omega, hw.2]; exact Nat.one_pos)
    rw [e, show i = l c by omega]
    exact hp sk
  | succ m ih =>
    intro i n sk hi hn hv
    obtain ⟨n, rfl⟩ : ∃ k, n = k + 1 := ⟨n - 1, by omega⟩
    have ⟨h5, ha, h6, hi8, hsh, href⟩ := xe_tok hN hT hw.1 (i := i) (by omega)
    have hd := ls_dp_le (ls_kd t c) i
    have hin : vp_in (nI (8 * c + i)) 104 := vp_in_nI (by omega) (by decide)
    refine br_f (nI_ge (by omega) (by omega)) ⟨hin, by decide, nm_r (xe_div h6 (by omega) hi8) ⟨hin, by decide, nm_r (xe_rem h6 (by omega) hi8) ?_⟩⟩
    refine xe_op (by omega) (fun hk => ?_) (fun hk => ?_)
    · refine br_f (by decide) (br_f (nI_ge (b := 8) (by omega) (by decide)) (pk_eq _ 1 (fun h1 => ?_) (fun h1 => ?_)))
      · refine xe_val hN (href h1) ⟨vp_in_nI (by omega) (by decide), nm_e (nm_r (e' := nI (ls_dp (ls_kd t c) (i + 1))) (by rw [nI_1, ls_dp_a hk]) (nm_r (e' := nI (8 * c + (i + 1))) (nI_1 _) (ih (i + 1) n _ (by omega) (by omega) ?_)))⟩
        rw [nI_clamp (by omega)]
        exact xe_invA hv hk (by rw [if_pos h1]; exact hs _ (href h1))
      · refine ⟨vp_in_nI (by omega) (by decide), nm_e (nm_r (e' := nI (ls_dp (ls_kd t c) (i + 1))) (by rw [nI_1, ls_dp_a hk]) (nm_r (e' := nI (8 * c + (i + 1))) (nI_1 _) (ih (i + 1) n _ (by omega) (by omega) ?_)))⟩
        rw [nI_clamp (by omega)]
        exact xe_invA hv hk (by rw [if_neg h1])
    · have h2 := hsh (by omega)
      have e1 : nI (ls_dp (ls_kd t c) i) + (-1) = nI (ls_dp (ls_kd t c) i - 1) := by
        rw [show ls_dp (ls_kd t c) i = (ls_dp (ls_kd t c) i - 1) + 1 by omega]
        exact pk_m1 _
      have e2 : nI (ls_dp (ls_kd t c) i - 1) - 1 = nI (ls_dp (ls_kd t c) i - 2) := by
        rw [show ls_dp (ls_kd t c) i - 2 = ls_dp (ls_kd t c) i - 1 - 1 by omega]
        exact pk_sub (b := 1) (by omega)
      refine br_t rfl (br_t rfl (br_f (nI_nlt (b := 2) (by omega) (by omega)) (nm_r e1 ?_)))
      rw [e2]
      refine ⟨vp_in_nI (by omega) (by decide), vp_in_nI (by omega) (by decide), ?_⟩
      rw [nI_clamp (by omega), nI_clamp (by omega), hv _ (by omega), hv _ (by omega)]
      have hst := ls_st_le hw.1 hb i (by omega)
      refine xe_cmb hT ha (hst _ (by omega)) (hst _ (by omega)) (by omega) h5 ⟨vp_in_nI (by omega) (by decide), nm_e (nm_r (e' := nI (8 * c + (i + 1))) (nI_1 _) ?_)⟩
      have e3 := ih (i + 1) n _ (by omega) (by omega) (xe_invB hv hk rfl)
      rw [ls_dp_b hk] at e3
      exact e3
theorem xe_eval {N T : Nat} {t l w : Nat → Nat} {c : Nat} {dd ed : Int32} {sk sh os de re le so od : Nat → Int32} {post : Int32 → St2 → Prop} (hN : N ≤ 12) (hT : T ≤ 15) (hw : ls_wf N T (l c) (ls_kd t c) (ls_ar t c)) (hc : c < N) (hs : ∀ d, d < N → sh d = nI (w d)) (hb : ∀ d, d < N → w d ≤ T) (hp : ∀ sk' : Nat → Int32, post (nI (ls_F T t l w c)) (nI N, nI T, dd, ed, ls_I t, ls_I l, sk', sh, os, de, re, le, so, od)) : wpX_evaluate post (nI N, nI T, dd, ed, ls_I t, ls_I l, sk, sh, os, de, re, le, so, od) (nI c) := by
  have h8 := hw.1.1
  have e1 : nI c * 8 = nI (8 * c) := by rw [Nat.mul_comm]; exact pk_mul c 8
  have e2 : nI (8 * c) + ls_I l (nI c).toNatClampNeg = nI (8 * c + l c) := by rw [ls_Iat (by omega), nI_add]
  refine nm_r e1 ⟨vp_in_nI (by omega) (by decide), nm_r e2 ⟨l c + 1, ?_⟩⟩
  exact xe_loop hN hT hw hc hs hb hp (l c) 0 (l c + 1) sk (by omega) (by omega) (fun j hj => absurd hj (Nat.not_lt_zero j))
