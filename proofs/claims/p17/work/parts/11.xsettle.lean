/-! X: settle -/
theorem xt_delta {N T : Nat} {t l : Nat → Nat} {e dd ed : Int32} {sk sh os re le so od : Nat → Int32} {post : St2 → Prop} (hN : N ≤ 12) (hT : T ≤ 15) (hw : ls_all N T t l) (hp : ∀ de re le so od : Nat → Int32, (∀ d, d < N → de d = sh d - os d) → xs_ok N (wa_S (de_Ub N t l) N) re le od → post (nI N, nI T, dd, e, ls_I t, ls_I l, sk, sh, os, de, re, le, so, od)) : ∀ (m i n : Nat) (de : Nat → Int32), i + m = N → m < n → (∀ d, d < i → de d = sh d - os d) → wX_settle_34 post e (nI N) (nI T) dd ed n (nI i) (ls_I t) (ls_I l) sk sh os de re le so od := by
  intro m
  induction m with
  | zero =>
    intro i n de hi hn hv
    obtain ⟨n, rfl⟩ : ∃ k, n = k + 1 := ⟨n - 1, by omega⟩
    have z : i = N := by omega
    subst z
    exact br_t (nI_le (by omega) (by omega)) (xs_struct hN hT hw (fun re le so od h => hp de re le so od hv h))
  | succ m ih =>
    intro i n de hi hn hv
    obtain ⟨n, rfl⟩ : ∃ k, n = k + 1 := ⟨n - 1, by omega⟩
    have hin : vp_in (nI i) 12 := vp_in_nI (by omega) (by decide)
    refine br_f (nI_ge (by omega) (by omega)) ⟨hin, hin, hin, nm_e (nm_r (nI_1 i) (ih (i + 1) n _ (by omega) (by omega) (fun d hd => ?_)))⟩
    rw [nI_clamp (by omega)]
    by_cases z : d = i
    · rw [z, pk_us]
    · rw [pk_un z]; exact hv d (by omega)
theorem xt_old {N T : Nat} {t l : Nat → Nat} {e dd ed : Int32} {sk sh de re le so od : Nat → Int32} {post : St2 → Prop} (hN : N ≤ 12) (hT : T ≤ 15) (hw : ls_all N T t l) (hp : ∀ (sk sh' os de re le so od : Nat → Int32) (w : Nat → Nat), (∀ d, d < N → sh' d = nI (w d)) → lf_least N T (ls_F T t l) w → (∀ d, d < N → de d = sh' d - sh d) → xs_ok N (wa_S (de_Ub N t l) N) re le od → post (nI N, nI T, dd, e, ls_I t, ls_I l, sk, sh', os, de, re, le, so, od)) : ∀ (m i n : Nat) (os : Nat → Int32), i + m = N → m < n → (∀ d, d < i → os d = sh d) → wX_settle_2 post e (nI N) (nI T) dd ed n (nI i) (ls_I t) (ls_I l) sk sh os de re le so od := by
  intro m
  induction m with
  | zero =>
    intro i n os hi hn hv
    obtain ⟨n, rfl⟩ : ∃ k, n = k + 1 := ⟨n - 1, by omega⟩
    have z : i = N := by omega
    subst z
    refine br_t (nI_le (by omega) (by omega)) (xv_values hN hT hw (fun sk' sh' w h1 h2 => ⟨i + 1, ?_⟩))
    exact xt_delta hN hT hw (fun de re le so od h3 h4 => hp sk' sh' os de re le so od w h1 h2 (fun d hd => by rw [h3 d hd, hv d hd]) h4) i 0 (i + 1) de (by omega) (by omega) (fun d hd => absurd hd (Nat.not_lt_zero d))
  | succ m ih =>
    intro i n os hi hn hv
    obtain ⟨n, rfl⟩ : ∃ k, n = k + 1 := ⟨n - 1, by omega⟩
    have hin : vp_in (nI i) 12 := vp_in_nI (by omega) (by decide)
    refine br_f (nI_ge (by omega) (by omega)) ⟨hin, hin, nm_e (nm_r (nI_1 i) (ih (i + 1) n _ (by omega) (by omega) (fun d hd => ?_)))⟩
    rw [nI_clamp (by omega)]
    by_cases z : d = i
    · rw [z, pk_us]
    · rw [pk_un z]; exact hv d (by omega)
theorem xt_settle {N T : Nat} {t l : Nat → Nat} {e dd ed : Int32} {sk sh os de re le so od : Nat → Int32} {post : St2 → Prop} (hN : N ≤ 12) (hT : T ≤ 15) (hw : ls_all N T t l) (hp : ∀ (sk sh' os de re le so od : Nat → Int32) (w : Nat → Nat), (∀ d, d < N → sh' d = nI (w d)) → lf_least N T (ls_F T t l) w → (∀ d, d < N → de d = sh' d - sh d) → xs_ok N (wa_S (de_Ub N t l) N) re le od → post (nI N, nI T, dd, e, ls_I t, ls_I l, sk, sh', os, de, re, le, so, od)) : wpX_settle post (nI N, nI T, dd, ed, ls_I t, ls_I l, sk, sh, os, de, re, le, so, od) e :=
  ⟨N + 1, xt_old hN hT hw hp N 0 (N + 1) os (by omega) (by omega) (fun d hd => absurd hd (Nat.not_lt_zero d))⟩
