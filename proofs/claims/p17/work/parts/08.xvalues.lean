/-! X: findValues -/
def xv_I (N T : Nat) (F : (Nat → Nat) → Nat → Nat) (w0 : Nat → Nat) (i : Nat) (w : Nat → Nat) (mv : Int32) : Prop := lf_inv N T F w ∧ (∀ d, d < N → w0 d ≤ w d) ∧ (∀ d, d < i → F w0 d ≤ w d) ∧ (mv = 0 → (∀ d, d < N → w d = w0 d) ∧ ∀ d, d < i → F w0 d = w0 d)
theorem xv_I0 {N T : Nat} {F : (Nat → Nat) → Nat → Nat} {w : Nat → Nat} (h : lf_inv N T F w) : xv_I N T F w 0 w 0 := ⟨h, fun _ _ => Nat.le_refl _, fun d hd => absurd hd (Nat.not_lt_zero d), fun _ => ⟨fun _ _ => rfl, fun d hd => absurd hd (Nat.not_lt_zero d)⟩⟩
theorem xv_step {N T : Nat} {F : (Nat → Nat) → Nat → Nat} (ok : lf_ok N T F) {w0 w : Nat → Nat} {i : Nat} {mv mv' : Int32} (h : xv_I N T F w0 i w mv) (hi : i < N) (hm : mv' = 0 → mv = 0 ∧ F w i = w i) : xv_I N T F w0 (i + 1) (ls_up w i (F w i)) mv' := by
  have hF : F w0 i ≤ F w i := ok.1 _ _ h.2.1 i hi
  refine ⟨lf_step ok h.1 hi, fun d hd => ?_, fun d hd => ?_, fun z => ?_⟩
  · by_cases e : d = i
    · rw [e, ls_us]; exact Nat.le_trans (h.2.1 i hi) (h.1.2.1 i hi)
    · rw [ls_un e]; exact h.2.1 d hd
  · by_cases e : d = i
    · rw [e, ls_us]; exact hF
    · rw [ls_un e]; exact h.2.2.1 d (by omega)
  · have ⟨z1, z2⟩ := hm z
    have ⟨a, b⟩ := h.2.2.2 z1
    refine ⟨fun d hd => ?_, fun d hd => ?_⟩
    · by_cases e : d = i
      · rw [e, ls_us, z2]; exact a i hi
      · rw [ls_un e]; exact a d hd
    · by_cases e : d = i
      · rw [e, ← lf_congr ok a i hi, z2]; exact a i hi
      · exact b d (by omega)
theorem xv_zero {N : Nat} {T dd ed : Int32} {tk ln sk os de re le so od : Nat → Int32} {post : St2 → Prop} (hN : N ≤ 12) (K : ∀ sh : Nat → Int32, (∀ d, d < N → sh d = 0) → ∃ n, wX_findValues_27 post n 1 0 (nI N) T dd ed tk ln sk sh os de re le so od) : ∀ (m i n : Nat) (sh : Nat → Int32), i + m = N → m < n → (∀ d, d < i → sh d = 0) → wX_findValues_2 post (nI N) T dd ed n (nI i) tk ln sk sh os de re le so od := by
  intro m
  induction m with
  | zero =>
    intro i n sh hi hn hv
    obtain ⟨n, rfl⟩ : ∃ k, n = k + 1 := ⟨n - 1, by omega⟩
    exact br_t (nI_le (by omega) (by omega)) (K sh (fun d hd => hv d (by omega)))
  | succ m ih =>
    intro i n sh hi hn hv
    obtain ⟨n, rfl⟩ : ∃ k, n = k + 1 := ⟨n - 1, by omega⟩
    refine br_f (nI_ge (by omega) (by omega)) ⟨vp_in_nI (by omega) (by decide), nm_e (nm_r (nI_1 i) (ih (i + 1) n _ (by omega) (by omega) ?_))⟩
    intro d hd
    rw [nI_clamp (by omega)]
    by_cases e : d = i
    · rw [e, pk_us]
    · rw [pk_un e]; exact hv d (by omega)
theorem xv_in {N T : Nat} {t l w0 : Nat → Nat} {dd ed x2 : Int32} {os de re le so od : Nat → Int32} {post : St2 → Prop} {J : Int32 → Int32 → Int32 → Int32 → Int32 → Int32 → (Nat → Int32) → (Nat → Int32) → (Nat → Int32) → (Nat → Int32) → (Nat → Int32) → (Nat → Int32) → (Nat → Int32) → (Nat → Int32) → (Nat → Int32) → (Nat → Int32) → Prop} (hN : N ≤ 12) (hT : T ≤ 15) (hw : ls_all N T t l) (K : ∀ (mv : Int32) (sk sh : Nat → Int32) (w : Nat → Nat), (∀ d, d < N → sh d = nI (w d)) → xv_I N T (ls_F T t l) w0 N w mv → J mv (x2 + 1) (nI N) (nI T) dd ed (ls_I t) (ls_I l) sk sh os de re le so od) : ∀ (m i n : Nat) (mv : Int32) (sk sh : Nat → Int32) (w : Nat → Nat), i + m = N → m < n → (∀ d, d < N → sh d = nI (w d)) → xv_I N T (ls_F T t l) w0 i w mv → wX_findValues_42 post J x2 n mv (nI i) (nI N) (nI T) dd ed (ls_I t) (ls_I l) sk sh os de re le so od := by
  intro m
  induction m with
  | zero =>
    intro i n mv sk sh w hi hn hs hv
    obtain ⟨n, rfl⟩ : ∃ k, n = k + 1 := ⟨n - 1, by omega⟩
    have e : i = N := by omega
    subst e
    exact br_t (nI_le (by omega) (by omega)) (nm_e (K mv sk sh w hs hv))
  | succ m ih =>
    intro i n mv sk sh w hi hn hs hv
    obtain ⟨n, rfl⟩ : ∃ k, n = k + 1 := ⟨n - 1, by omega⟩
    have hiN : i < N := by omega
    have ok := ls_F_ok hw
    have hb := hv.1.1
    have hFb := ok.2 w hb i hiN
    have hwb := hb i hiN
    have main : ∀ (mv' : Int32) (sk' : Nat → Int32), (mv' = 0 → mv = 0 ∧ ls_F T t l w i = w i) → wX_findValues_77 post J (wX_findValues_42 post J x2 n) x2 (nI i) (nI (ls_F T t l w i)) mv' (nI N) (nI T) dd ed (ls_I t) (ls_I l) sk' sh os de re le so od := by
      intro mv' sk' hm
      refine ⟨vp_in_nI (by omega) (by decide), nm_e (nm_r (nI_1 i) (ih (i + 1) n mv' sk' _ _ (by omega) (by omega) ?_ (xv_step ok hv hiN hm)))⟩
      intro d hd
      rw [nI_clamp (by omega)]
      by_cases e : d = i
      · rw [e, pk_us, ls_us]
      · rw [pk_un e, ls_un e]; exact hs d hd
    refine br_f (nI_ge (by omega) (by omega)) (xe_eval hN hT (hw i hiN) hiN hs hb (fun sk' => ?_))
    by_cases h0 : mv = 0
    · refine br_t h0 ⟨vp_in_nI (by omega) (by decide), ?_⟩
      rw [nI_clamp (by omega), hs i hiN]
      exact pk_eq _ _ (fun z => main 0 sk' (fun _ => ⟨h0, z⟩)) (fun _ => main 1 sk' (fun z => absurd z (by decide)))
    · exact br_f h0 (main 1 sk' (fun z => absurd z (by decide)))
theorem xv_out {N T : Nat} {t l : Nat → Nat} {dd ed : Int32} {os de re le so od : Nat → Int32} {post : St2 → Prop} (hN : N ≤ 12) (hT : T ≤ 15) (hw : ls_all N T t l) (hp : ∀ (sk sh : Nat → Int32) (w : Nat → Nat), (∀ d, d < N → sh d = nI (w d)) → lf_least N T (ls_F T t l) w → post (nI N, nI T, dd, ed, ls_I t, ls_I l, sk, sh, os, de, re, le, so, od)) : ∀ (m r n : Nat) (mv : Int32) (sk sh : Nat → Int32) (w : Nat → Nat), r + m = 180 → m < n → (∀ d, d < N → sh d = nI (w d)) → lf_R N T (ls_F T t l) r w → (mv = 0 → ∀ d, d < N → ls_F T t l w d = w d) → wX_findValues_27 post n mv (nI r) (nI N) (nI T) dd ed (ls_I t) (ls_I l) sk sh os de re le so od := by
  have ok := ls_F_ok hw
  intro m
  induction m with
  | zero =>
    intro r n mv sk sh w hr hn hs hv hm
    obtain ⟨n, rfl⟩ : ∃ k, n = k + 1 := ⟨n - 1, by omega⟩
    by_cases h0 : mv = 0
    · exact br_t h0 (hp sk sh w hs (lf_end hv.1 (hm h0)))
    · refine br_f h0 (br_t (nI_le (a := 180) (by omega) (by omega)) (hp sk sh w hs (lf_done ok hv ?_)))
      have := Nat.mul_le_mul hN hT
      omega
  | succ m ih =>
    intro r n mv sk sh w hr hn hs hv hm
    obtain ⟨n, rfl⟩ : ∃ k, n = k + 1 := ⟨n - 1, by omega⟩
    by_cases h0 : mv = 0
    · exact br_t h0 (hp sk sh w hs (lf_end hv.1 (hm h0)))
    · refine br_f h0 (br_f (nI_ge (b := 180) (by omega) (by decide)) ⟨N + 1, ?_⟩)
      refine xv_in hN hT hw (fun mv' sk' sh' w' hs' hv' => ?_) N 0 (N + 1) 0 sk sh w (by omega) (by omega) hs (xv_I0 hv.1)
      rw [nI_1]
      refine ih (r + 1) n mv' sk' sh' w' (by omega) (by omega) hs' (lf_round ok hv hv'.1 hv'.2.2.1) (fun z => ?_)
      have ⟨a, b⟩ := hv'.2.2.2 z
      exact lf_sol_congr ok (fun c hc => (a c hc).symm) b
theorem xv_values {N T : Nat} {t l : Nat → Nat} {dd ed : Int32} {sk sh os de re le so od : Nat → Int32} {post : St2 → Prop} (hN : N ≤ 12) (hT : T ≤ 15) (hw : ls_all N T t l) (hp : ∀ (sk sh : Nat → Int32) (w : Nat → Nat), (∀ d, d < N → sh d = nI (w d)) → lf_least N T (ls_F T t l) w → post (nI N, nI T, dd, ed, ls_I t, ls_I l, sk, sh, os, de, re, le, so, od)) : wpX_findValues post (nI N, nI T, dd, ed, ls_I t, ls_I l, sk, sh, os, de, re, le, so, od) := by
  refine ⟨N + 1, xv_zero hN (fun sh' h0 => ⟨181, ?_⟩) N 0 (N + 1) sh (by omega) (by omega) (fun d hd => absurd hd (Nat.not_lt_zero d))⟩
  exact xv_out hN hT hw hp 180 0 181 1 sk sh' (fun _ => 0) (by omega) (by omega) (fun d hd => by rw [h0 d hd]; rfl) (lf_R0 (lf_inv0 (fun _ _ => rfl))) (fun z => absurd z (by decide))
