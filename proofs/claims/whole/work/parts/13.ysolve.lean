/-! Y: solve -/
theorem ys_copy {N : Nat} {T ed x1 : Int32} {tk ln ol dp nx sk : Nat → Int32} {post : SY → Prop} {J : Int32 → Int32 → Int32 → Int32 → (Nat → Int32) → (Nat → Int32) → (Nat → Int32) → (Nat → Int32) → (Nat → Int32) → (Nat → Int32) → (Nat → Int32) → Prop} (hN : N ≤ 12) (K : ∀ sh : Nat → Int32, (∀ d, d < N → sh d = nx d) → J (x1 + 1) (nI N) T ed tk ln sh ol dp nx sk) : ∀ (m i n : Nat) (sh : Nat → Int32), i + m = N → m < n → (∀ d, d < i → sh d = nx d) → wY_solve_67 post J x1 (nI N) T ed n (nI i) tk ln sh ol dp nx sk := by
  intro m
  induction m with
  | zero =>
    intro i n sh hi hn hv
    obtain ⟨n, rfl⟩ : ∃ k, n = k + 1 := ⟨n - 1, by omega⟩
    exact br_t (nI_le (by omega) (by omega)) (nm_e (K sh (fun d hd => hv d (by omega))))
  | succ m ih =>
    intro i n sh hi hn hv
    obtain ⟨n, rfl⟩ : ∃ k, n = k + 1 := ⟨n - 1, by omega⟩
    have hin : vp_in (nI i) 12 := vp_in_nI (by omega) (by decide)
    refine br_f (nI_ge (by omega) (by omega)) ⟨hin, hin, nm_e (nm_r (nI_1 i) (ih (i + 1) n _ (by omega) (by omega) (fun d hd => ?_)))⟩
    rw [nI_clamp (by omega)]
    by_cases z : d = i
    · rw [z, pk_us]
    · rw [pk_un z]; exact hv d (by omega)
theorem ys_next {N T : Nat} {t l w : Nat → Nat} {ed x1 : Int32} {sh ol dp : Nat → Int32} {post : SY → Prop} {J : Int32 → Int32 → Int32 → Int32 → (Nat → Int32) → (Nat → Int32) → (Nat → Int32) → (Nat → Int32) → (Nat → Int32) → (Nat → Int32) → (Nat → Int32) → Prop} (hN : N ≤ 12) (hT : T ≤ 15) (hw : ls_all N T t l) (hs : ∀ d, d < N → sh d = nI (w d)) (hb : ∀ d, d < N → w d ≤ T) (K : ∀ nx sk : Nat → Int32, (∀ d, d < N → nx d = nI (ls_F T t l w d)) → ∃ n, wY_solve_67 post J x1 (nI N) (nI T) ed n 0 (ls_I t) (ls_I l) sh ol dp nx sk) : ∀ (m i n : Nat) (nx sk : Nat → Int32), i + m = N → m < n → (∀ d, d < i → nx d = nI (ls_F T t l w d)) → wY_solve_40 post J x1 n (nI i) (nI N) (nI T) ed (ls_I t) (ls_I l) sh ol dp nx sk := by
  intro m
  induction m with
  | zero =>
    intro i n nx sk hi hn hv
    obtain ⟨n, rfl⟩ : ∃ k, n = k + 1 := ⟨n - 1, by omega⟩
    exact br_t (nI_le (by omega) (by omega)) (K nx sk (fun d hd => hv d (by omega)))
  | succ m ih =>
    intro i n nx sk hi hn hv
    obtain ⟨n, rfl⟩ : ∃ k, n = k + 1 := ⟨n - 1, by omega⟩
    refine br_f (nI_ge (by omega) (by omega)) (ye_eval hN hT (hw i (by omega)) (by omega) hs hb (fun sk' => ⟨vp_in_nI (by omega) (by decide), nm_e (nm_r (nI_1 i) (ih (i + 1) n _ _ (by omega) (by omega) (fun d hd => ?_)))⟩))
    rw [nI_clamp (by omega)]
    by_cases z : d = i
    · rw [z, pk_us]
    · rw [pk_un z]; exact hv d (by omega)
theorem ys_out {N T : Nat} {t l : Nat → Nat} {ed : Int32} {ol dp : Nat → Int32} {post : SY → Prop} (hN : N ≤ 12) (hT : T ≤ 15) (hw : ls_all N T t l) (hp : ∀ (sh nx sk : Nat → Int32) (w : Nat → Nat), (∀ d, d < N → sh d = nI (w d)) → lf_least N T (ls_F T t l) w → post (nI N, nI T, ed, ls_I t, ls_I l, sh, ol, dp, nx, sk)) : ∀ (m r n : Nat) (sh nx sk : Nat → Int32) (w : Nat → Nat), r + m = N * T → m < n → (∀ d, d < N → sh d = nI (w d)) → lf_R N T (ls_F T t l) r w → wY_solve_25 post n (nI r) (nI N) (nI T) ed (ls_I t) (ls_I l) sh ol dp nx sk := by
  have ok := ls_F_ok hw
  have hNT := Nat.mul_le_mul hN hT
  have eNT : nI N * nI T = nI (N * T) := pk_mul N T
  intro m
  induction m with
  | zero =>
    intro r n sh nx sk w hr hn hs hv
    obtain ⟨n, rfl⟩ : ∃ k, n = k + 1 := ⟨n - 1, by omega⟩
    exact br_t (by rw [eNT]; exact nI_le (by omega) (by omega)) (hp sh nx sk w hs (lf_done ok hv (by omega)))
  | succ m ih =>
    intro r n sh nx sk w hr hn hs hv
    obtain ⟨n, rfl⟩ : ∃ k, n = k + 1 := ⟨n - 1, by omega⟩
    refine br_f (by rw [eNT]; exact nI_ge (by omega) (by omega)) ⟨N + 1, ys_next hN hT hw hs hv.1.1 (fun nx' sk' hx => ⟨N + 1, ?_⟩) N 0 (N + 1) nx sk (by omega) (by omega) (fun d hd => absurd hd (Nat.not_lt_zero d))⟩
    refine ys_copy hN (fun sh' hx' => ?_) N 0 (N + 1) sh (by omega) (by omega) (fun d hd => absurd hd (Nat.not_lt_zero d))
    rw [nI_1]
    exact ih (r + 1) n sh' nx' sk' (ls_F T t l w) (by omega) (by omega) (fun d hd => by rw [hx' d hd, hx d hd]) (lf_round ok hv (lf_jac ok hv.1 (fun _ _ => rfl)) (fun _ _ => Nat.le_refl _))
theorem ys_zero {N : Nat} {T ed : Int32} {tk ln ol dp nx sk : Nat → Int32} {post : SY → Prop} (hN : N ≤ 12) (K : ∀ sh : Nat → Int32, (∀ d, d < N → sh d = 0) → ∃ n, wY_solve_25 post n 0 (nI N) T ed tk ln sh ol dp nx sk) : ∀ (m i n : Nat) (sh : Nat → Int32), i + m = N → m < n → (∀ d, d < i → sh d = 0) → wY_solve_2 post (nI N) T ed n (nI i) tk ln sh ol dp nx sk := by
  intro m
  induction m with
  | zero =>
    intro i n sh hi hn hv
    obtain ⟨n, rfl⟩ : ∃ k, n = k + 1 := ⟨n - 1, by omega⟩
    exact br_t (nI_le (by omega) (by omega)) (K sh (fun d hd => hv d (by omega)))
  | succ m ih =>
    intro i n sh hi hn hv
    obtain ⟨n, rfl⟩ : ∃ k, n = k + 1 := ⟨n - 1, by omega⟩
    refine br_f (nI_ge (by omega) (by omega)) ⟨vp_in_nI (by omega) (by decide), nm_e (nm_r (nI_1 i) (ih (i + 1) n _ (by omega) (by omega) (fun d hd => ?_)))⟩
    rw [nI_clamp (by omega)]
    by_cases z : d = i
    · rw [z, pk_us]
    · rw [pk_un z]; exact hv d (by omega)
theorem ys_solve {N T : Nat} {t l : Nat → Nat} {ed : Int32} {sh ol dp nx sk : Nat → Int32} {post : SY → Prop} (hN : N ≤ 12) (hT : T ≤ 15) (hw : ls_all N T t l) (hp : ∀ (sh nx sk : Nat → Int32) (w : Nat → Nat), (∀ d, d < N → sh d = nI (w d)) → lf_least N T (ls_F T t l) w → post (nI N, nI T, ed, ls_I t, ls_I l, sh, ol, dp, nx, sk)) : wpY_solve post (nI N, nI T, ed, ls_I t, ls_I l, sh, ol, dp, nx, sk) := by
  refine ⟨N + 1, ys_zero hN (fun sh' h0 => ⟨N * T + 1, ?_⟩) N 0 (N + 1) sh (by omega) (by omega) (fun d hd => absurd hd (Nat.not_lt_zero d))⟩
  exact ys_out hN hT hw hp (N * T) 0 (N * T + 1) sh' nx sk (fun _ => 0) (by omega) (by omega) (fun d hd => by rw [h0 d hd]; rfl) (lf_R0 (lf_inv0 (fun _ _ => rfl)))
