/-! X: findUses, reaches, findReach -/
def de_u (t : Nat → Nat) (c d : Nat) : Nat → Bool
  | 0 => false
  | i + 1 => de_u t c d i || (decide (ls_kd t c i = 1) && decide (ls_ar t c i = d))
def de_Ub (N : Nat) (t l : Nat → Nat) (c d : Nat) : Bool := decide (c < N) && de_u t c d (l c)
theorem de_u_iff {t : Nat → Nat} {c d : Nat} : ∀ n, de_u t c d n = true ↔ ∃ i, i < n ∧ ls_kd t c i = 1 ∧ ls_ar t c i = d
  | 0 => ⟨fun h => absurd h Bool.false_ne_true, fun ⟨i, hi, _⟩ => absurd hi (Nat.not_lt_zero i)⟩
  | n + 1 => by
    show (de_u t c d n || (decide (ls_kd t c n = 1) && decide (ls_ar t c n = d))) = true ↔ _
    rw [Bool.or_eq_true, Bool.and_eq_true, decide_eq_true_eq, decide_eq_true_eq, de_u_iff n]
    constructor
    · rintro (⟨i, hi, h⟩ | h)
      · exact ⟨i, by omega, h⟩
      · exact ⟨n, by omega, h⟩
    · rintro ⟨i, hi, h⟩
      by_cases e : i = n
      · subst e; exact Or.inr h
      · exact Or.inl ⟨i, by omega, h⟩
theorem de_Ub_at {N c d : Nat} {t l : Nat → Nat} (hc : c < N) : de_Ub N t l c d = de_u t c d (l c) := by
  unfold de_Ub
  rw [decide_eq_true hc, Bool.true_and]
theorem de_Ub_lt {N T : Nat} {t l : Nat → Nat} (hw : ls_all N T t l) (c d : Nat) (h : de_Ub N t l c d = true) : d < N := by
  unfold de_Ub at h
  rw [Bool.and_eq_true, decide_eq_true_eq, de_u_iff] at h
  obtain ⟨hc, i, hi, h1, h2⟩ := h
  rw [← h2]
  exact ((hw c hc).1.2 i hi).1.2.2.1 h1
theorem xr_1 : ∀ j, j < 32 → bt 1 j = decide (j = 0) := by decide +kernel
theorem xr_bit {a d : Nat} (ha : a < 32) (hd : d < 32) : bt ((1 : Int32) <<< (nI a &&& 31)) d = decide (a = d) := by
  rw [b_shl a ha 1 hd]
  by_cases h : a ≤ d
  · rw [decide_eq_true h, Bool.true_and, xr_1 _ (by omega)]
    by_cases e : a = d
    · rw [decide_eq_true e, decide_eq_true (by omega)]
    · rw [decide_eq_false e, decide_eq_false (by omega)]
  · rw [decide_eq_false h, Bool.false_and, decide_eq_false (by omega)]
theorem xr_test (x : Int32) {d : Nat} (hd : d < 32) : ((x >>> (nI d &&& 31)) &&& 1) = 1 ↔ bt x d = true := by
  have e : ∀ j, j < 32 → bt ((x >>> (nI d &&& 31)) &&& 1) j = (decide (j = 0) && bt x d) := by
    intro j hj
    rw [b_and, xr_1 j hj, b_sshr d hd x hj, Bool.and_comm]
    by_cases z : j = 0
    · subst z
      rw [if_pos (by omega), Nat.add_zero]
    · rw [decide_eq_false z, Bool.false_and, Bool.false_and]
  constructor
  · intro h
    have h0 := e 0 (by omega)
    rw [h, xr_1 0 (by omega)] at h0
    rw [decide_eq_true rfl, Bool.true_and] at h0
    exact h0.symm
  · intro h
    apply b_ext
    intro j hj
    rw [e j hj, h, Bool.and_true, xr_1 j hj]
theorem xr_reaches {c d : Nat} {post : Int32 → Prop} {N T dd ed : Int32} {tk ln sk sh os de re le so od : Nat → Int32} (hc : c < 12) (hd : d < 12) (h1 : bt (re c) d = true → post 1) (h0 : bt (re c) d = false → post 0) : wpX_reaches post (N, T, dd, ed, tk, ln, sk, sh, os, de, re, le, so, od) (nI c) (nI d) := by
  refine ⟨vp_in_nI hc (by decide), ?_⟩
  rw [nI_clamp (by omega)]
  refine br_c (fun z => h1 ((xr_test _ (by omega)).mp z)) (fun z => h0 ?_)
  cases e : bt (re c) d
  · rfl
  · exact absurd ((xr_test _ (by omega)).mpr e) z
theorem xr_uses_loop {N T : Nat} {t l : Nat → Nat} {c : Nat} {T' dd ed N' : Int32} {sk sh os de re le so od : Nat → Int32} {post : Int32 → Prop} (hN : N ≤ 12) (hT : T ≤ 15) (hw : ls_dr N T (l c) (ls_kd t c) (ls_ar t c)) (hc : c < 12) (hp : ∀ x : Int32, (∀ d, d < 32 → bt x d = de_u t c d (l c)) → post x) : ∀ (m i n : Nat) (x : Int32), i + m = l c → m < n → (∀ d, d < 32 → bt x d = de_u t c d i) → wX_findUses_20 post (nI (8 * c + l c)) N' T' dd ed (ls_I t) (ls_I l) sk sh os de re le so od n x (nI (8 * c + i)) := by
  have h8 := hw.1
  intro m
  induction m with
  | zero =>
    intro i n x hi hn hv
    obtain ⟨n, rfl⟩ : ∃ k, n = k + 1 := ⟨n - 1, by omega⟩
    have e : i = l c := by omega
    exact br_t (nI_le (by omega) (by omega)) (hp x (fun d hd => by rw [hv d hd, e]))
  | succ m ih =>
    intro i n x hi hn hv
    obtain ⟨n, rfl⟩ : ∃ k, n = k + 1 := ⟨n - 1, by omega⟩
    have ⟨h5, ha, h6, hi8, hsh, href⟩ := xe_tok hN hT hw (i := i) (by omega)
    have hin : vp_in (nI (8 * c + i)) 104 := vp_in_nI (by omega) (by decide)
    refine br_f (nI_ge (by omega) (by omega)) ⟨hin, by decide, ?_⟩
    rw [xe_rem h6 (by omega) hi8, xe_div h6 (by omega) hi8]
    refine pk_eq _ 1 (fun h1 => ⟨hin, by decide, nm_e (nm_r (e' := nI (8 * c + (i + 1))) (nI_1 _) (ih (i + 1) n _ (by omega) (by omega) ?_))⟩) (fun h1 => nm_r (e' := nI (8 * c + (i + 1))) (nI_1 _) (ih (i + 1) n _ (by omega) (by omega) ?_))
    · intro d hd
      have hr := href h1
      rw [b_or, hv d hd, xr_bit (by omega) hd]
      show _ = (de_u t c d i || (decide (ls_kd t c i = 1) && decide (ls_ar t c i = d)))
      rw [decide_eq_true h1, Bool.true_and]
    · intro d hd
      rw [hv d hd]
      show _ = (de_u t c d i || (decide (ls_kd t c i = 1) && decide (ls_ar t c i = d)))
      rw [decide_eq_false h1, Bool.false_and, Bool.or_false]
theorem xr_uses {N T : Nat} {t l : Nat → Nat} {c : Nat} {T' dd ed N' : Int32} {sk sh os de re le so od : Nat → Int32} {post : Int32 → Prop} (hN : N ≤ 12) (hT : T ≤ 15) (hw : ls_dr N T (l c) (ls_kd t c) (ls_ar t c)) (hc : c < 12) (hp : ∀ x : Int32, (∀ d, d < 32 → bt x d = de_u t c d (l c)) → post x) : wpX_findUses post (N', T', dd, ed, ls_I t, ls_I l, sk, sh, os, de, re, le, so, od) (nI c) := by
  have h8 := hw.1
  have e1 : nI c * 8 = nI (8 * c) := by rw [Nat.mul_comm]; exact pk_mul c 8
  have e2 : nI (8 * c) + ls_I l (nI c).toNatClampNeg = nI (8 * c + l c) := by rw [ls_Iat (by omega), nI_add]
  refine nm_r e1 ⟨vp_in_nI (by omega) (by decide), nm_r e2 ⟨l c + 1, ?_⟩⟩
  exact xr_uses_loop hN hT hw hc hp (l c) 0 (l c + 1) 0 (by omega) (by omega) (fun d hd => b_0 d)
theorem xr_diag (U : Nat → Nat → Bool) (k d : Nat) : wa_S U (k + 1) k d = wa_S U k k d := by
  show (wa_S U k k d || (wa_S U k k k && wa_S U k k d)) = _
  cases wa_S U k k d
  · rw [Bool.and_false]; rfl
  · rfl
/-- the rows while cell k is gone through: those below i are done -/
def xr_I (N : Nat) (U : Nat → Nat → Bool) (k i : Nat) (re : Nat → Int32) : Prop := ∀ c d, c < N → d < N → bt (re c) d = if c < i then wa_S U (k + 1) c d else wa_S U k c d
theorem xr_in {N : Nat} {U : Nat → Nat → Bool} {k : Nat} {T dd ed : Int32} {tk ln sk sh os de le so od : Nat → Int32} {post : St2 → Prop} {J : Int32 → (Nat → Int32) → (Nat → Int32) → (Nat → Int32) → (Nat → Int32) → (Nat → Int32) → (Nat → Int32) → (Nat → Int32) → (Nat → Int32) → (Nat → Int32) → (Nat → Int32) → Prop} (hN : N ≤ 12) (hk : k < N) (K : ∀ re : Nat → Int32, xr_I N U k N re → J (nI (k + 1)) tk ln sk sh os de re le so od) : ∀ (m i n : Nat) (re : Nat → Int32), i + m = N → m < n → xr_I N U k i re → wX_findReach_39 post J (nI k) (nI N) T dd ed n (nI i) tk ln sk sh os de re le so od := by
  intro m
  induction m with
  | zero =>
    intro i n re hi hn hv
    obtain ⟨n, rfl⟩ : ∃ k, n = k + 1 := ⟨n - 1, by omega⟩
    have e : i = N := by omega
    subst e
    exact br_t (nI_le (by omega) (by omega)) (nm_r (nI_1 k) (K re hv))
  | succ m ih =>
    intro i n re hi hn hv
    obtain ⟨n, rfl⟩ : ∃ k, n = k + 1 := ⟨n - 1, by omega⟩
    have hik := hv i k (by omega) hk
    rw [if_neg (Nat.lt_irrefl i)] at hik
    refine br_f (nI_ge (by omega) (by omega)) (xr_reaches (by omega) (by omega) (fun hb => ?_) (fun hb => ?_))
    · refine br_f (by decide) ⟨vp_in_nI (by omega) (by decide), vp_in_nI (by omega) (by decide), vp_in_nI (by omega) (by decide), nm_e (nm_r (nI_1 i) (ih (i + 1) n _ (by omega) (by omega) ?_))⟩
      intro c d hc hd
      rw [nI_clamp (by omega), nI_clamp (by omega)]
      by_cases e : c = i
      · rw [e, pk_us, b_or, hv i d (by omega) hd, hv k d hk hd, if_neg (Nat.lt_irrefl i), if_pos (Nat.lt_succ_self i)]
        show _ = (wa_S U k i d || (wa_S U k i k && wa_S U k k d))
        rw [← hik, hb, Bool.true_and]
        by_cases z : k < i
        · rw [if_pos z, xr_diag]
        · rw [if_neg z]
      · rw [pk_un e, hv c d hc hd]
        by_cases z : c < i
        · rw [if_pos z, if_pos (by omega)]
        · rw [if_neg z, if_neg (by omega)]
    · refine br_t rfl (nm_r (nI_1 i) (ih (i + 1) n _ (by omega) (by omega) ?_))
      intro c d hc hd
      by_cases e : c = i
      · rw [e, hv i d (by omega) hd, if_neg (Nat.lt_irrefl i), if_pos (Nat.lt_succ_self i)]
        show _ = (wa_S U k i d || (wa_S U k i k && wa_S U k k d))
        rw [← hik, hb, Bool.false_and, Bool.or_false]
      · rw [hv c d hc hd]
        by_cases z : c < i
        · rw [if_pos z, if_pos (by omega)]
        · rw [if_neg z, if_neg (by omega)]
theorem xr_out {N : Nat} {U : Nat → Nat → Bool} {T dd ed : Int32} {tk ln sk sh os de le so od : Nat → Int32} {post : St2 → Prop} (hN : N ≤ 12) (hp : ∀ re : Nat → Int32, (∀ c d, c < N → d < N → bt (re c) d = wa_S U N c d) → post (nI N, T, dd, ed, tk, ln, sk, sh, os, de, re, le, so, od)) : ∀ (m k n : Nat) (re : Nat → Int32), k + m = N → m < n → (∀ c d, c < N → d < N → bt (re c) d = wa_S U k c d) → wX_findReach_29 post (nI N) T dd ed n (nI k) tk ln sk sh os de re le so od := by
  intro m
  induction m with
  | zero =>
    intro k n re hk hn hv
    obtain ⟨n, rfl⟩ : ∃ k, n = k + 1 := ⟨n - 1, by omega⟩
    have e : k = N := by omega
    subst e
    exact br_t (nI_le (by omega) (by omega)) (hp re hv)
  | succ m ih =>
    intro k n re hk hn hv
    obtain ⟨n, rfl⟩ : ∃ k, n = k + 1 := ⟨n - 1, by omega⟩
    refine br_f (nI_ge (by omega) (by omega)) ⟨N + 1, xr_in hN (U := U) (by omega) (fun re' h' => ih (k + 1) n re' (by omega) (by omega) (fun c d hc hd => ?_)) N 0 (N + 1) re (by omega) (by omega) (fun c d hc hd => ?_)⟩
    · rw [h' c d hc hd, if_pos hc]
    · rw [if_neg (Nat.not_lt_zero c)]; exact hv c d hc hd
theorem xr_first {N T : Nat} {t l : Nat → Nat} {T' dd ed : Int32} {sk sh os de le so od : Nat → Int32} {post : St2 → Prop} (hN : N ≤ 12) (hT : T ≤ 15) (hw : ls_all N T t l) (hp : ∀ re : Nat → Int32, (∀ c d, c < N → d < N → bt (re c) d = wa_S (de_Ub N t l) N c d) → post (nI N, T', dd, ed, ls_I t, ls_I l, sk, sh, os, de, re, le, so, od)) : ∀ (m i n : Nat) (re : Nat → Int32), i + m = N → m < n → (∀ c d, c < i → d < N → bt (re c) d = de_Ub N t l c d) → wX_findReach_2 post (nI N) T' dd ed n (nI i) (ls_I t) (ls_I l) sk sh os de re le so od := by
  intro m
  induction m with
  | zero =>
    intro i n re hi hn hv
    obtain ⟨n, rfl⟩ : ∃ k, n = k + 1 := ⟨n - 1, by omega⟩
    exact br_t (nI_le (by omega) (by omega)) ⟨N + 1, xr_out hN hp N 0 (N + 1) re (by omega) (by omega) (fun c d hc hd => hv c d (by omega) hd)⟩
  | succ m ih =>
    intro i n re hi hn hv
    obtain ⟨n, rfl⟩ : ∃ k, n = k + 1 := ⟨n - 1, by omega⟩
    refine br_f (nI_ge (by omega) (by omega)) (xr_uses hN hT (hw i (by omega)).1 (by omega) (fun x hx => ⟨vp_in_nI (by omega) (by decide), nm_e (nm_r (nI_1 i) (ih (i + 1) n _ (by omega) (by omega) ?_))⟩))
    intro c d hc hd
    rw [nI_clamp (by omega)]
    by_cases e : c = i
    · rw [e, pk_us, hx d (by omega), de_Ub_at (by omega)]
    · rw [pk_un e]; exact hv c d (by omega) hd
theorem xr_reach {N T : Nat} {t l : Nat → Nat} {T' dd ed : Int32} {sk sh os de re le so od : Nat → Int32} {post : St2 → Prop} (hN : N ≤ 12) (hT : T ≤ 15) (hw : ls_all N T t l) (hp : ∀ re : Nat → Int32, (∀ c d, c < N → d < N → bt (re c) d = wa_S (de_Ub N t l) N c d) → post (nI N, T', dd, ed, ls_I t, ls_I l, sk, sh, os, de, re, le, so, od)) : wpX_findReach post (nI N, T', dd, ed, ls_I t, ls_I l, sk, sh, os, de, re, le, so, od) :=
  ⟨N + 1, xr_first hN hT hw hp N 0 (N + 1) re (by omega) (by omega) (fun c _ hc _ => absurd hc (Nat.not_lt_zero c))⟩
