/-! X: findLeader, findRank, findOrder, findStructure -/
theorem xo_lead {N c : Nat} {D : Nat → Nat → Bool} {T dd ed : Int32} {tk ln sk sh os de re le so od : Nat → Int32} {post : Int32 → Prop} (hN : N ≤ 12) (hc : c < N) (hD : ∀ c d, c < N → d < N → bt (re c) d = D c d) : ∀ (m d n : Nat), d + m = c → m < n → post (nI (or_ldf D c m d)) → wX_findLeader_2 post (nI c) (nI N) T dd ed tk ln sk sh os de re le so od n (nI d) := by
  intro m
  induction m with
  | zero =>
    intro d n hd hn hp
    obtain ⟨n, rfl⟩ : ∃ k, n = k + 1 := ⟨n - 1, by omega⟩
    have e : d = c := by omega
    subst e
    exact br_t (nI_le (by omega) (by omega)) hp
  | succ m ih =>
    intro d n hd hn hp
    obtain ⟨n, rfl⟩ : ∃ k, n = k + 1 := ⟨n - 1, by omega⟩
    have hp' : post (nI (if (D c d && D d c) = true then d else or_ldf D c m (d + 1))) := hp
    refine br_f (nI_ge (by omega) (by omega)) (xr_reaches (by omega) (by omega) (fun h1 => ?_) (fun h1 => ?_))
    · rw [hD c d hc (by omega)] at h1
      refine br_f (by decide) (xr_reaches (by omega) (by omega) (fun h2 => ?_) (fun h2 => ?_))
      · rw [hD d c (by omega) hc] at h2
        rw [h1, h2] at hp'
        exact br_f (by decide) hp'
      · rw [hD d c (by omega) hc] at h2
        rw [h1, h2] at hp'
        exact br_t rfl (nm_r (nI_1 d) (ih (d + 1) n (by omega) (by omega) hp'))
    · rw [hD c d hc (by omega)] at h1
      rw [h1] at hp'
      exact br_t rfl (nm_r (nI_1 d) (ih (d + 1) n (by omega) (by omega) hp'))
theorem xo_leader {N c : Nat} {D : Nat → Nat → Bool} {T dd ed : Int32} {tk ln sk sh os de re le so od : Nat → Int32} {post : Int32 → Prop} (hN : N ≤ 12) (hc : c < N) (hD : ∀ c d, c < N → d < N → bt (re c) d = D c d) (hp : post (nI (or_ld D c))) : wpX_findLeader post (nI N, T, dd, ed, tk, ln, sk, sh, os, de, re, le, so, od) (nI c) :=
  ⟨c + 1, xo_lead hN hc hD c 0 (c + 1) (by omega) (by omega) hp⟩
theorem xo_rk {N c : Nat} {D : Nat → Nat → Bool} {T dd ed : Int32} {tk ln sk sh os de re le so od : Nat → Int32} {post : Int32 → Prop} (hN : N ≤ 12) (hc : c < N) (hD : ∀ c d, c < N → d < N → bt (re c) d = D c d) (hp : post (nI (or_rk N D c))) : ∀ (m d n : Nat), d + m = N → m < n → wX_findRank_4 post (nI c) (nI N) T dd ed tk ln sk sh os de re le so od n (nI (or_cnt (or_rp D c) d)) (nI d) := by
  intro m
  induction m with
  | zero =>
    intro d n hd hn
    obtain ⟨n, rfl⟩ : ∃ k, n = k + 1 := ⟨n - 1, by omega⟩
    have e : d = N := by omega
    subst e
    exact br_t (nI_le (by omega) (by omega)) hp
  | succ m ih =>
    intro d n hd hn
    obtain ⟨n, rfl⟩ : ∃ k, n = k + 1 := ⟨n - 1, by omega⟩
    have ihd := ih (d + 1) n (by omega) (by omega)
    refine br_f (nI_ge (by omega) (by omega)) (xr_reaches (by omega) (by omega) (fun h1 => ?_) (fun h1 => ?_))
    · rw [hD c d hc (by omega)] at h1
      refine br_f (by decide) (xr_reaches (by omega) (by omega) (fun h2 => ?_) (fun h2 => ?_))
      · rw [hD d c (by omega) hc] at h2
        rw [or_cntF (by show (D c d && !D d c) = false; rw [h1, h2]; rfl)] at ihd
        exact br_f (by decide) (nm_r (nI_1 d) ihd)
      · rw [hD d c (by omega) hc] at h2
        rw [or_cnt1 (by show (D c d && !D d c) = true; rw [h1, h2]; rfl)] at ihd
        exact br_t rfl (nm_r (nI_1 _) (nm_r (nI_1 d) ihd))
    · rw [hD c d hc (by omega)] at h1
      rw [or_cntF (by show (D c d && !D d c) = false; rw [h1]; rfl)] at ihd
      exact br_t rfl (nm_r (nI_1 d) ihd)
theorem xo_rank {N c : Nat} {D : Nat → Nat → Bool} {T dd ed : Int32} {tk ln sk sh os de re le so od : Nat → Int32} {post : Int32 → Prop} (hN : N ≤ 12) (hc : c < N) (hD : ∀ c d, c < N → d < N → bt (re c) d = D c d) (hp : post (nI (or_rk N D c))) : wpX_findRank post (nI N, T, dd, ed, tk, ln, sk, sh, os, de, re, le, so, od) (nI c) :=
  ⟨N + 1, xo_rk hN hc hD hp N 0 (N + 1) (by omega) (by omega)⟩
theorem or_key_lt {N : Nat} (D : Nat → Nat → Bool) {c : Nat} (hN : N ≤ 12) (hc : c < N) : or_key N D c < 10000 := by
  have h1 := or_cnt_le (or_rp D c) N
  have h2 := or_ld_le D c
  unfold or_key or_rk
  omega
theorem xo_count {N c : Nat} {D : Nat → Nat → Bool} {T dd ed : Int32} {tk ln sk sh os de re le so od : Nat → Int32} {post : St2 → Prop} {J : Int32 → (Nat → Int32) → (Nat → Int32) → (Nat → Int32) → (Nat → Int32) → (Nat → Int32) → (Nat → Int32) → (Nat → Int32) → (Nat → Int32) → (Nat → Int32) → (Nat → Int32) → Prop} (hN : N ≤ 12) (hc : c < N) (hs : ∀ c, c < N → so c = nI (or_key N D c)) (K : J (nI (c + 1)) tk ln sk sh os de re le so (upd od (or_pl N D c) (nI c))) : ∀ (m d n : Nat), d + m = N → m < n → wX_findOrder_58 post J (nI c) (nI N) T dd ed tk ln sk sh os de re le so od n (nI (or_cnt (or_pp N D c) d)) (nI d) := by
  intro m
  induction m with
  | zero =>
    intro d n hd hn
    obtain ⟨n, rfl⟩ : ∃ k, n = k + 1 := ⟨n - 1, by omega⟩
    have e : d = N := by omega
    subst e
    have hpl : or_cnt (or_pp d D c) d < d := or_pl_lt D hc
    refine br_t (nI_le (by omega) (by omega)) ⟨vp_in_nI (by omega) (by decide), nm_e (nm_r (nI_1 c) ?_)⟩
    rw [nI_clamp (by omega)]
    exact K
  | succ m ih =>
    intro d n hd hn
    obtain ⟨n, rfl⟩ : ∃ k, n = k + 1 := ⟨n - 1, by omega⟩
    have ihd := ih (d + 1) n (by omega) (by omega)
    have k1 := or_key_lt D hN hc
    have k2 := or_key_lt D hN (show d < N by omega)
    refine br_f (nI_ge (by omega) (by omega)) ⟨vp_in_nI (by omega) (by decide), vp_in_nI (by omega) (by decide), ?_⟩
    rw [nI_clamp (by omega), nI_clamp (by omega), hs c hc, hs d (by omega)]
    refine pk_le _ _ (fun z => nm_r (nI_1 d) ?_) (fun z => nm_r (nI_1 _) (nm_r (nI_1 d) ?_))
    · rw [or_cntF (decide_eq_false (by omega))] at ihd
      exact ihd
    · rw [or_cnt1 (decide_eq_true z)] at ihd
      exact ihd
theorem xo_place {N : Nat} {D : Nat → Nat → Bool} {T dd ed : Int32} {tk ln sk sh os de re le so : Nat → Int32} {post : St2 → Prop} (hN : N ≤ 12) (hs : ∀ c, c < N → so c = nI (or_key N D c)) (hp : ∀ od : Nat → Int32, (∀ c, c < N → od (or_pl N D c) = nI c) → post (nI N, T, dd, ed, tk, ln, sk, sh, os, de, re, le, so, od)) : ∀ (m i n : Nat) (od : Nat → Int32), i + m = N → m < n → (∀ c, c < i → od (or_pl N D c) = nI c) → wX_findOrder_46 post (nI N) T dd ed n (nI i) tk ln sk sh os de re le so od := by
  intro m
  induction m with
  | zero =>
    intro i n od hi hn hv
    obtain ⟨n, rfl⟩ : ∃ k, n = k + 1 := ⟨n - 1, by omega⟩
    have e : i = N := by omega
    subst e
    exact br_t (nI_le (by omega) (by omega)) (hp od hv)
  | succ m ih =>
    intro i n od hi hn hv
    obtain ⟨n, rfl⟩ : ∃ k, n = k + 1 := ⟨n - 1, by omega⟩
    refine br_f (nI_ge (by omega) (by omega)) ⟨N + 1, xo_count (D := D) hN (by omega) hs (ih (i + 1) n _ (by omega) (by omega) (fun c hc => ?_)) N 0 (N + 1) (by omega) (by omega)⟩
    by_cases e : c = i
    · rw [e, pk_us]
    · rw [pk_un (fun z => e (or_pl_inj hN (by omega) (by omega) z))]
      exact hv c (by omega)
theorem xo_keys {N : Nat} {D : Nat → Nat → Bool} {T dd ed : Int32} {tk ln sk sh os de re le od : Nat → Int32} {post : St2 → Prop} (hN : N ≤ 12) (hD : ∀ c d, c < N → d < N → bt (re c) d = D c d) (hl : ∀ c, c < N → le c = nI (or_ld D c)) (hp : ∀ so od : Nat → Int32, (∀ c, c < N → od (or_pl N D c) = nI c) → post (nI N, T, dd, ed, tk, ln, sk, sh, os, de, re, le, so, od)) : ∀ (m i n : Nat) (so : Nat → Int32), i + m = N → m < n → (∀ c, c < i → so c = nI (or_key N D c)) → wX_findOrder_2 post (nI N) T dd ed n (nI i) tk ln sk sh os de re le so od := by
  intro m
  induction m with
  | zero =>
    intro i n so hi hn hv
    obtain ⟨n, rfl⟩ : ∃ k, n = k + 1 := ⟨n - 1, by omega⟩
    have e : i = N := by omega
    subst e
    exact br_t (nI_le (by omega) (by omega)) ⟨i + 1, xo_place hN hv (fun od h => hp so od h) i 0 (i + 1) od (by omega) (by omega) (fun c hc => absurd hc (Nat.not_lt_zero c))⟩
  | succ m ih =>
    intro i n so hi hn hv
    obtain ⟨n, rfl⟩ : ∃ k, n = k + 1 := ⟨n - 1, by omega⟩
    refine br_f (nI_ge (by omega) (by omega)) (xo_rank hN (by omega) hD ⟨vp_in_nI (by omega) (by decide), vp_in_nI (by omega) (by decide), nm_e (nm_r (nI_1 i) (ih (i + 1) n _ (by omega) (by omega) (fun c hc => ?_)))⟩)
    rw [nI_clamp (by omega)]
    by_cases e : c = i
    · rw [e, pk_us, hl i (by omega)]
      have e1 : nI (or_rk N D i) * 12 = nI (or_rk N D i * 12) := pk_mul _ 12
      have e2 : nI (or_rk N D i * 12 + or_ld D i) * 12 = nI ((or_rk N D i * 12 + or_ld D i) * 12) := pk_mul _ 12
      rw [e1, nI_add, e2, nI_add]
      rfl
    · rw [pk_un e]; exact hv c (by omega)
theorem xo_order {N : Nat} {D : Nat → Nat → Bool} {T dd ed : Int32} {tk ln sk sh os de re le so od : Nat → Int32} {post : St2 → Prop} (hN : N ≤ 12) (hD : ∀ c d, c < N → d < N → bt (re c) d = D c d) (hl : ∀ c, c < N → le c = nI (or_ld D c)) (hp : ∀ so od : Nat → Int32, (∀ c, c < N → od (or_pl N D c) = nI c) → post (nI N, T, dd, ed, tk, ln, sk, sh, os, de, re, le, so, od)) : wpX_findOrder post (nI N, T, dd, ed, tk, ln, sk, sh, os, de, re, le, so, od) :=
  ⟨N + 1, xo_keys hN hD hl hp N 0 (N + 1) so (by omega) (by omega) (fun c hc => absurd hc (Nat.not_lt_zero c))⟩
/-- what the class keeps of a dependence D -/
def xs_ok (N : Nat) (D : Nat → Nat → Bool) (re le od : Nat → Int32) : Prop := (∀ c d, c < N → d < N → bt (re c) d = D c d) ∧ (∀ c, c < N → le c = nI (or_ld D c)) ∧ (∀ c, c < N → od (or_pl N D c) = nI c)
theorem xs_lead {N : Nat} {D : Nat → Nat → Bool} {T dd ed : Int32} {tk ln sk sh os de re so od : Nat → Int32} {post : St2 → Prop} (hN : N ≤ 12) (hD : ∀ c d, c < N → d < N → bt (re c) d = D c d) (hp : ∀ le so od : Nat → Int32, xs_ok N D re le od → post (nI N, T, dd, ed, tk, ln, sk, sh, os, de, re, le, so, od)) : ∀ (m i n : Nat) (le : Nat → Int32), i + m = N → m < n → (∀ c, c < i → le c = nI (or_ld D c)) → wX_findStructure_6 post (nI N) T dd ed n (nI i) tk ln sk sh os de re le so od := by
  intro m
  induction m with
  | zero =>
    intro i n le hi hn hv
    obtain ⟨n, rfl⟩ : ∃ k, n = k + 1 := ⟨n - 1, by omega⟩
    have e : i = N := by omega
    subst e
    exact br_t (nI_le (by omega) (by omega)) (xo_order hN hD hv (fun so od h => hp le so od ⟨hD, hv, h⟩))
  | succ m ih =>
    intro i n le hi hn hv
    obtain ⟨n, rfl⟩ : ∃ k, n = k + 1 := ⟨n - 1, by omega⟩
    refine br_f (nI_ge (by omega) (by omega)) (xo_leader hN (by omega) hD ⟨vp_in_nI (by omega) (by decide), nm_e (nm_r (nI_1 i) (ih (i + 1) n _ (by omega) (by omega) (fun c hc => ?_)))⟩)
    rw [nI_clamp (by omega)]
    by_cases e : c = i
    · rw [e, pk_us]
    · rw [pk_un e]; exact hv c (by omega)
theorem xs_struct {N T : Nat} {t l : Nat → Nat} {T' dd ed : Int32} {sk sh os de re le so od : Nat → Int32} {post : St2 → Prop} (hN : N ≤ 12) (hT : T ≤ 15) (hw : ls_all N T t l) (hp : ∀ re le so od : Nat → Int32, xs_ok N (wa_S (de_Ub N t l) N) re le od → post (nI N, T', dd, ed, ls_I t, ls_I l, sk, sh, os, de, re, le, so, od)) : wpX_findStructure post (nI N, T', dd, ed, ls_I t, ls_I l, sk, sh, os, de, re, le, so, od) := by
  unfold wpX_findStructure
  refine xr_reach hN hT hw (fun re' hD => ⟨N + 1, ?_⟩)
  exact xs_lead hN hD (fun le so od h => hp re' le so od h) N 0 (N + 1) le (by omega) (by omega) (fun c hc => absurd hc (Nat.not_lt_zero c))
