/-! Y: leader, rank, before, orderAt, draftDepth, finishEdit -/
theorem ye_cell {N c : Nat} {post : Int32 → Prop} {T ed : Int32} {tk ln sh ol dep nx sk : Nat → Int32} (hN : N ≤ 12) (hc : c < N) (h : post 1) : wpY_isCell post (nI N, T, ed, tk, ln, sh, ol, dep, nx, sk) (nI c) :=
  br_f (nI_pos (by omega)) (br_f (nI_ge hc (by omega)) h)
theorem ye_ncell {N : Nat} {x : Int32} {post : Int32 → Prop} {T ed : Int32} {tk ln sh ol dep nx sk : Nat → Int32} (hx : x < 0 ∨ nI N ≤ x) (h : post 0) : wpY_isCell post (nI N, T, ed, tk, ln, sh, ol, dep, nx, sk) x := by
  by_cases z : x < 0
  · exact br_t z h
  · exact br_f z (br_t (hx.resolve_left z) h)
theorem yo_lead {N c : Nat} {D : Nat → Nat → Bool} {T ed : Int32} {tk ln sh ol dep nx sk : Nat → Int32} {post : Int32 → Prop} (hN : N ≤ 12) (hc : c < N) (hD : yd_ok N D dep) : ∀ (m d n : Nat), d + m = c → m < n → post (nI (or_ldf D c m d)) → wY_leader_13 post (nI c) (nI N) T ed tk ln sh ol dep nx sk n (nI d) := by
  intro m
  induction m with
  | zero =>
    intro d n hd hn hp
    obtain ⟨n, rfl⟩ : ∃ k, n = k + 1 := ⟨n - 1, by omega⟩
    have e : d = c := by omega
    subst e
    exact br_t (nI_le (by omega) (by omega)) hp
  | succ m ih =>
    intro d n hd hn hp
    obtain ⟨n, rfl⟩ : ∃ k, n = k + 1 := ⟨n - 1, by omega⟩
    have hp' : post (nI (if (D c d && D d c) = true then d else or_ldf D c m (d + 1))) := hp
    have d1 := hD c d hc (by omega)
    have d2 := hD d c (by omega) hc
    refine br_f (nI_ge (by omega) (by omega)) ⟨by rw [yd_ix]; exact vp_in_nI (by omega) (by decide), ?_⟩
    rw [yd_ix, nI_clamp (by omega), yd_ix, nI_clamp (by omega)]
    refine br_c (fun z => ?_) (fun z => ⟨vp_in_nI (by omega) (by decide), br_c (fun y => ?_) (fun y => ?_)⟩)
    · rw [d1.mp z] at hp'
      exact nm_r (nI_1 d) (ih (d + 1) n (by omega) (by omega) hp')
    · rw [d2.mp y, Bool.and_false] at hp'
      exact nm_r (nI_1 d) (ih (d + 1) n (by omega) (by omega) hp')
    · have c1 : D c d = true := by
        cases q : D c d
        · exact absurd (d1.mpr q) z
        · rfl
      have c2 : D d c = true := by
        cases q : D d c
        · exact absurd (d2.mpr q) y
        · rfl
      rw [c1, c2] at hp'
      exact hp'
theorem yo_leader {N c : Nat} {D : Nat → Nat → Bool} {T ed : Int32} {tk ln sh ol dep nx sk : Nat → Int32} {post : Int32 → Prop} (hN : N ≤ 12) (hc : c < N) (hD : yd_ok N D dep) (hp : post (nI (or_ld D c))) : wpY_leader post (nI N, T, ed, tk, ln, sh, ol, dep, nx, sk) (nI c) := by
  unfold wpY_leader
  refine ye_cell hN hc (br_f (by decide) ⟨c + 1, ?_⟩)
  exact yo_lead hN hc hD c 0 (c + 1) (by omega) (by omega) hp
theorem yo_rk {N c : Nat} {D : Nat → Nat → Bool} {T ed : Int32} {tk ln sh ol dep nx sk : Nat → Int32} {post : Int32 → Prop} (hN : N ≤ 12) (hc : c < N) (hD : yd_ok N D dep) (hp : post (nI (or_rk N D c))) : ∀ (m d n : Nat), d + m = N → m < n → wY_rank_4 post (nI c) (nI N) T ed tk ln sh ol dep nx sk n (nI (or_cnt (or_rp D c) d)) (nI d) := by
  intro m
  induction m with
  | zero =>
    intro d n hd hn
    obtain ⟨n, rfl⟩ : ∃ k, n = k + 1 := ⟨n - 1, by omega⟩
    have e : d = N := by omega
    subst e
    exact br_t (nI_le (by omega) (by omega)) hp
  | succ m ih =>
    intro d n hd hn
    obtain ⟨n, rfl⟩ : ∃ k, n = k + 1 := ⟨n - 1, by omega⟩
    have ihd := ih (d + 1) n (by omega) (by omega)
    have d1 := hD c d hc (by omega)
    have d2 := hD d c (by omega) hc
    refine br_f (nI_ge (by omega) (by omega)) (pk_eq d c (fun e => ?_) (fun e => ⟨by rw [yd_ix]; exact vp_in_nI (by omega) (by decide), ?_⟩))
    · subst e
      rw [or_cntF (by show (D d d && !D d d) = false; cases D d d <;> rfl)] at ihd
      exact nm_r (nI_1 d) ihd
    · rw [yd_ix, nI_clamp (by omega), yd_ix, nI_clamp (by omega)]
      refine br_c (fun z => ?_) (fun z => ⟨vp_in_nI (by omega) (by decide), br_c (fun y => ?_) (fun y => ?_)⟩)
      · rw [or_cntF (by show (D c d && !D d c) = false; rw [d1.mp z]; rfl)] at ihd
        exact nm_r (nI_1 d) ihd
      · have c1 : D c d = true := by
          cases q : D c d
          · exact absurd (d1.mpr q) z
          · rfl
        rw [or_cnt1 (by show (D c d && !D d c) = true; rw [c1, d2.mp y]; rfl)] at ihd
        exact nm_r (nI_1 _) (nm_r (nI_1 d) ihd)
      · have c2 : D d c = true := by
          cases q : D d c
          · exact absurd (d2.mpr q) y
          · rfl
        rw [or_cntF (by show (D c d && !D d c) = false; rw [c2, Bool.not_true, Bool.and_false])] at ihd
        exact nm_r (nI_1 d) ihd
theorem yo_rank {N c : Nat} {D : Nat → Nat → Bool} {T ed : Int32} {tk ln sh ol dep nx sk : Nat → Int32} {post : Int32 → Prop} (hN : N ≤ 12) (hc : c < N) (hD : yd_ok N D dep) (hp : post (nI (or_rk N D c))) : wpY_rank post (nI N, T, ed, tk, ln, sh, ol, dep, nx, sk) (nI c) :=
  ⟨N + 1, yo_rk hN hc hD hp N 0 (N + 1) (by omega) (by omega)⟩
theorem yo_before {N a b : Nat} {D : Nat → Nat → Bool} {T ed : Int32} {tk ln sh ol dep nx sk : Nat → Int32} {post : Int32 → Prop} (hN : N ≤ 12) (ha : a < N) (hb : b < N) (hD : yd_ok N D dep) (h1 : or_key N D a < or_key N D b → post 1) (h0 : ¬ or_key N D a < or_key N D b → post 0) : wpY_before post (nI N, T, ed, tk, ln, sh, ol, dep, nx, sk) (nI a) (nI b) := by
  have ra : or_rk N D a ≤ N := or_cnt_le _ N
  have rb : or_rk N D b ≤ N := or_cnt_le _ N
  have la := or_ld_le D a
  have lb := or_ld_le D b
  unfold or_key at h1 h0
  unfold wpY_before
  refine yo_rank hN ha hD (yo_rank hN hb hD (pk_eq (or_rk N D a) (or_rk N D b) (fun e => ?_) (fun e => pk_le (or_rk N D b) (or_rk N D a) (fun z => h0 (by omega)) (fun z => h1 (by omega)))))
  refine yo_leader hN ha hD (yo_leader hN hb hD (pk_eq (or_ld D a) (or_ld D b) (fun e2 => pk_le b a (fun z => h0 (by omega)) (fun z => h1 (by omega))) (fun e2 => pk_le (or_ld D b) (or_ld D a) (fun z => h0 (by omega)) (fun z => h1 (by omega)))))
theorem yo_15 {N c : Nat} {D : Nat → Nat → Bool} {T ed x1 : Int32} {tk ln sh ol dep nx sk : Nat → Int32} {post : Int32 → Prop} {J : Int32 → Prop} (hN : N ≤ 12) (hc : c < N) (hD : yd_ok N D dep) (h1 : nI (or_pl N D c) = x1 → post (nI c)) (h0 : ¬ nI (or_pl N D c) = x1 → J (nI (c + 1))) : ∀ (m d n : Nat), d + m = N → m < n → wY_orderAt_15 post J x1 (nI c) (nI N) T ed tk ln sh ol dep nx sk n (nI (or_cnt (or_pp N D c) d)) (nI d) := by
  intro m
  induction m with
  | zero =>
    intro d n hd hn
    obtain ⟨n, rfl⟩ : ∃ k, n = k + 1 := ⟨n - 1, by omega⟩
    have e : d = N := by omega
    subst e
    exact br_t (nI_le (by omega) (by omega)) (br_c h1 (fun z => nm_r (nI_1 c) (h0 z)))
  | succ m ih =>
    intro d n hd hn
    obtain ⟨n, rfl⟩ : ∃ k, n = k + 1 := ⟨n - 1, by omega⟩
    have ihd := ih (d + 1) n (by omega) (by omega)
    refine br_f (nI_ge (by omega) (by omega)) (yo_before hN (by omega) hc hD (fun z => ?_) (fun z => ?_))
    · rw [or_cnt1 (decide_eq_true z)] at ihd
      exact br_f (by decide) (nm_r (nI_1 _) (nm_r (nI_1 d) ihd))
    · rw [or_cntF (decide_eq_false z)] at ihd
      exact br_t rfl (nm_r (nI_1 d) ihd)
theorem yo_2 {N : Nat} {D : Nat → Nat → Bool} {T ed x1 : Int32} {tk ln sh ol dep nx sk : Nat → Int32} {post : Int32 → Prop} (hN : N ≤ 12) (hD : yd_ok N D dep) (h1 : ∀ c, c < N → nI (or_pl N D c) = x1 → post (nI c)) (h0 : (∀ c, c < N → ¬ nI (or_pl N D c) = x1) → post (-99)) : ∀ (m c n : Nat), c + m = N → m < n → (∀ d, d < c → ¬ nI (or_pl N D d) = x1) → wY_orderAt_2 post x1 (nI N) T ed tk ln sh ol dep nx sk n (nI c) := by
  intro m
  induction m with
  | zero =>
    intro c n hc hn hv
    obtain ⟨n, rfl⟩ : ∃ k, n = k + 1 := ⟨n - 1, by omega⟩
    exact br_t (nI_le (by omega) (by omega)) (h0 (fun d hd => hv d (by omega)))
  | succ m ih =>
    intro c n hc hn hv
    obtain ⟨n, rfl⟩ : ∃ k, n = k + 1 := ⟨n - 1, by omega⟩
    refine br_f (nI_ge (by omega) (by omega)) ⟨N + 1, yo_15 hN (by omega) hD (h1 c (by omega)) (fun z => ih (c + 1) n (by omega) (by omega) (fun d hd => ?_)) N 0 (N + 1) (by omega) (by omega)⟩
    by_cases e : d = c
    · rw [e]; exact z
    · exact hv d (by omega)
theorem yo_order {N : Nat} {D : Nat → Nat → Bool} {T ed x1 : Int32} {tk ln sh ol dep nx sk : Nat → Int32} {post : Int32 → Prop} (hN : N ≤ 12) (hD : yd_ok N D dep) (h1 : ∀ c, c < N → nI (or_pl N D c) = x1 → post (nI c)) (h0 : (∀ c, c < N → ¬ nI (or_pl N D c) = x1) → post (-99)) : wpY_orderAt post (nI N, T, ed, tk, ln, sh, ol, dep, nx, sk) x1 :=
  ⟨N + 1, yo_2 hN hD h1 h0 N 0 (N + 1) (by omega) (by omega) (fun d hd => absurd hd (Nat.not_lt_zero d))⟩
theorem yp_dloop {N T : Nat} {t l : Nat → Nat} {T' ed N' : Int32} {sh ol dep nx sk : Nat → Int32} {post : Int32 → Prop} (hN : N ≤ 12) (hT : T ≤ 15) (hw : ls_dr N T (l 12) (ls_kd t 12) (ls_ar t 12)) (hp : post (nI (ls_dp (ls_kd t 12) (l 12)))) : ∀ (m i n : Nat), i + m = l 12 → m < n → wY_draftDepth_4 post N' T' ed (ls_I t) (ls_I l) sh ol dep nx sk n (nI (ls_dp (ls_kd t 12) i)) (nI i) := by
  have h8 := hw.1
  have el : ls_I l 12 = nI (l 12) := rfl
  intro m
  induction m with
  | zero =>
    intro i n hi hn
    obtain ⟨n, rfl⟩ : ∃ k, n = k + 1 := ⟨n - 1, by omega⟩
    have e : i = l 12 := by omega
    refine br_t (by rw [el]; exact nI_le (by omega) (by omega)) ?_
    rw [e]
    exact hp
  | succ m ih =>
    intro i n hi hn
    obtain ⟨n, rfl⟩ : ∃ k, n = k + 1 := ⟨n - 1, by omega⟩
    have ⟨h5, ha, h6, hi8, hsh, href⟩ := xe_tok hN hT hw (i := i) (by omega)
    have ihd := ih (i + 1) n (by omega) (by omega)
    have ei : 96 + nI i = nI (8 * 12 + i) := nI_add 96 i
    refine br_f (by rw [el]; exact nI_ge (by omega) (by omega)) ?_
    rw [ei]
    refine ⟨vp_in_nI (by omega) (by decide), by decide, nm_r (xe_div h6 (by omega) hi8) (pk_eq _ 0 (fun k0 => ?_) (fun k0 => pk_eq _ 1 (fun k1 => ?_) (fun k1 => ?_)))⟩
    · rw [ls_dp_a (by omega)] at ihd
      exact nm_r (nI_1 _) (nm_r (nI_1 i) ihd)
    · rw [ls_dp_a (by omega)] at ihd
      exact nm_r (nI_1 _) (nm_r (nI_1 i) ihd)
    · have h2 := hsh (by omega)
      rw [ls_dp_b (by omega)] at ihd
      refine nm_r (e' := nI (ls_dp (ls_kd t 12) i - 1)) ?_ (nm_r (nI_1 i) ihd)
      rw [show ls_dp (ls_kd t 12) i = (ls_dp (ls_kd t 12) i - 1) + 1 by omega]
      exact pk_m1 _
theorem yp_depth {N T : Nat} {t l : Nat → Nat} {T' ed N' : Int32} {sh ol dep nx sk : Nat → Int32} {post : Int32 → Prop} (hN : N ≤ 12) (hT : T ≤ 15) (hw : ls_dr N T (l 12) (ls_kd t 12) (ls_ar t 12)) (hp : post (nI (ls_dp (ls_kd t 12) (l 12)))) : wpY_draftDepth post (N', T', ed, ls_I t, ls_I l, sh, ol, dep, nx, sk) :=
  ⟨l 12 + 1, yp_dloop hN hT hw hp (l 12) 0 (l 12 + 1) (by omega) (by omega)⟩
theorem yt_old {N T : Nat} {t l : Nat → Nat} {e ed : Int32} {sh dep nx sk : Nat → Int32} {post : SY → Prop} (hN : N ≤ 12) (hT : T ≤ 15) (hw : ls_all N T t l) (hp : ∀ (sh' ol dep nx sk : Nat → Int32) (w : Nat → Nat), (∀ d, d < N → sh' d = nI (w d)) → lf_least N T (ls_F T t l) w → (∀ d, d < N → ol d = sh d) → yd_ok N (wa_S (de_Ub N t l) N) dep → post (nI N, nI T, e, ls_I t, ls_I l, sh', ol, dep, nx, sk)) : ∀ (m i n : Nat) (ol : Nat → Int32), i + m = N → m < n → (∀ d, d < i → ol d = sh d) → wY_finishEdit_2 post e (nI N) (nI T) ed n (nI i) (ls_I t) (ls_I l) sh ol dep nx sk := by
  intro m
  induction m with
  | zero =>
    intro i n ol hi hn hv
    obtain ⟨n, rfl⟩ : ∃ k, n = k + 1 := ⟨n - 1, by omega⟩
    have z : i = N := by omega
    subst z
    exact br_t (nI_le (by omega) (by omega)) (ys_solve hN hT hw (fun sh' nx' sk' w h1 h2 => yd_dep hN hT hw (fun dep' h3 => hp sh' ol dep' nx' sk' w h1 h2 hv h3)))
  | succ m ih =>
    intro i n ol hi hn hv
    obtain ⟨n, rfl⟩ : ∃ k, n = k + 1 := ⟨n - 1, by omega⟩
    have hin : vp_in (nI i) 12 := vp_in_nI (by omega) (by decide)
    refine br_f (nI_ge (by omega) (by omega)) ⟨hin, hin, nm_e (nm_r (nI_1 i) (ih (i + 1) n _ (by omega) (by omega) (fun d hd => ?_)))⟩
    rw [nI_clamp (by omega)]
    by_cases z : d = i
    · rw [z, pk_us]
    · rw [pk_un z]; exact hv d (by omega)
theorem yt_finish {N T : Nat} {t l : Nat → Nat} {e ed : Int32} {sh ol dep nx sk : Nat → Int32} {post : SY → Prop} (hN : N ≤ 12) (hT : T ≤ 15) (hw : ls_all N T t l) (hp : ∀ (sh' ol dep nx sk : Nat → Int32) (w : Nat → Nat), (∀ d, d < N → sh' d = nI (w d)) → lf_least N T (ls_F T t l) w → (∀ d, d < N → ol d = sh d) → yd_ok N (wa_S (de_Ub N t l) N) dep → post (nI N, nI T, e, ls_I t, ls_I l, sh', ol, dep, nx, sk)) : wpY_finishEdit post (nI N, nI T, ed, ls_I t, ls_I l, sh, ol, dep, nx, sk) e :=
  ⟨N + 1, yt_old hN hT hw hp N 0 (N + 1) ol (by omega) (by omega) (fun d hd => absurd hd (Nat.not_lt_zero d))⟩
