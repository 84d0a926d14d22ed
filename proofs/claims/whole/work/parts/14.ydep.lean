/-! Y: findDependence -/
theorem yd_n1 : vp_nar .boolean 1 = 1 := by first | rfl | decide
theorem yd_n0 : vp_nar .boolean 0 = 0 := by first | rfl | decide
def yd_v (dep : Nat → Int32) (d : Nat) : Nat → Nat := fun c => if dep (12 * c + d) = 0 then 0 else 1
theorem yd_v1 {dep : Nat → Int32} {d c : Nat} : 1 ≤ yd_v dep d c ↔ ¬ dep (12 * c + d) = 0 := by
  unfold yd_v
  by_cases h : dep (12 * c + d) = 0
  · rw [if_pos h]; exact ⟨fun z => absurd z (by omega), fun z => absurd h z⟩
  · rw [if_neg h]; exact ⟨fun _ => h, fun _ => Nat.le_refl 1⟩
theorem yd_up_s {dep : Nat → Int32} {d c : Nat} : yd_v (upd dep (12 * c + d) 1) d = ls_up (yd_v dep d) c 1 := by
  funext c'
  show (if upd dep (12 * c + d) 1 (12 * c' + d) = 0 then 0 else 1) = ls_up (yd_v dep d) c 1 c'
  by_cases e : c' = c
  · rw [e, pk_us, ls_us, if_neg (by decide)]
  · rw [pk_un (by omega), ls_un e]; rfl
theorem yd_up_n {dep : Nat → Int32} {d d' c : Nat} (h : d' ≠ d) (hd : d < 12) (hd' : d' < 12) : yd_v (upd dep (12 * c + d) 1) d' = yd_v dep d' := by
  funext c'
  show (if upd dep (12 * c + d) 1 (12 * c' + d') = 0 then 0 else 1) = (if dep (12 * c' + d') = 0 then 0 else 1)
  rw [pk_un (by omega)]
def yd_G (N : Nat) (U : Nat → Nat → Bool) (dep0 dep : Nat → Int32) : Prop := ∀ d, d < N → lf_inv N 1 (de_F N U d) (yd_v dep d) ∧ ∀ c, c < N → yd_v dep0 d c ≤ yd_v dep d c
def yd_T (t : Nat → Nat) (dep0 : Nat → Int32) (c i d : Nat) : Prop := ls_kd t c i = 1 ∧ (ls_ar t c i = d ∨ 1 ≤ yd_v dep0 d (ls_ar t c i))
def yd_Q (N : Nat) (t l : Nat → Nat) (dep0 dep : Nat → Int32) (c i x : Nat) : Prop := ∀ c' i' d, c' < N → i' < l c' → d < N → (c' < c ∨ (c' = c ∧ (i' < i ∨ (i' = i ∧ d < x)))) → yd_T t dep0 c' i' d → 1 ≤ yd_v dep d c'
theorem yd_skip {N : Nat} {t l : Nat → Nat} {dep0 dep : Nat → Int32} {c i d : Nat} (Q : yd_Q N t l dep0 dep c i d) (hT : ¬ yd_T t dep0 c i d) : yd_Q N t l dep0 dep c i (d + 1) := by
  intro c' i' d' h1 h2 h3 h4 h5
  by_cases e : c' = c ∧ i' = i ∧ d' = d
  · obtain ⟨rfl, rfl, rfl⟩ := e
    exact absurd h5 hT
  · exact Q c' i' d' h1 h2 h3 (by omega) h5
theorem yd_set {N T : Nat} {t l : Nat → Nat} {dep0 dep : Nat → Int32} {c i d : Nat} (hN : N ≤ 12) (hw : ls_all N T t l) (hc : c < N) (hi : i < l c) (hd : d < N) (hk : ls_kd t c i = 1) (hz : ls_ar t c i = d ∨ ¬ dep (12 * ls_ar t c i + d) = 0) (G : yd_G N (de_Ub N t l) dep0 dep) (Q : yd_Q N t l dep0 dep c i d) : yd_G N (de_Ub N t l) dep0 (upd dep (12 * c + d) 1) ∧ yd_Q N t l dep0 (upd dep (12 * c + d) 1) c i (d + 1) := by
  have hu : de_Ub N t l c (ls_ar t c i) = true := by rw [de_Ub_at hc, de_u_iff]; exact ⟨i, hi, hk, rfl⟩
  have ha : ls_ar t c i < N := de_Ub_lt hw _ _ hu
  have hP : de_P N (de_Ub N t l) d (yd_v dep d) c := by
    rcases hz with z | z
    · exact Or.inl (by rw [← z]; exact hu)
    · exact Or.inr ⟨_, ha, hu, yd_v1.mpr z⟩
  have hle : ∀ d', d' < N → ∀ c', yd_v dep d' c' ≤ yd_v (upd dep (12 * c + d) 1) d' c' := by
    intro d' hd' c'
    by_cases e : d' = d
    · rw [e, yd_up_s]
      by_cases e2 : c' = c
      · rw [e2, ls_us]
        unfold yd_v
        split <;> omega
      · rw [ls_un e2]; exact Nat.le_refl _
    · rw [yd_up_n e (by omega) (by omega)]; exact Nat.le_refl _
  refine ⟨fun d' hd' => ⟨?_, fun c' hc' => Nat.le_trans ((G d' hd').2 c' hc') (hle d' hd' c')⟩, ?_⟩
  · by_cases e : d' = d
    · subst e
      have s := lf_step (de_ok N (de_Ub N t l) d') (G d' hd').1 hc
      rw [de_F1 hP] at s
      rw [yd_up_s]
      exact s
    · rw [yd_up_n e (by omega) (by omega)]; exact (G d' hd').1
  · intro c' i' d' h1 h2 h3 h4 h5
    by_cases e : c' = c ∧ i' = i ∧ d' = d
    · obtain ⟨rfl, rfl, rfl⟩ := e
      rw [yd_up_s, ls_us]; exact Nat.le_refl 1
    · exact Nat.le_trans (Q c' i' d' h1 h2 h3 (by omega) h5) (hle d' h3 c')
theorem yd_ix {c d : Nat} : nI c * 12 + nI d = nI (12 * c + d) := by
  rw [Nat.mul_comm, show nI c * 12 = nI (c * 12) from pk_mul c 12, nI_add]
theorem yd_89 {N T : Nat} {t l : Nat → Nat} {c i : Nat} {T' ed x1 : Int32} {sh ol nx sk dep0 : Nat → Int32} {post : SY → Prop} {J24 J34 J44 : Int32 → (Nat → Int32) → (Nat → Int32) → (Nat → Int32) → (Nat → Int32) → (Nat → Int32) → (Nat → Int32) → (Nat → Int32) → Prop} (hN : N ≤ 12) (hT : T ≤ 15) (hw : ls_all N T t l) (hc : c < N) (hi : i < l c) (K : ∀ dep : Nat → Int32, yd_G N (de_Ub N t l) dep0 dep → yd_Q N t l dep0 dep c (i + 1) 0 → J44 (nI (i + 1)) (ls_I t) (ls_I l) sh ol dep nx sk) : ∀ (m d n : Nat) (dep : Nat → Int32), d + m = N → m < n → yd_G N (de_Ub N t l) dep0 dep → yd_Q N t l dep0 dep c i d → wY_findDependence_89 post J24 J34 J44 x1 (nI c) (nI i) (nI (ls_kd t c i)) (nI (ls_ar t c i)) (nI N) T' ed n (nI d) (ls_I t) (ls_I l) sh ol dep nx sk := by
  have ⟨h5, ha, h6, hi8, hsh, href⟩ := xe_tok hN hT (hw c hc).1 hi
  intro m
  induction m with
  | zero =>
    intro d n dep hd hn G Q
    obtain ⟨n, rfl⟩ : ∃ k, n = k + 1 := ⟨n - 1, by omega⟩
    refine br_t (nI_le (by omega) (by omega)) (nm_r (nI_1 i) (K dep G ?_))
    intro c' i' d' h1 h2 h3 h4
    exact Q c' i' d' h1 h2 h3 (by omega)
  | succ m ih =>
    intro d n dep hd hn G Q
    obtain ⟨n, rfl⟩ : ∃ k, n = k + 1 := ⟨n - 1, by omega⟩
    have hset : ls_kd t c i = 1 → (ls_ar t c i = d ∨ ¬ dep (12 * ls_ar t c i + d) = 0) → wY_findDependence_127 post J24 J34 J44 (wY_findDependence_89 post J24 J34 J44 x1 (nI c) (nI i) (nI (ls_kd t c i)) (nI (ls_ar t c i)) (nI N) T' ed n) x1 (nI c) (nI i) (nI (ls_kd t c i)) (nI (ls_ar t c i)) (nI d) (nI N) T' ed (ls_I t) (ls_I l) sh ol dep nx sk := by
      intro hk hz
      have ⟨G', Q'⟩ := yd_set hN hw hc hi (by omega) hk hz G Q
      refine ⟨by rw [yd_ix]; exact vp_in_nI (by omega) (by decide), nm_e (nm_r (nI_1 d) ?_)⟩
      rw [yd_ix, nI_clamp (by omega), yd_n1]
      exact ih (d + 1) n _ (by omega) (by omega) G' Q'
    refine br_f (nI_ge (by omega) (by omega)) (pk_eq _ 1 (fun hk => pk_eq _ _ (fun hz => hset hk (Or.inl hz)) (fun hz => ?_)) (fun hk => ?_))
    · have hr := href hk
      refine ⟨by rw [yd_ix]; exact vp_in_nI (by omega) (by decide), ?_⟩
      rw [yd_ix, nI_clamp (by omega)]
      refine br_c (fun z => nm_r (nI_1 d) (ih (d + 1) n dep (by omega) (by omega) G (yd_skip Q ?_))) (fun z => hset hk (Or.inr z))
      rintro ⟨_, y | y⟩
      · exact hz y
      · have := (G d (by omega)).2 _ hr
        exact yd_v1.mp (Nat.le_trans y this) z
    · exact nm_r (nI_1 d) (ih (d + 1) n dep (by omega) (by omega) G (yd_skip Q (fun z => hk z.1)))
theorem yd_44 {N T : Nat} {t l : Nat → Nat} {c : Nat} {T' ed x1 : Int32} {sh ol nx sk dep0 : Nat → Int32} {post : SY → Prop} {J24 J34 : Int32 → (Nat → Int32) → (Nat → Int32) → (Nat → Int32) → (Nat → Int32) → (Nat → Int32) → (Nat → Int32) → (Nat → Int32) → Prop} (hN : N ≤ 12) (hT : T ≤ 15) (hw : ls_all N T t l) (hc : c < N) (K : ∀ dep : Nat → Int32, yd_G N (de_Ub N t l) dep0 dep → yd_Q N t l dep0 dep (c + 1) 0 0 → J34 (nI (c + 1)) (ls_I t) (ls_I l) sh ol dep nx sk) : ∀ (m i n : Nat) (dep : Nat → Int32), i + m = l c → m < n → yd_G N (de_Ub N t l) dep0 dep → yd_Q N t l dep0 dep c i 0 → wY_findDependence_44 post J24 J34 x1 (nI c) (nI N) T' ed n (nI i) (ls_I t) (ls_I l) sh ol dep nx sk := by
  have h8 := (hw c hc).1.1
  have el : ls_I l (nI c).toNatClampNeg = nI (l c) := ls_Iat (by omega)
  have hc13 : vp_in (nI c) 13 := vp_in_nI (by omega) (by decide)
  intro m
  induction m with
  | zero =>
    intro i n dep hi hn G Q
    obtain ⟨n, rfl⟩ : ∃ k, n = k + 1 := ⟨n - 1, by omega⟩
    refine ⟨hc13, br_t (by rw [el]; exact nI_le (by omega) (by omega)) (nm_r (nI_1 c) (K dep G ?_))⟩
    intro c' i' d' h1 h2 h3 h4
    refine Q c' i' d' h1 h2 h3 ?_
    by_cases e : c' = c
    · subst e; omega
    · omega
  | succ m ih =>
    intro i n dep hi hn G Q
    obtain ⟨n, rfl⟩ : ∃ k, n = k + 1 := ⟨n - 1, by omega⟩
    have ⟨h5, ha, h6, hi8, hsh, href⟩ := xe_tok hN hT (hw c hc).1 (i := i) (by omega)
    have ei : nI c * 8 + nI i = nI (8 * c + i) := by rw [Nat.mul_comm, show nI c * 8 = nI (c * 8) from pk_mul c 8, nI_add]
    have hin : vp_in (nI c * 8 + nI i) 104 := by rw [ei]; exact vp_in_nI (by omega) (by decide)
    have e6 : (ls_I t (nI c * 8 + nI i).toNatClampNeg) / 100 = nI (ls_kd t c i) := by rw [ei]; exact xe_div h6 (by omega) hi8
    have e7 : (ls_I t (nI c * 8 + nI i).toNatClampNeg) - (ls_I t (nI c * 8 + nI i).toNatClampNeg) / 100 * 100 = nI (ls_ar t c i) := by rw [ei]; exact xe_rem h6 (by omega) hi8
    refine ⟨hc13, br_f (by rw [el]; exact nI_ge (by omega) (by omega)) ⟨hin, by decide, nm_r e6 ⟨hin, by decide, nm_r e7 ⟨N + 1, ?_⟩⟩⟩⟩
    exact yd_89 hN hT hw hc (by omega) (fun dep' G' Q' => ih (i + 1) n dep' (by omega) (by omega) G' Q') N 0 (N + 1) dep (by omega) (by omega) G Q
theorem yd_34 {N T : Nat} {t l : Nat → Nat} {T' ed x1 : Int32} {sh ol nx sk dep0 : Nat → Int32} {post : SY → Prop} {J24 : Int32 → (Nat → Int32) → (Nat → Int32) → (Nat → Int32) → (Nat → Int32) → (Nat → Int32) → (Nat → Int32) → (Nat → Int32) → Prop} (hN : N ≤ 12) (hT : T ≤ 15) (hw : ls_all N T t l) (K : ∀ dep : Nat → Int32, yd_G N (de_Ub N t l) dep0 dep → yd_Q N t l dep0 dep N 0 0 → J24 (x1 + 1) (ls_I t) (ls_I l) sh ol dep nx sk) : ∀ (m c n : Nat) (dep : Nat → Int32), c + m = N → m < n → yd_G N (de_Ub N t l) dep0 dep → yd_Q N t l dep0 dep c 0 0 → wY_findDependence_34 post J24 x1 (nI N) T' ed n (nI c) (ls_I t) (ls_I l) sh ol dep nx sk := by
  intro m
  induction m with
  | zero =>
    intro c n dep hc hn G Q
    obtain ⟨n, rfl⟩ : ∃ k, n = k + 1 := ⟨n - 1, by omega⟩
    have e : c = N := by omega
    subst e
    exact br_t (nI_le (by omega) (by omega)) (nm_e (K dep G Q))
  | succ m ih =>
    intro c n dep hc hn G Q
    obtain ⟨n, rfl⟩ : ∃ k, n = k + 1 := ⟨n - 1, by omega⟩
    have h8 := (hw c (by omega)).1.1
    exact br_f (nI_ge (by omega) (by omega)) ⟨l c + 1, yd_44 hN hT hw (by omega) (fun dep' G' Q' => ih (c + 1) n dep' (by omega) (by omega) G' Q') (l c) 0 (l c + 1) dep (by omega) (by omega) G Q⟩
theorem yd_24 {N T : Nat} {t l : Nat → Nat} {T' ed : Int32} {sh ol nx sk : Nat → Int32} {post : SY → Prop} (hN : N ≤ 12) (hT : T ≤ 15) (hw : ls_all N T t l) (hp : ∀ dep : Nat → Int32, (∀ d, d < N → lf_least N 1 (de_F N (de_Ub N t l) d) (yd_v dep d)) → post (nI N, T', ed, ls_I t, ls_I l, sh, ol, dep, nx, sk)) : ∀ (m r n : Nat) (dep : Nat → Int32), r + m = N → m < n → (∀ d, d < N → lf_R N 1 (de_F N (de_Ub N t l) d) r (yd_v dep d)) → wY_findDependence_24 post (nI N) T' ed n (nI r) (ls_I t) (ls_I l) sh ol dep nx sk := by
  intro m
  induction m with
  | zero =>
    intro r n dep hr hn hv
    obtain ⟨n, rfl⟩ : ∃ k, n = k + 1 := ⟨n - 1, by omega⟩
    exact br_t (nI_le (by omega) (by omega)) (hp dep (fun d hd => lf_done (de_ok N _ d) (hv d hd) (by omega)))
  | succ m ih =>
    intro r n dep hr hn hv
    obtain ⟨n, rfl⟩ : ∃ k, n = k + 1 := ⟨n - 1, by omega⟩
    refine br_f (nI_ge (by omega) (by omega)) ⟨N + 1, yd_34 (dep0 := dep) hN hT hw (fun dep' G' Q' => ?_) N 0 (N + 1) dep (by omega) (by omega) (fun d hd => ⟨(hv d hd).1, fun _ _ => Nat.le_refl _⟩) (fun c' i' d h1 h2 h3 h4 => by omega)⟩
    rw [nI_1]
    refine ih (r + 1) n dep' (by omega) (by omega) (fun d hd => lf_round (de_ok N _ d) (hv d hd) (G' d hd).1 (fun c hc => ?_))
    by_cases hP : de_P N (de_Ub N t l) d (yd_v dep d) c
    · rw [de_F1 hP]
      have hU : ∀ e, de_Ub N t l c e = true → ∃ i, i < l c ∧ ls_kd t c i = 1 ∧ ls_ar t c i = e := fun e he => by rw [de_Ub_at hc, de_u_iff] at he; exact he
      rcases hP with h | ⟨e, he, hu, hx⟩
      · obtain ⟨i, hi, h1, h2⟩ := hU d h
        exact Q' c i d hc hi hd (Or.inl hc) ⟨h1, Or.inl h2⟩
      · obtain ⟨i, hi, h1, h2⟩ := hU e hu
        exact Q' c i d hc hi hd (Or.inl hc) ⟨h1, Or.inr (by rw [h2]; exact hx)⟩
    · rw [de_F0 hP]; exact Nat.zero_le _
theorem yd_clear {N T ed : Int32} {tk ln sh ol nx sk : Nat → Int32} {post : SY → Prop} (K : ∀ dep : Nat → Int32, (∀ j, j < 144 → dep j = 0) → ∃ n, wY_findDependence_24 post N T ed n 0 tk ln sh ol dep nx sk) : ∀ (m i n : Nat) (dep : Nat → Int32), i + m = 144 → m < n → (∀ j, j < i → dep j = 0) → wY_findDependence_2 post N T ed n (nI i) tk ln sh ol dep nx sk := by
  intro m
  induction m with
  | zero =>
    intro i n dep hi hn hv
    obtain ⟨n, rfl⟩ : ∃ k, n = k + 1 := ⟨n - 1, by omega⟩
    exact br_t (nI_le (a := 144) (by omega) (by omega)) (K dep (fun j hj => hv j (by omega)))
  | succ m ih =>
    intro i n dep hi hn hv
    obtain ⟨n, rfl⟩ : ∃ k, n = k + 1 := ⟨n - 1, by omega⟩
    refine br_f (nI_ge (b := 144) (by omega) (by decide)) ⟨vp_in_nI (by omega) (by decide), nm_e (nm_r (nI_1 i) (ih (i + 1) n _ (by omega) (by omega) (fun j hj => ?_)))⟩
    rw [nI_clamp (by omega), yd_n0]
    by_cases z : j = i
    · rw [z, pk_us]
    · rw [pk_un z]; exact hv j (by omega)
/-- what the reference keeps of a dependence D -/
def yd_ok (N : Nat) (D : Nat → Nat → Bool) (dep : Nat → Int32) : Prop := ∀ c d, c < N → d < N → (dep (12 * c + d) = 0 ↔ D c d = false)
theorem yd_dep {N T : Nat} {t l : Nat → Nat} {T' ed : Int32} {sh ol dep nx sk : Nat → Int32} {post : SY → Prop} (hN : N ≤ 12) (hT : T ≤ 15) (hw : ls_all N T t l) (hp : ∀ dep : Nat → Int32, yd_ok N (wa_S (de_Ub N t l) N) dep → post (nI N, T', ed, ls_I t, ls_I l, sh, ol, dep, nx, sk)) : wpY_findDependence post (nI N, T', ed, ls_I t, ls_I l, sh, ol, dep, nx, sk) := by
  refine ⟨145, yd_clear (fun dep' h0 => ⟨N + 1, ?_⟩) 144 0 145 dep (by omega) (by omega) (fun j hj => absurd hj (Nat.not_lt_zero j))⟩
  refine yd_24 hN hT hw (fun dep2 hl => hp dep2 (fun c d hc hd => ?_)) N 0 (N + 1) dep' (by omega) (by omega) (fun d hd => lf_R0 (lf_inv0 (fun c hc => ?_)))
  · have e := lf_uniq (hl d hd) (de_war (de_Ub_lt hw) d) c hc
    unfold yd_v at e
    have e' : (if dep2 (12 * c + d) = 0 then 0 else 1) = (if wa_S (de_Ub N t l) N c d = true then 1 else 0) := e
    by_cases z : dep2 (12 * c + d) = 0
    · rw [if_pos z] at e'
      cases y : wa_S (de_Ub N t l) N c d
      · exact ⟨fun _ => rfl, fun _ => z⟩
      · rw [y, if_pos rfl] at e'; omega
    · rw [if_neg z] at e'
      cases y : wa_S (de_Ub N t l) N c d
      · rw [y, if_neg (by decide)] at e'; omega
      · exact ⟨fun q => absurd q z, fun q => absurd q (by decide)⟩
  · show (if dep' (12 * c + d) = 0 then 0 else 1) = 0
    rw [if_pos (h0 _ (by omega))]
