/-! push, dropDraft -/
theorem ls_dr_congr {N T n : Nat} {kd kd' ar ar' : Nat → Nat} (hk : ∀ i, i < n → kd i = kd' i) (ha : ∀ i, i < n → ar i = ar' i) (h : ls_dr N T n kd ar) : ls_dr N T n kd' ar' := by
  refine ⟨h.1, fun i hi => ?_⟩
  have := h.2 i hi
  rw [← hk i hi, ← ha i hi, ← ls_dp_congr i (fun j hj => hk j (by omega))]
  exact this
theorem ls_wf_congr {N T n : Nat} {kd kd' ar ar' : Nat → Nat} (hk : ∀ i, i < n → kd i = kd' i) (ha : ∀ i, i < n → ar i = ar' i) (h : ls_wf N T n kd ar) : ls_wf N T n kd' ar' := ⟨ls_dr_congr hk ha h.1, by rw [← ls_dp_congr n hk]; exact h.2⟩
/-- a row that holds the same tokens -/
theorem ls_row {t t' : Nat → Nat} {c c' n : Nat} (h : ∀ i, i < n → t (8 * c + i) = t' (8 * c' + i)) : (∀ i, i < n → ls_kd t c i = ls_kd t' c' i) ∧ ∀ i, i < n → ls_ar t c i = ls_ar t' c' i := by
  refine ⟨fun i hi => ?_, fun i hi => ?_⟩
  · unfold ls_kd; rw [h i hi]
  · unfold ls_ar; rw [h i hi]
theorem ls_all_low {N T : Nat} {t t' l l' : Nat → Nat} (hN : N ≤ 12) (ht : ∀ j, j < 96 → t j = t' j) (hl : ∀ c, c < N → l c = l' c) (h : ls_all N T t l) : ls_all N T t' l' := by
  intro c hc
  have h8 := (h c hc).1.1
  rw [← hl c hc]
  have r := ls_row (t := t) (t' := t') (c := c) (c' := c) (n := l c) (fun i hi => ht _ (by omega))
  exact ls_wf_congr r.1 r.2 (h c hc)
theorem rl_push {N T k a : Nat} {t l : Nat → Nat} (hd : ls_dr N T (l 12) (ls_kd t 12) (ls_ar t 12)) (h8 : l 12 < 8) (htok : ls_tok N T k a) (ha : a < 100) (hs : 2 ≤ k → 2 ≤ ls_dp (ls_kd t 12) (l 12)) : ls_dr N T (ls_up l 12 (l 12 + 1) 12) (ls_kd (ls_up t (96 + l 12) (100 * k + a)) 12) (ls_ar (ls_up t (96 + l 12) (100 * k + a)) 12) ∧ ls_dp (ls_kd (ls_up t (96 + l 12) (100 * k + a)) 12) (ls_up l 12 (l 12 + 1) 12) = (if k < 2 then ls_dp (ls_kd t 12) (l 12) + 1 else ls_dp (ls_kd t 12) (l 12) - 1) := by
  rw [ls_us]
  have r := ls_row (t := t) (t' := ls_up t (96 + l 12) (100 * k + a)) (c := 12) (c' := 12) (n := l 12) (fun i hi => (ls_un (by omega)).symm)
  have ek : ls_kd (ls_up t (96 + l 12) (100 * k + a)) 12 (l 12) = k := by
    show ls_up t (96 + l 12) (100 * k + a) (96 + l 12) / 100 = k
    rw [ls_us]; omega
  have ea : ls_ar (ls_up t (96 + l 12) (100 * k + a)) 12 (l 12) = a := by
    show ls_up t (96 + l 12) (100 * k + a) (96 + l 12) % 100 = a
    rw [ls_us]; omega
  have ed := ls_dp_congr (l 12) r.1
  have d2 := ls_dr_congr r.1 r.2 hd
  refine ⟨⟨by omega, fun i hi => ?_⟩, ?_⟩
  · by_cases e : i = l 12
    · rw [e, ek, ea, ← ed]; exact ⟨htok, hs⟩
    · exact d2.2 i (by omega)
  · by_cases h2 : k < 2
    · rw [if_pos h2, ls_dp_a (by rw [ek]; exact h2), ed]
    · rw [if_neg h2, ls_dp_b (by rw [ek]; exact h2), ed]
theorem xp_91 {N T k a : Nat} {x4 dd' : Int32} {t l : Nat → Nat} {post : Int32 → St2 → Prop} {dd ed : Int32} {sk sh os de re le so od : Nat → Int32} (h8 : l 12 < 8) (h4 : (x4 = 0 → dd' = dd + (-1)) ∧ (¬ x4 = 0 → dd' = dd + 1)) (h : post 0 (nI N, nI T, dd', ed, ls_I (ls_up t (96 + l 12) (100 * k + a)), ls_I (ls_up l 12 (l 12 + 1)), sk, sh, os, de, re, le, so, od)) : wX_push_91 post (nI k) (nI (l 12)) x4 (nI a) (nI N) (nI T) dd ed (ls_I t) (ls_I l) sk sh os de re le so od := by
  have e1 : 96 + nI (l 12) = nI (96 + l 12) := nI_add 96 (l 12)
  have e2 : 100 * nI k + nI a = nI (100 * k + a) := by rw [show 100 * nI k = nI (100 * k) from pk_mul 100 k, nI_add]
  unfold wX_push_91
  rw [e1, e2, nI_clamp (by omega), ls_Iup, nI_1, ls_Iup]
  refine ⟨vp_in_nI (by omega) (by decide), nm_e (nm_e (br_c (fun z => nm_r (h4.1 z).symm h) (fun z => nm_r (h4.2 z).symm h)))⟩
theorem xp_59 {k : Nat} {x2 x3 x4 : Int32} {post : Int32 → St2 → Prop} {N T dd ed : Int32} {tk ln sk sh os de re le so od : Nat → Int32} (hk : k ≤ 5) (h : wX_push_91 post (nI k) x3 x4 (if 2 ≤ k ∧ k ≤ 4 then 0 else x2) N T dd ed tk ln sk sh os de re le so od) : wX_push_59 post (nI k) x2 x3 x4 N T dd ed tk ln sk sh os de re le so od := by
  unfold wX_push_59 wX_push_74 wX_push_79
  by_cases p : 2 ≤ k ∧ k ≤ 4
  · rw [if_pos p] at h
    have h' := br_f (c := (1 : Int32) = 0) (A := wX_push_91 post (nI k) x3 x4 x2 N T dd ed tk ln sk sh os de re le so od) (by decide) h
    exact pk_eq k 2 (fun _ => h') (fun _ => pk_eq k 3 (fun _ => h') (fun _ => pk_eq k 4 (fun _ => h') (fun _ => by omega)))
  · rw [if_neg p] at h
    exact pk_eq k 2 (fun _ => by omega) (fun _ => pk_eq k 3 (fun _ => by omega) (fun _ => pk_eq k 4 (fun _ => by omega) (fun _ => br_t rfl h)))
def rl_arg (N T k : Nat) (v : Int32) : Prop := (k = 0 → ¬ v < 0 ∧ ¬ nI T < v) ∧ (k = 1 → ¬ v < 0 ∧ ¬ nI N ≤ v) ∧ (k = 5 → ¬ v < 1 ∧ ¬ nI T < v)
theorem rl_arg_tok {N T k : Nat} {v : Int32} (hN : N ≤ 12) (hT : T ≤ 15) (hk : k ≤ 5) (h : rl_arg N T k v) : ∃ a : Nat, a < 100 ∧ ls_tok N T k a ∧ (if 2 ≤ k ∧ k ≤ 4 then 0 else v) = nI a := by
  have h1 : ¬ v < 1 → ¬ v < 0 := fun z y => z (Int32.lt_trans y (by decide))
  by_cases p : 2 ≤ k ∧ k ≤ 4
  · exact ⟨0, by omega, ⟨hk, fun _ => by omega, fun _ => by omega, fun _ _ => rfl, fun _ => by omega⟩, by rw [if_pos p]; rfl⟩
  · rw [if_neg p]
    by_cases k0 : k = 0
    · have ⟨a1, a2⟩ := h.1 k0
      obtain ⟨a, ha, rfl⟩ := nI_of a1
      rw [nI_ltI (by omega) ha] at a2
      exact ⟨a, by omega, ⟨hk, fun _ => by omega, fun _ => by omega, fun _ => by omega, fun _ => by omega⟩, rfl⟩
    · by_cases k1 : k = 1
      · have ⟨a1, a2⟩ := h.2.1 k1
        obtain ⟨a, ha, rfl⟩ := nI_of a1
        rw [nI_leI (by omega) ha] at a2
        exact ⟨a, by omega, ⟨hk, fun _ => by omega, fun _ => by omega, fun _ => by omega, fun _ => by omega⟩, rfl⟩
      · have ⟨a1, a2⟩ := h.2.2 (by omega)
        obtain ⟨a, ha, rfl⟩ := nI_of (h1 a1)
        rw [nI_ltI (by omega) ha] at a2
        have a3 : ¬ a < 1 := fun z => a1 (nI_lt (b := 1) z (by decide))
        exact ⟨a, by omega, ⟨hk, fun _ => by omega, fun _ => by omega, fun _ => by omega, fun _ => by omega⟩, rfl⟩
theorem xp_arg {N T k : Nat} {v : Int32} {post : Int32 → Prop} {dd ed : Int32} {tk ln sk sh os de re le so od : Nat → Int32} (hk : k ≤ 5) (h1 : rl_arg N T k v → post 1) (h0 : ¬ rl_arg N T k v → post 0) : wpX_isArgument post (nI N, nI T, dd, ed, tk, ln, sk, sh, os, de, re, le, so, od) (nI k) v := by
  unfold wpX_isArgument
  refine pk_eq k 0 (fun k0 => ?_) (fun k0 => pk_eq k 1 (fun k1 => ?_) (fun k1 => pk_eq k 5 (fun k5 => ?_) (fun k5 => h1 ⟨fun z => absurd z k0, fun z => absurd z k1, fun z => absurd z k5⟩)))
  · exact br_c (fun z => h0 (fun y => (y.1 k0).1 z)) (fun z => br_c (fun x => h0 (fun y => (y.1 k0).2 x)) (fun x => h1 ⟨fun _ => ⟨z, x⟩, fun _ => by omega, fun _ => by omega⟩))
  · exact br_c (fun z => ⟨rfl, h0 (fun y => (y.2.1 k1).1 z)⟩) (fun z => br_c (fun x => ⟨rfl, h0 (fun y => (y.2.1 k1).2 x)⟩) (fun x => ⟨rfl, h1 ⟨fun _ => by omega, fun _ => ⟨z, x⟩, fun _ => by omega⟩⟩))
  · exact br_c (fun z => h0 (fun y => (y.2.2 k5).1 z)) (fun z => br_c (fun x => h0 (fun y => (y.2.2 k5).2 x)) (fun x => h1 ⟨fun _ => by omega, fun _ => by omega, fun _ => ⟨z, x⟩⟩))
theorem rl_le {x y : Int32} : x ≤ y ↔ ¬ y < x := Int32.not_lt.symm
theorem ls_dr0 {N T : Nat} (kd ar : Nat → Nat) : ls_dr N T 0 kd ar := ⟨by omega, fun i hi => absurd hi (Nat.not_lt_zero i)⟩
theorem rl_set {N T c x : Nat} {t l : Nat → Nat} (hN : N ≤ 12) (hT : T ≤ 15) (hc : c < N) (hx : x ≤ T) (ha : ls_all N T t l) (hd : ls_dr N T (l 12) (ls_kd t 12) (ls_ar t 12)) : ls_all N T (ls_up t (8 * c) x) (ls_up l c 1) ∧ ls_dr N T (ls_up l c 1 12) (ls_kd (ls_up t (8 * c) x) 12) (ls_ar (ls_up t (8 * c) x) 12) ∧ ls_dp (ls_kd (ls_up t (8 * c) x) 12) (ls_up l c 1 12) = ls_dp (ls_kd t 12) (l 12) := by
  have h8 := hd.1
  have r := ls_row (t := t) (t' := ls_up t (8 * c) x) (c := 12) (c' := 12) (n := l 12) (fun i hi => (ls_un (by omega)).symm)
  have e12 : ls_up l c 1 12 = l 12 := ls_un (by omega)
  refine ⟨fun c' hc' => ?_, ?_, ?_⟩
  · by_cases e : c' = c
    · subst e
      have ek : ls_kd (ls_up t (8 * c') x) c' 0 = 0 := by
        show ls_up t (8 * c') x (8 * c' + 0) / 100 = 0
        rw [Nat.add_zero, ls_us]; omega
      have ea : ls_ar (ls_up t (8 * c') x) c' 0 = x := by
        show ls_up t (8 * c') x (8 * c' + 0) % 100 = x
        rw [Nat.add_zero, ls_us]; omega
      rw [ls_us]
      refine ⟨⟨by omega, fun i hi => ?_⟩, ?_⟩
      · have e0 : i = 0 := by omega
        subst e0
        rw [ek, ea]
        exact ⟨⟨by omega, fun _ => hx, fun _ => by omega, fun _ => by omega, fun _ => by omega⟩, fun _ => by omega⟩
      · rw [ls_dp_a (by rw [ek]; omega)]; rfl
    · have h8' := (ha c' hc').1.1
      rw [ls_un e]
      have r' := ls_row (t := t) (t' := ls_up t (8 * c) x) (c := c') (c' := c') (n := l c') (fun i hi => (ls_un (by omega)).symm)
      exact ls_wf_congr r'.1 r'.2 (ha c' hc')
  · rw [e12]; exact ls_dr_congr r.1 r.2 hd
  · rw [e12]; exact (ls_dp_congr (l 12) r.1).symm
def cp_t (t : Nat → Nat) (c : Nat) : Nat → Nat → Nat
  | 0 => t
  | i + 1 => ls_up (cp_t t c i) (8 * c + i) (cp_t t c i (96 + i))
theorem cp_at {t : Nat → Nat} {c : Nat} (hc : c < 12) : ∀ n, n ≤ 8 → ∀ j, cp_t t c n j = if 8 * c ≤ j ∧ j < 8 * c + n then t (96 + (j - 8 * c)) else t j
  | 0, _, j => by
    rw [if_neg (by omega)]; rfl
  | n + 1, hn, j => by
    show ls_up (cp_t t c n) (8 * c + n) (cp_t t c n (96 + n)) j = _
    by_cases e : j = 8 * c + n
    · rw [e, ls_us, cp_at hc n (by omega), if_neg (by omega), if_pos (by omega)]
      exact congrArg t (by omega)
    · rw [ls_un e, cp_at hc n (by omega) j]
      by_cases z : 8 * c ≤ j ∧ j < 8 * c + n
      · rw [if_pos z, if_pos (by omega)]
      · rw [if_neg z, if_neg (by omega)]
theorem rl_copy {N T c : Nat} {t l : Nat → Nat} (hN : N ≤ 12) (hc : c < N) (ha : ls_all N T t l) (hd : ls_dr N T (l 12) (ls_kd t 12) (ls_ar t 12)) (h1 : ls_dp (ls_kd t 12) (l 12) = 1) : ls_all N T (cp_t t c (l 12)) (ls_up l c (l 12)) := by
  have h8 := hd.1
  intro c' hc'
  by_cases e : c' = c
  · subst e
    rw [ls_us]
    have r := ls_row (t := t) (t' := cp_t t c' (l 12)) (c := 12) (c' := c') (n := l 12) (fun i hi => by
      rw [cp_at (by omega) _ h8, if_pos (by omega)]
      exact congrArg t (by omega))
    exact ls_wf_congr r.1 r.2 ⟨hd, h1⟩
  · have h8' := (ha c' hc').1.1
    rw [ls_un e]
    have r := ls_row (t := t) (t' := cp_t t c (l 12)) (c := c') (c' := c') (n := l c') (fun i hi => by
      rw [cp_at (by omega) _ h8, if_neg (by omega)])
    exact ls_wf_congr r.1 r.2 (ha c' hc')
theorem cp_upd {t : Nat → Nat} {c i : Nat} (hc : c < 12) (hi : i < 8) : upd (ls_I (cp_t t c i)) (nI c * 8 + nI i).toNatClampNeg (ls_I (cp_t t c i) (96 + nI i).toNatClampNeg) = ls_I (cp_t t c (i + 1)) := by
  rw [show nI c * 8 + nI i = nI (8 * c + i) by rw [Nat.mul_comm, show nI c * 8 = nI (c * 8) from pk_mul c 8, nI_add], show 96 + nI i = nI (96 + i) from nI_add 96 i, nI_clamp (by omega), ls_Iat (by omega), ls_Iup]
  rfl
theorem cp_in {c i : Nat} (hc : c < 12) (hi : i < 8) : vp_in (96 + nI i) 104 ∧ vp_in (nI c * 8 + nI i) 104 := by
  rw [show nI c * 8 + nI i = nI (8 * c + i) by rw [Nat.mul_comm, show nI c * 8 = nI (c * 8) from pk_mul c 8, nI_add], show 96 + nI i = nI (96 + i) from nI_add 96 i]
  exact ⟨vp_in_nI (by omega) (by decide), vp_in_nI (by omega) (by decide)⟩
theorem xc_draft {c : Nat} {t l : Nat → Nat} {N T dd ed : Int32} {sk sh os de re le so od : Nat → Int32} {post : St2 → Prop} (hc : c < 12) (h8 : l 12 ≤ 8) (hp : post (N, T, dd, ed, ls_I (cp_t t c (l 12)), ls_I (ls_up l c (l 12)), sk, sh, os, de, re, le, so, od)) : ∀ (m i n : Nat), i + m = l 12 → m < n → wX_writeDraft_10 post (nI c) (nI (l 12)) N T dd ed n (nI i) (ls_I (cp_t t c i)) (ls_I l) sk sh os de re le so od := by
  intro m
  induction m with
  | zero =>
    intro i n hi hn
    obtain ⟨n, rfl⟩ : ∃ k, n = k + 1 := ⟨n - 1, by omega⟩
    have e : i = l 12 := by omega
    refine br_t (nI_le (by omega) (by omega)) ⟨vp_in_nI (by omega) (by decide), nm_r (e' := ls_I (ls_up l c (l 12))) (by rw [nI_clamp (by omega), ls_Iup]) ?_⟩
    rw [e]
    exact hp
  | succ m ih =>
    intro i n hi hn
    obtain ⟨n, rfl⟩ : ∃ k, n = k + 1 := ⟨n - 1, by omega⟩
    have ⟨i1, i2⟩ := cp_in (i := i) hc (by omega)
    exact br_f (nI_ge (by omega) (by omega)) ⟨i1, i2, nm_r (cp_upd hc (by omega)) (nm_r (nI_1 i) (ih (i + 1) n (by omega) (by omega)))⟩
theorem xe_ncell {N : Nat} {x : Int32} {post : Int32 → Prop} {T dd ed : Int32} {tk ln sk sh os de re le so od : Nat → Int32} (hx : x < 0 ∨ nI N ≤ x) (h : post 0) : wpX_isCell post (nI N, T, dd, ed, tk, ln, sk, sh, os, de, re, le, so, od) x := by
  by_cases z : x < 0
  · exact br_t z h
  · exact br_f z (br_t (hx.resolve_left z) h)
theorem rl_ix (x : Int32) {N : Nat} (hN : N ≤ 12) : (x < 0 ∨ nI N ≤ x) ∨ ∃ j : Nat, j < N ∧ x = nI j := by
  rcases pk_ix x (n := N) (by omega) with h | h | h
  · exact Or.inl (Or.inl h)
  · exact Or.inl (Or.inr h)
  · exact Or.inr h
theorem rl_n99 {c : Nat} (h : c < 13) : ¬ nI c = (-99) := by
  intro z
  have := nI_pos (n := c) (by omega)
  rw [z] at this
  exact this (by decide)
theorem rl_n1 {c : Nat} (h : c < 13) : ¬ nI c = (-1) := by
  intro z
  have := nI_pos (n := c) (by omega)
  rw [z] at this
  exact this (by decide)
def in_l (i : Nat) : Nat → Nat := fun j => if j < i then 1 else 0
theorem in_lup {i : Nat} (hi : i < 12) : upd (ls_I (in_l i)) (nI i).toNatClampNeg 1 = ls_I (in_l (i + 1)) := by
  rw [nI_clamp (by omega), show (1 : Int32) = nI 1 from rfl, ls_Iup]
  congr 1
  funext j
  unfold ls_up in_l
  by_cases e : j = i
  · rw [if_pos e, if_pos (by omega)]
  · rw [if_neg e]
    by_cases z : j < i
    · rw [if_pos z, if_pos (by omega)]
    · rw [if_neg z, if_neg (by omega)]
theorem in_tup (k : Nat) : upd (ls_I (fun _ => 0)) k (0 + 0) = ls_I (fun _ => 0) := by
  funext j
  unfold upd
  split <;> rfl
theorem in_l0 : ls_I (in_l 0) = fun _ => 0 := by
  funext j
  show nI (if j < 0 then 1 else 0) = 0
  rw [if_neg (Nat.not_lt_zero j)]; rfl
theorem in_all {N T : Nat} (hN : N ≤ 12) : ls_all N T (fun _ => 0) (in_l 12) := by
  intro c hc
  have e : in_l 12 c = 1 := if_pos (by omega)
  rw [e]
  refine ⟨⟨by omega, fun i hi => ⟨⟨by show 0 / 100 ≤ 5; decide, fun _ => by show 0 % 100 ≤ T; exact Nat.zero_le _, fun z => absurd z (by show ¬ (0 / 100 = 1); decide), fun z => absurd z (by show ¬ (2 ≤ 0 / 100); decide), fun z => absurd z (by show ¬ (0 / 100 = 5); decide)⟩, fun z => absurd z (by show ¬ (2 ≤ 0 / 100); decide)⟩⟩, (ls_dp_a (i := 0) (by show 0 / 100 < 2; decide)).trans rfl⟩
