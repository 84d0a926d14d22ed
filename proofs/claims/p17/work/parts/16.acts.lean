/-! what the law's steps do to the sheet -/
theorem lf_FC {N T : Nat} {F F' : (Nat → Nat) → Nat → Nat} {w : Nat → Nat} (h : ∀ w c, c < N → F w c = F' w c) (l : lf_least N T F w) : lf_least N T F' w :=
  ⟨⟨l.1.1, fun c hc => by rw [← h w c hc]; exact l.1.2 c hc⟩, fun v hv c hc => l.2 v ⟨hv.1, fun c hc => by rw [h v c hc]; exact hv.2 c hc⟩ c hc⟩
/-- the sheet as the law knows it: formulas and draft well formed, the least solution shown -/
def pc_P (N T : Nat) (t l : Nat → Nat) (sh : Nat → Int32) (w : Nat → Nat) : Prop := ls_all N T t l ∧ ls_dr N T (l 12) (ls_kd t 12) (ls_ar t 12) ∧ (∀ c, c < N → sh c = nI (w c)) ∧ lf_least N T (ls_F T t l) w
/-- what an edit of e from w0 to w leaves -/
def pc_E (N : Nat) (de re : Nat → Int32) (w w0 : Nat → Nat) (e : Int32) : Prop := ∀ c, c < N → de c = nI (w c) - nI (w0 c) ∧ (¬ nI c = e → ¬ w c = w0 c → ∃ d, d < N ∧ e = nI d ∧ bt (re c) d = true)
theorem pc_low {N T : Nat} {t t' l l' w : Nat → Nat} {sh : Nat → Int32} (hN : N ≤ 12) (P : pc_P N T t l sh w) (ht : ∀ j, j < 96 → t j = t' j) (hl : ∀ c, c < N → l c = l' c) (hd : ls_dr N T (l' 12) (ls_kd t' 12) (ls_ar t' 12)) : pc_P N T t' l' sh w := by
  refine ⟨ls_all_low hN ht hl P.1, hd, P.2.2.1, lf_FC (fun w c hc => ?_) P.2.2.2⟩
  have h8 := (P.1 c hc).1.1
  exact lo_F (hl c hc) (fun i hi => ht _ (by omega)) (fun _ _ => rfl)
theorem px_push {N T : Nat} {t l w : Nat → Nat} {ed : Int32} {sk sh os de re le so od : Nat → Int32} {v1 v2 : Int32} {post : Int32 → St2 → Prop} (hN : N ≤ 12) (hT : T ≤ 15) (P : pc_P N T t l sh w) (hp : ∀ (r : Int32) (t l : Nat → Nat), pc_P N T t l sh w → post r (nI N, nI T, nI (ls_dp (ls_kd t 12) (l 12)), ed, ls_I t, ls_I l, sk, sh, os, de, re, le, so, od)) : wpX_push post (nI N, nI T, nI (ls_dp (ls_kd t 12) (l 12)), ed, ls_I t, ls_I l, sk, sh, os, de, re, le, so, od) v1 v2 := by
  have hd := P.2.1
  by_cases g0 : v1 < 0
  · exact br_t g0 (hp 1 t l P)
  by_cases g5 : v1 ≤ 5
  rotate_left
  · exact br_f g0 (br_f g5 (hp 1 t l P))
  obtain ⟨q, hq, rfl⟩ := nI_of2 (M := 5) (n := 5) (by decide) g0 g5
  by_cases h8 : l 12 < 8
  rotate_left
  · have n8 : ¬ ls_I l 12 < 8 := nI_nlt (b := 8) (by omega) (by have := hd.1; omega)
    exact br_f g0 (br_t g5 (nm_e (br_f n8 (hp 2 t l P))))
  have y8 : ls_I l 12 < 8 := nI_lt (b := 8) h8 (by decide)
  have hdp := ls_dp_le (ls_kd t 12) (l 12)
  refine br_f g0 (br_t g5 (nm_r (e' := nI (l 12)) rfl (br_t y8 (xp_arg hq (fun hg => ?_) (fun hg => br_t rfl (hp 3 t l P))))))
  refine br_f (by decide) ?_
  obtain ⟨a, ha1, htok, hkept⟩ := rl_arg_tok hN hT hq hg
  have acc : ∀ (x4 : Int32) (dd' : Int32), (2 ≤ q → 2 ≤ ls_dp (ls_kd t 12) (l 12)) → dd' = nI (if q < 2 then ls_dp (ls_kd t 12) (l 12) + 1 else ls_dp (ls_kd t 12) (l 12) - 1) → ((x4 = 0 → dd' = nI (ls_dp (ls_kd t 12) (l 12)) + (-1)) ∧ (¬ x4 = 0 → dd' = nI (ls_dp (ls_kd t 12) (l 12)) + 1)) → wX_push_59 post (nI q) v2 (nI (l 12)) x4 (nI N) (nI T) (nI (ls_dp (ls_kd t 12) (l 12))) ed (ls_I t) (ls_I l) sk sh os de re le so od := by
    intro x4 dd' hsh hdd h4
    have R := rl_push hd h8 htok ha1 hsh
    have P' : pc_P N T (ls_up t (96 + l 12) (100 * q + a)) (ls_up l 12 (l 12 + 1)) sh w := pc_low hN P (fun j hj => (ls_un (by omega)).symm) (fun c hc => (ls_un (by omega)).symm) R.1
    refine xp_59 hq ?_
    rw [hkept]
    refine xp_91 h8 h4 ?_
    rw [hdd, ← R.2]
    exact hp 0 _ _ P'
  refine xe_op (by omega) (fun z => ?_) (fun z => ?_)
  · exact br_f (by decide) (acc 1 _ (by omega) rfl ⟨fun y => absurd y (by decide), fun _ => by rw [if_pos z, nI_1]⟩)
  · refine br_t rfl (pk_le 2 _ (fun y => acc 0 _ (fun _ => y) rfl ⟨fun _ => ?_, fun y => absurd rfl y⟩) (fun y => hp 4 t l P))
    rw [if_neg z]
    rw [show nI (ls_dp (ls_kd t 12) (l 12)) = nI ((ls_dp (ls_kd t 12) (l 12) - 1) + 1) by rw [show (ls_dp (ls_kd t 12) (l 12) - 1) + 1 = ls_dp (ls_kd t 12) (l 12) by omega]]
    exact (pk_m1 _).symm
theorem px_drop {N T : Nat} {t l w : Nat → Nat} {ed : Int32} {sk sh os de re le so od : Nat → Int32} {post : St2 → Prop} (hN : N ≤ 12) (P : pc_P N T t l sh w) (hp : ∀ (t l : Nat → Nat), pc_P N T t l sh w → post (nI N, nI T, nI (ls_dp (ls_kd t 12) (l 12)), ed, ls_I t, ls_I l, sk, sh, os, de, re, le, so, od)) : wpX_dropDraft post (nI N, nI T, nI (ls_dp (ls_kd t 12) (l 12)), ed, ls_I t, ls_I l, sk, sh, os, de, re, le, so, od) := by
  refine nm_r (e' := ls_I (ls_up l 12 0)) ls_Iup ?_
  have P' : pc_P N T t (ls_up l 12 0) sh w := pc_low hN P (fun _ _ => rfl) (fun c hc => (ls_un (by omega)).symm) (by rw [ls_us]; exact ls_dr0 _ _)
  have h := hp t (ls_up l 12 0) P'
  rw [ls_us] at h
  exact h
theorem pe_mk {N T e : Nat} {t t' l l' w w' : Nat → Nat} {sh sh' de' re' le' od' : Nat → Int32} (P : pc_P N T t l sh w) (A' : ls_all N T t' l') (same : ∀ c, c < N → c ≠ e → l c = l' c ∧ ∀ i, i < l c → t (8 * c + i) = t' (8 * c + i)) (he : e < N) (x1 : ∀ d, d < N → sh' d = nI (w' d)) (x2 : lf_least N T (ls_F T t' l') w') (x3 : ∀ d, d < N → de' d = sh' d - sh d) (x4 : xs_ok N (wa_S (de_Ub N t' l') N) re' le' od') : pc_E N de' re' w' w (nI e) := by
  intro c hc
  refine ⟨by rw [x3 c hc, x1 c hc, P.2.2.1 c hc], fun z y => ⟨e, he, rfl, ?_⟩⟩
  rw [x4.1 c e hc he]
  cases q : wa_S (de_Ub N t' l') N c e
  · exact absurd (lo_same P.1 A' same P.2.2.2 x2 c hc (fun h => z (by rw [h])) q) y
  · rfl
theorem px_set {N T : Nat} {t l w : Nat → Nat} {ed : Int32} {sk sh os de re le so od : Nat → Int32} {v1 v2 : Int32} {post : Int32 → St2 → Prop} (hN : N ≤ 12) (hT : T ≤ 15) (P : pc_P N T t l sh w) (h0 : ∀ r : Int32, ¬ r = 0 → post r (nI N, nI T, nI (ls_dp (ls_kd t 12) (l 12)), ed, ls_I t, ls_I l, sk, sh, os, de, re, le, so, od)) (h1 : ∀ (t l : Nat → Nat) (ed : Int32) (sk sh os de re le so od : Nat → Int32) (w' : Nat → Nat), pc_P N T t l sh w' → pc_E N de re w' w v1 → post 0 (nI N, nI T, nI (ls_dp (ls_kd t 12) (l 12)), ed, ls_I t, ls_I l, sk, sh, os, de, re, le, so, od)) : wpX_setInput post (nI N, nI T, nI (ls_dp (ls_kd t 12) (l 12)), ed, ls_I t, ls_I l, sk, sh, os, de, re, le, so, od) v1 v2 := by
  unfold wpX_setInput
  rcases rl_ix v1 hN with h | ⟨c, hc, rfl⟩
  · exact xe_ncell h (br_t rfl (h0 5 (by decide)))
  refine xe_cell hN hc (br_f (by decide) (xp_arg (k := 0) (by omega) (fun hg => ?_) (fun hg => br_t rfl (h0 3 (by decide)))))
  have ⟨a1, a2⟩ := hg.1 rfl
  obtain ⟨x, hx, rfl⟩ := nI_of a1
  have hxT : x ≤ T := by rw [nI_ltI (by omega) hx] at a2; omega
  have ⟨A', d', p'⟩ := rl_set hN hT hc hxT P.1 P.2.1
  have e1 : nI c * 8 = nI (8 * c) := by rw [Nat.mul_comm]; exact pk_mul c 8
  have i1 : vp_in (nI c * 8) 104 := by rw [e1]; exact vp_in_nI (by omega) (by decide)
  have i2 : vp_in (nI c) 13 := vp_in_nI (by omega) (by decide)
  have et : upd (ls_I t) (nI c * 8).toNatClampNeg (0 + nI x) = ls_I (ls_up t (8 * c) x) := by rw [e1, nI_clamp (by omega), Int32.zero_add, ls_Iup]
  have el : upd (ls_I l) (nI c).toNatClampNeg 1 = ls_I (ls_up l c 1) := by rw [nI_clamp (by omega)]; exact ls_Iup (x := 1)
  refine br_f (by decide) ⟨i1, nm_r et ⟨i2, nm_r el (xt_settle hN hT A' (fun sk' sh' os' de' re' le' so' od' w' x1 x2 x3 x4 => ?_))⟩⟩
  rw [← p']
  refine h1 _ _ _ sk' sh' os' de' re' le' so' od' w' ⟨A', d', x1, x2⟩ (pe_mk P A' (fun c' hc' hne => ?_) hc x1 x2 x3 x4)
  have h8 := (P.1 c' hc').1.1
  exact ⟨(ls_un hne).symm, fun i hi => (ls_un (by omega)).symm⟩
theorem px_com {N T : Nat} {t l w : Nat → Nat} {ed : Int32} {sk sh os de re le so od : Nat → Int32} {v1 : Int32} {post : Int32 → St2 → Prop} (hN : N ≤ 12) (hT : T ≤ 15) (P : pc_P N T t l sh w) (h0 : ∀ r : Int32, ¬ r = 0 → post r (nI N, nI T, nI (ls_dp (ls_kd t 12) (l 12)), ed, ls_I t, ls_I l, sk, sh, os, de, re, le, so, od)) (h1 : ∀ (t l : Nat → Nat) (ed : Int32) (sk sh os de re le so od : Nat → Int32) (w' : Nat → Nat), pc_P N T t l sh w' → pc_E N de re w' w v1 → post 0 (nI N, nI T, nI (ls_dp (ls_kd t 12) (l 12)), ed, ls_I t, ls_I l, sk, sh, os, de, re, le, so, od)) : wpX_commit post (nI N, nI T, nI (ls_dp (ls_kd t 12) (l 12)), ed, ls_I t, ls_I l, sk, sh, os, de, re, le, so, od) v1 := by
  have hd := P.2.1
  have h8 := hd.1
  have hdp := ls_dp_le (ls_kd t 12) (l 12)
  unfold wpX_commit
  rcases rl_ix v1 hN with h | ⟨c, hc, rfl⟩
  · exact xe_ncell h (br_t rfl (h0 5 (by decide)))
  refine xe_cell hN hc (br_f (by decide) (pk_eq _ 1 (fun k1 => ?_) (fun k1 => h0 6 (by decide))))
  have A1 := rl_copy hN hc P.1 hd k1
  have A2 : ls_all N T (cp_t t c (l 12)) (ls_up (ls_up l c (l 12)) 12 0) := ls_all_low hN (fun _ _ => rfl) (fun c' hc' => (ls_un (by omega)).symm) A1
  refine nm_r (e' := nI (l 12)) rfl ⟨l 12 + 1, xc_draft (by omega) h8 ?_ (l 12) 0 (l 12 + 1) (by omega) (by omega)⟩
  refine nm_r (e' := ls_I (ls_up (ls_up l c (l 12)) 12 0)) ls_Iup (xt_settle hN hT A2 (fun sk' sh' os' de' re' le' so' od' w' x1 x2 x3 x4 => ?_))
  have E := pe_mk P A2 (fun c' hc' hne => by
    have h8' := (P.1 c' hc').1.1
    refine ⟨by rw [ls_un (by omega), ls_un hne], fun i hi => ?_⟩
    rw [cp_at (by omega) _ h8, if_neg (by omega)]) hc x1 x2 x3 x4
  have R := h1 (cp_t t c (l 12)) (ls_up (ls_up l c (l 12)) 12 0) (nI c) sk' sh' os' de' re' le' so' od' w' ⟨A2, by rw [ls_us]; exact ls_dr0 _ _, x1, x2⟩ E
  rw [ls_us] at R
  exact R
theorem in_clamp (x lo hi : Int32) {a b : Nat} (ea : lo = nI a) (eb : hi = nI b) (hab : a ≤ b) (hb : b < 2 ^ 31) : ∃ n : Nat, a ≤ n ∧ n ≤ b ∧ ∀ P : Int32 → Prop, P (nI n) → wpX_clamp P () x lo hi := by
  subst ea eb
  by_cases h1 : nI a ≤ x
  · by_cases h2 : x ≤ nI b
    · have h0 : ¬ x < 0 := Int32.not_lt.mpr (Int32.le_trans (nI_pos' (by omega)) h1)
      obtain ⟨j, hj, rfl⟩ := nI_of h0
      have h1' := h1
      rw [nI_leI hj hb] at h2
      rw [nI_leI (by omega) hj] at h1'
      exact ⟨j, h1', h2, fun P hp => br_t h1 (br_t (by rw [nI_leI hj hb]; exact h2) hp)⟩
    · exact ⟨b, hab, Nat.le_refl b, fun P hp => br_t h1 (br_f h2 hp)⟩
  · exact ⟨a, Nat.le_refl a, hab, fun P hp => br_f h1 hp⟩
theorem in_x {N T mc ms kc ks : Nat} {sk sh os de re le so od : Nat → Int32} {post : St2 → Prop} (hN : N ≤ 12) (hT : T ≤ 15) (hp : ∀ re le so od : Nat → Int32, post (nI N, nI T, 0, (-99), ls_I (fun _ => 0), ls_I (in_l 12), sk, sh, os, de, re, le, so, od)) : ∀ (m i n : Nat), i + m = 12 → m < n → wX_init_119 post mc ms kc ks n (nI i) (nI N) (nI T) 0 (-99) (ls_I (fun _ => 0)) (ls_I (in_l i)) sk sh os de re le so od := by
  intro m
  induction m with
  | zero =>
    intro i n hi hn
    obtain ⟨n, rfl⟩ : ∃ k, n = k + 1 := ⟨n - 1, by omega⟩
    have e : i = 12 := by omega
    subst e
    exact br_t (nI_le (a := 12) (by omega) (by omega)) (xs_struct hN hT (in_all hN) (fun re le so od _ => hp re le so od))
  | succ m ih =>
    intro i n hi hn
    obtain ⟨n, rfl⟩ : ∃ k, n = k + 1 := ⟨n - 1, by omega⟩
    have e1 : nI i * 8 = nI (8 * i) := by rw [Nat.mul_comm]; exact pk_mul i 8
    exact br_f (nI_ge (b := 12) (by omega) (by decide)) ⟨by rw [e1]; exact vp_in_nI (by omega) (by decide), nm_r (in_tup _) ⟨vp_in_nI (by omega) (by decide), nm_r (in_lup (by omega)) (nm_r (nI_1 i) (ih (i + 1) n (by omega) (by omega)))⟩⟩
theorem in_F {N T c : Nat} {w : Nat → Nat} (hN : N ≤ 12) (hc : c < N) : ls_F T (fun _ => 0) (in_l 12) w c = 0 := by
  have e : in_l 12 c = 1 := if_pos (by omega)
  unfold ls_F ls_ev
  rw [e, ls_st_a (i := 0) (by show 0 / 100 < 2; decide)]
  show ls_up _ 0 _ 0 = 0
  rw [ls_us, if_neg (by show ¬ (0 / 100 = 1); decide)]
  rfl
theorem in_P {N T : Nat} {sh : Nat → Int32} (hN : N ≤ 12) (hs : ∀ c, sh c = 0) : pc_P N T (fun _ => 0) (in_l 12) sh (fun _ => 0) :=
  ⟨in_all hN, ls_dr0 _ _, fun c _ => hs c, ⟨⟨fun _ _ => Nat.zero_le _, fun c hc => in_F hN hc⟩, fun _ _ _ _ => Nat.zero_le _⟩⟩
