/-! pure: what a formula's result rests on; a cell that does not depend on the edited one keeps its value -/
theorem lo_st {T n : Nat} {w w' kd kd' ar ar' : Nat → Nat} (hk : ∀ i, i < n → kd i = kd' i) (ha : ∀ i, i < n → ar i = ar' i) (hw : ∀ i, i < n → kd i = 1 → w (ar i) = w' (ar i)) : ∀ i, i ≤ n → ls_st T w kd ar i = ls_st T w' kd' ar' i := by
  intro i
  induction i with
  | zero => intro _; rfl
  | succ i ih =>
    intro hi
    have ih' := ih (by omega)
    have e1 := hk i (by omega)
    have e2 := ha i (by omega)
    have e3 := ls_dp_congr i (fun j hj => hk j (by omega))
    by_cases h : kd i < 2
    · rw [ls_st_a h, ls_st_a (e1 ▸ h), ih', e3, ← e1, ← e2]
      by_cases h1 : kd i = 1
      · rw [if_pos h1, if_pos h1, hw i (by omega) h1]
      · rw [if_neg h1, if_neg h1]
    · rw [ls_st_b h, ls_st_b (e1 ▸ h), ih', e3, ← e1, ← e2]
theorem lo_F {T c : Nat} {t t' l l' u u' : Nat → Nat} (hl : l c = l' c) (ht : ∀ i, i < l c → t (8 * c + i) = t' (8 * c + i)) (hu : ∀ d, de_u t c d (l c) = true → u d = u' d) : ls_F T t l u c = ls_F T t' l' u' c := by
  unfold ls_F ls_ev
  rw [← hl]
  have r1 : ∀ i, i < l c → ls_kd t c i = ls_kd t' c i := fun i hi => by unfold ls_kd; rw [ht i hi]
  have r2 : ∀ i, i < l c → ls_ar t c i = ls_ar t' c i := fun i hi => by unfold ls_ar; rw [ht i hi]
  rw [lo_st r1 r2 (fun i hi h1 => hu _ (by rw [de_u_iff]; exact ⟨i, hi, h1, rfl⟩)) (l c) (Nat.le_refl _)]
theorem lo_u {t t' : Nat → Nat} {c d n : Nat} (ht : ∀ i, i < n → t (8 * c + i) = t' (8 * c + i)) (h : de_u t c d n = true) : de_u t' c d n = true := by
  rw [de_u_iff] at h ⊢
  obtain ⟨i, hi, h1, h2⟩ := h
  refine ⟨i, hi, ?_, ?_⟩
  · unfold ls_kd at h1 ⊢; rw [← ht i hi]; exact h1
  · unfold ls_ar at h2 ⊢; rw [← ht i hi]; exact h2
theorem lo_same {N T e : Nat} {t t' l l' w w' : Nat → Nat} (A : ls_all N T t l) (A' : ls_all N T t' l') (same : ∀ c, c < N → c ≠ e → l c = l' c ∧ ∀ i, i < l c → t (8 * c + i) = t' (8 * c + i)) (L : lf_least N T (ls_F T t l) w) (L' : lf_least N T (ls_F T t' l') w') : ∀ c, c < N → c ≠ e → wa_S (de_Ub N t' l') N c e = false → w' c = w c := by
  have clos : ∀ c d, c < N → wa_S (de_Ub N t' l') N c e = false → de_u t' c d (l' c) = true → d < N ∧ d ≠ e ∧ wa_S (de_Ub N t' l') N d e = false := by
    intro c d hc hS hu
    have hU : de_Ub N t' l' c d = true := by rw [de_Ub_at hc]; exact hu
    have hd := de_Ub_lt A' c d hU
    refine ⟨hd, fun z => ?_, ?_⟩
    · rw [z] at hU
      rw [wa_up hU N] at hS
      exact Bool.noConfusion hS
    · cases q : wa_S (de_Ub N t' l') N d e
      · rfl
      · rw [wa_tr N c d e hd (wa_up hU N) q] at hS
        exact Bool.noConfusion hS
  have ok := ls_F_ok A
  have ok' := ls_F_ok A'
  have step1 : lf_pre N T (ls_F T t' l') (fun c => if c ≠ e ∧ wa_S (de_Ub N t' l') N c e = false then w c else T) := by
    have hb : ∀ c, c < N → (if c ≠ e ∧ wa_S (de_Ub N t' l') N c e = false then w c else T) ≤ T := by
      intro c hc
      split
      · exact L.1.1 c hc
      · exact Nat.le_refl T
    refine ⟨hb, fun c hc => ?_⟩
    show _ ≤ (if c ≠ e ∧ wa_S (de_Ub N t' l') N c e = false then w c else T)
    by_cases hS : c ≠ e ∧ wa_S (de_Ub N t' l') N c e = false
    · rw [if_pos hS]
      have ⟨s1, s2⟩ := same c hc hS.1
      rw [← lo_F (T := T) (u := w) s1 s2 (fun d hd => ?_)]
      · exact Nat.le_of_eq (L.1.2 c hc)
      · have ⟨_, k2, k3⟩ := clos c d hc hS.2 (by rw [← s1]; exact lo_u s2 hd)
        rw [if_pos ⟨k2, k3⟩]
    · rw [if_neg hS]
      exact ok'.2 _ hb c hc
  have step2 : lf_pre N T (ls_F T t l) (fun c => if c ≠ e ∧ wa_S (de_Ub N t' l') N c e = false then w' c else T) := by
    have hb : ∀ c, c < N → (if c ≠ e ∧ wa_S (de_Ub N t' l') N c e = false then w' c else T) ≤ T := by
      intro c hc
      split
      · exact L'.1.1 c hc
      · exact Nat.le_refl T
    refine ⟨hb, fun c hc => ?_⟩
    show _ ≤ (if c ≠ e ∧ wa_S (de_Ub N t' l') N c e = false then w' c else T)
    by_cases hS : c ≠ e ∧ wa_S (de_Ub N t' l') N c e = false
    · rw [if_pos hS]
      have ⟨s1, s2⟩ := same c hc hS.1
      rw [lo_F (T := T) (u' := w') s1 s2 (fun d hd => ?_)]
      · exact Nat.le_of_eq (L'.1.2 c hc)
      · have ⟨_, k2, k3⟩ := clos c d hc hS.2 (by rw [← s1]; exact lo_u s2 hd)
        rw [if_pos ⟨k2, k3⟩]
    · rw [if_neg hS]
      exact ok.2 _ hb c hc
  intro c hc h1 h2
  have a : w' c ≤ (if c ≠ e ∧ wa_S (de_Ub N t' l') N c e = false then w c else T) := L'.2 _ step1 c hc
  have b : w c ≤ (if c ≠ e ∧ wa_S (de_Ub N t' l') N c e = false then w' c else T) := L.2 _ step2 c hc
  rw [if_pos ⟨h1, h2⟩] at a b
  exact Nat.le_antisymm a b
