/-! pure: rounds of any kind reach the least solution -/
theorem lf_congr {N T : Nat} {F : (Nat → Nat) → Nat → Nat} (ok : lf_ok N T F) {w w' : Nat → Nat} (h : ∀ c, c < N → w c = w' c) : ∀ c, c < N → F w c = F w' c := fun c hc => Nat.le_antisymm (ok.1 w w' (fun d hd => Nat.le_of_eq (h d hd)) c hc) (ok.1 w' w (fun d hd => Nat.le_of_eq (h d hd).symm) c hc)
theorem lf_sol_congr {N T : Nat} {F : (Nat → Nat) → Nat → Nat} (ok : lf_ok N T F) {w w' : Nat → Nat} (h : ∀ c, c < N → w c = w' c) (s : ∀ c, c < N → F w c = w c) : ∀ c, c < N → F w' c = w' c := fun c hc => by rw [← lf_congr ok h c hc, s c hc, h c hc]
/-- after k rounds: the sum is k at least, or a solution is reached -/
def lf_R (N T : Nat) (F : (Nat → Nat) → Nat → Nat) (k : Nat) (w : Nat → Nat) : Prop := lf_inv N T F w ∧ (k ≤ lf_sum w N ∨ ∀ c, c < N → F w c = w c)
theorem lf_R0 {N T : Nat} {F : (Nat → Nat) → Nat → Nat} {w : Nat → Nat} (h : lf_inv N T F w) : lf_R N T F 0 w := ⟨h, Or.inl (Nat.zero_le _)⟩
theorem lf_round {N T : Nat} {F : (Nat → Nat) → Nat → Nat} (ok : lf_ok N T F) {k : Nat} {w w' : Nat → Nat} (h : lf_R N T F k w) (h' : lf_inv N T F w') (hF : ∀ c, c < N → F w c ≤ w' c) : lf_R N T F (k + 1) w' := by
  have hle : ∀ c, c < N → w c ≤ w' c := fun c hc => Nat.le_trans (h.1.2.1 c hc) (hF c hc)
  refine ⟨h', ?_⟩
  by_cases e : ∀ c, c < N → F w c = w c
  · exact Or.inr (lf_sol_congr ok (fun c hc => Nat.le_antisymm (hle c hc) (h'.2.2 w ⟨h.1.1, e⟩ c hc)) e)
  · refine Or.inl ?_
    have hs := h.2.resolve_right e
    have hx : ∃ c, c < N ∧ w c < w' c := by
      apply Classical.byContradiction
      intro hn
      apply e
      intro c hc
      have a := h.1.2.1 c hc
      have b := hF c hc
      by_cases l : w c < w' c
      · exact absurd ⟨c, hc, l⟩ hn
      · omega
    have := lf_sum_lt N hle hx
    omega
theorem lf_done {N T : Nat} {F : (Nat → Nat) → Nat → Nat} (ok : lf_ok N T F) {k : Nat} {w : Nat → Nat} (h : lf_R N T F k w) (hk : N * T ≤ k) : lf_least N T F w := h.2.elim (fun s => lf_full ok h.1 (Nat.le_trans hk s)) (fun e => lf_end h.1 e)
theorem lf_least_congr {N T : Nat} {F : (Nat → Nat) → Nat → Nat} (ok : lf_ok N T F) {w w' : Nat → Nat} (h : ∀ c, c < N → w c = w' c) (l : lf_least N T F w) : lf_least N T F w' := ⟨⟨fun c hc => by rw [← h c hc]; exact l.1.1 c hc, lf_sol_congr ok h l.1.2⟩, fun v hv c hc => by rw [← h c hc]; exact l.2 v hv c hc⟩
/-- a step of all cells at once -/
theorem lf_jac {N T : Nat} {F : (Nat → Nat) → Nat → Nat} (ok : lf_ok N T F) {w w' : Nat → Nat} (h : lf_inv N T F w) (e : ∀ c, c < N → w' c = F w c) : lf_inv N T F w' := by
  have hle : ∀ c, c < N → w c ≤ w' c := fun c hc => by rw [e c hc]; exact h.2.1 c hc
  refine ⟨fun c hc => ?_, fun c hc => ?_, fun v hv c hc => ?_⟩
  · rw [e c hc]; exact ok.2 w h.1 c hc
  · rw [e c hc]; exact ok.1 _ _ hle c hc
  · rw [e c hc, ← hv.2 c hc]; exact ok.1 _ _ (h.2.2 v hv) c hc
/-! the formulas' step -/
def ls_kd (t : Nat → Nat) (c : Nat) : Nat → Nat := fun i => t (8 * c + i) / 100
def ls_ar (t : Nat → Nat) (c : Nat) : Nat → Nat := fun i => t (8 * c + i) % 100
def ls_F (T : Nat) (t l : Nat → Nat) (w : Nat → Nat) (c : Nat) : Nat := ls_ev T w (ls_kd t c) (ls_ar t c) (l c)
def ls_all (N T : Nat) (t l : Nat → Nat) : Prop := ∀ c, c < N → ls_wf N T (l c) (ls_kd t c) (ls_ar t c)
theorem ls_F_ok {N T : Nat} {t l : Nat → Nat} (h : ls_all N T t l) : lf_ok N T (ls_F T t l) := ⟨fun _ _ hw c hc => ls_ev_mono (h c hc) hw, fun _ hw c hc => ls_ev_le (h c hc) hw⟩
/-! uses, and dependence as the least solution of one target's step -/
def de_U (t l : Nat → Nat) (c d : Nat) : Prop := ∃ i, i < l c ∧ ls_kd t c i = 1 ∧ ls_ar t c i = d
def de_P (N : Nat) (U : Nat → Nat → Bool) (d : Nat) (w : Nat → Nat) (c : Nat) : Prop := U c d = true ∨ ∃ e, e < N ∧ U c e = true ∧ 1 ≤ w e
noncomputable def de_F (N : Nat) (U : Nat → Nat → Bool) (d : Nat) (w : Nat → Nat) (c : Nat) : Nat := by
  classical exact if de_P N U d w c then 1 else 0
theorem de_F1 {N : Nat} {U : Nat → Nat → Bool} {d : Nat} {w : Nat → Nat} {c : Nat} (h : de_P N U d w c) : de_F N U d w c = 1 := by unfold de_F; exact if_pos h
theorem de_F0 {N : Nat} {U : Nat → Nat → Bool} {d : Nat} {w : Nat → Nat} {c : Nat} (h : ¬ de_P N U d w c) : de_F N U d w c = 0 := by unfold de_F; exact if_neg h
theorem de_F_le (N : Nat) (U : Nat → Nat → Bool) (d : Nat) (w : Nat → Nat) (c : Nat) : de_F N U d w c ≤ 1 := by
  by_cases h : de_P N U d w c
  · rw [de_F1 h]; exact Nat.le_refl 1
  · rw [de_F0 h]; exact Nat.zero_le 1
theorem de_ok (N : Nat) (U : Nat → Nat → Bool) (d : Nat) : lf_ok N 1 (de_F N U d) := by
  refine ⟨fun w w' hw c hc => ?_, fun w _ c _ => de_F_le N U d w c⟩
  by_cases h : de_P N U d w c
  · have h' : de_P N U d w' c := h.elim Or.inl (fun ⟨e, he, hu, hx⟩ => Or.inr ⟨e, he, hu, Nat.le_trans hx (hw e he)⟩)
    rw [de_F1 h, de_F1 h']; exact Nat.le_refl 1
  · rw [de_F0 h]; exact Nat.zero_le _
/-- Warshall's relation, by its columns, is the least solution -/
theorem de_war {N : Nat} {U : Nat → Nat → Bool} (hU : ∀ c d, U c d = true → d < N) (d : Nat) : lf_least N 1 (de_F N U d) (fun c => if wa_S U N c d = true then 1 else 0) := by
  have hR : ∀ c j d, wa_S U N c j = true → wa_S U N j d = true → wa_S U N c d = true := by
    intro c j d h1 h2
    have hj : j < N := wa_min (R := fun _ j => j < N) hU (fun _ _ _ _ b => b) N c j h1
    exact wa_tr N c j d hj h1 h2
  have key : ∀ c, wa_S U N c d = true ↔ de_P N U d (fun c => if wa_S U N c d = true then 1 else 0) c := by
    intro c
    constructor
    · intro h
      have h2 := wa_min (U := U) (R := fun c d => U c d = true ∨ ∃ e, e < N ∧ U c e = true ∧ wa_S U N e d = true) (fun c d h => Or.inl h) (by
        intro c j d h1 h2
        have h3 : wa_S U N j d = true := h2.elim (fun z => wa_up z N) (fun ⟨e, _, hu, hr⟩ => hR j e d (wa_up hu N) hr)
        rcases h1 with h1 | ⟨e, he, hu, hr⟩
        · exact Or.inr ⟨j, hU c j h1, h1, h3⟩
        · exact Or.inr ⟨e, he, hu, hR e j d hr h3⟩) N c d h
      rcases h2 with h2 | ⟨e, he, hu, hr⟩
      · exact Or.inl h2
      · exact Or.inr ⟨e, he, hu, by show 1 ≤ (if wa_S U N e d = true then 1 else 0); rw [if_pos hr]; exact Nat.le_refl 1⟩
    · intro h
      rcases h with h | ⟨e, he, hu, hx⟩
      · exact wa_up h N
      · have hx' : 1 ≤ (if wa_S U N e d = true then 1 else 0) := hx
        by_cases hr : wa_S U N e d = true
        · exact hR c e d (wa_up hu N) hr
        · rw [if_neg hr] at hx'; omega
  refine ⟨⟨fun c hc => ?_, fun c hc => ?_⟩, fun w' hw' c hc => ?_⟩
  · show (if wa_S U N c d = true then 1 else 0) ≤ 1
    split <;> omega
  · show _ = (if wa_S U N c d = true then 1 else 0)
    by_cases h : wa_S U N c d = true
    · rw [if_pos h, de_F1 ((key c).mp h)]
    · rw [if_neg h, de_F0 (fun z => h ((key c).mpr z))]
  · show (if wa_S U N c d = true then 1 else 0) ≤ w' c
    by_cases h : wa_S U N c d = true
    · rw [if_pos h]
      have hs : ∀ c, c < N → de_P N U d w' c → 1 ≤ w' c := fun c hc z => by rw [← hw'.2 c hc, de_F1 z]; exact Nat.le_refl 1
      have h2 := wa_min (U := U) (R := fun c j => c < N → j < N ∧ ((1 ≤ w' j → 1 ≤ w' c) ∧ (j = d → 1 ≤ w' c))) (fun c j h hc => ⟨hU c j h, fun z => hs c hc (Or.inr ⟨j, hU c j h, h, z⟩), fun z => hs c hc (Or.inl (z ▸ h))⟩) (fun c j k h1 h2 hc => ⟨(h2 (h1 hc).1).1, fun z => (h1 hc).2.1 ((h2 (h1 hc).1).2.1 z), fun z => (h1 hc).2.1 ((h2 (h1 hc).1).2.2 z)⟩) N c d h
      exact (h2 hc).2.2 rfl
    · rw [if_neg h]; exact Nat.zero_le _
