/-! pure: rounds of any kind reach the least solution -/
theorem lf_congr {N T : Nat} {F : (Nat → Nat) → Nat → Nat} (ok : lf_ok N T F) {w w' : Nat → Nat} (h : ∀ c, c < N → w c = w' c) : ∀ c, c < N → F w c = F w' c := fun c hc => Nat.le_antisymm (ok.1 w w' (fun d hd => Nat.le_of_eq (h d hd)) c hc) (ok.1 w' w (fun d hd => Nat.le_of_eq (h d hd).symm) c hc)
theorem lf_sol_congr {N T : Nat} {F : (Nat → Nat) → Nat → Nat} (ok : lf_ok N T F) {w w' : Nat → Nat} (h : ∀ c, c < N → w c = w' c) (s : ∀ c, c < N → F w c = w c) : ∀ c, c < N → F w' c = w' c := fun c hc => by rw [← lf_congr ok h c hc, s c hc, h c hc]
/-- after k rounds: the sum is k at least, or a solution is reached -/
def lf_R (N T : Nat) (F : (Nat → Nat) → Nat → Nat) (k : Nat) (w : Nat → Nat) : Prop := lf_inv N T F w ∧ (k ≤ lf_sum w N ∨ ∀ c, c < N → F w c = w c)
theorem lf_R0 {N T : Nat} {F : (Nat → Nat) → Nat → Nat} {w : Nat → Nat} (h : lf_inv N T F w) : lf_R N T F 0 w := ⟨h, Or.inl (Nat.zero_le _)⟩
theorem lf_round {N T : Nat} {F : (Nat → Nat) → Nat → Nat} (ok : lf_ok N T F) {k : Nat} {w w' : Nat → Nat} (h : lf_R N T F k w) (h' : lf_inv N T F w') (hF : ∀ c, c < N → F w c ≤ w' c) : lf_R N T F (k + 1) w' := by
  have hle : ∀ c, c < N → w c ≤ w' c := fun c hc => Nat.le_trans (h.1.2.1 c hc) (hF c hc)
  refine ⟨h', ?_⟩
  by_cases e : ∀ c, c < N → F w c = w c
  · exact Or.inr (lf_sol_congr ok (fun c hc => Nat.le_antisymm (hle c hc) (h'.2.2 w (lf_sp ⟨h.1.1, e⟩) c hc)) e)
  · refine Or.inl ?_
    have hs := h.2.resolve_right e
    have hx : ∃ c, c < N ∧ w c < w' c := by
      apply Classical.byContradiction
      intro hn
      apply e
      intro c hc
      have a := h.1.2.1 c hc
      have b := hF c hc
      by_cases l : w c < w' c
      · exact absurd ⟨c, hc, l⟩ hn
      · omega
    have := lf_sum_lt N hle hx
    omega
theorem lf_done {N T : Nat} {F : (Nat → Nat) → Nat → Nat} (ok : lf_ok N T F) {k : Nat} {w : Nat → Nat} (h : lf_R N T F k w) (hk : N * T ≤ k) : lf_least N T F w := h.2.elim (fun s => lf_full ok h.1 (Nat.le_trans hk s)) (fun e => lf_end h.1 e)
theorem lf_least_congr {N T : Nat} {F : (Nat → Nat) → Nat → Nat} (ok : lf_ok N T F) {w w' : Nat → Nat} (h : ∀ c, c < N → w c = w' c) (l : lf_least N T F w) : lf_least N T F w' := ⟨⟨fun c hc => by rw [← h c hc]; exact l.1.1 c hc, lf_sol_congr ok h l.1.2⟩, fun v hv c hc => by rw [← h c hc]; exact l.2 v hv c hc⟩
/-- a step of all cells at once -/
theorem lf_jac {N T : Nat} {F : (Nat → Nat) → Nat → Nat} (ok : lf_ok N T F) {w w' : Nat → Nat} (h : lf_inv N T F w) (e : ∀ c, c < N → w' c = F w c) : lf_inv N T F w' := by
  have hle : ∀ c, c < N → w c ≤ w' c := fun c hc => by rw [e c hc]; exact h.2.1 c hc
  refine ⟨fun c hc => ?_, fun c hc => ?_, fun v hv c hc => ?_⟩
  · rw [e c hc]; exact ok.2 w h.1 c hc
  · rw [e c hc]; exact ok.1 _ _ hle c hc
  · rw [e c hc]; exact Nat.le_trans (ok.1 _ _ (h.2.2 v hv) c hc) (hv.2 c hc)
/-! the formulas' step -/
def ls_kd (t : Nat → Nat) (c : Nat) : Nat → Nat := fun i => t (8 * c + i) / 100
def ls_ar (t : Nat → Nat) (c : Nat) : Nat → Nat := fun i => t (8 * c + i) % 100
def ls_F (T : Nat) (t l : Nat → Nat) (w : Nat → Nat) (c : Nat) : Nat := ls_ev T w (ls_kd t c) (ls_ar t c) (l c)
def ls_all (N T : Nat) (t l : Nat → Nat) : Prop := ∀ c, c < N → ls_wf N T (l c) (ls_kd t c) (ls_ar t c)
theorem ls_F_ok {N T : Nat} {t l : Nat → Nat} (h : ls_all N T t l) : lf_ok N T (ls_F T t l) := ⟨fun _ _ hw c hc => ls_ev_mono (h c hc) hw, fun _ hw c hc => ls_ev_le (h c hc) hw⟩
