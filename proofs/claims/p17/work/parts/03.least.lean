/-! pure: the least solution of a monotone bounded step, reached from zeros by rounds in place -/
def lf_ok (N T : Nat) (F : (Nat → Nat) → Nat → Nat) : Prop := (∀ w w', (∀ c, c < N → w c ≤ w' c) → ∀ c, c < N → F w c ≤ F w' c) ∧ (∀ w, (∀ c, c < N → w c ≤ T) → ∀ c, c < N → F w c ≤ T)
def lf_sol (N T : Nat) (F : (Nat → Nat) → Nat → Nat) (w : Nat → Nat) : Prop := (∀ c, c < N → w c ≤ T) ∧ ∀ c, c < N → F w c = w c
def lf_pre (N T : Nat) (F : (Nat → Nat) → Nat → Nat) (w : Nat → Nat) : Prop := (∀ c, c < N → w c ≤ T) ∧ ∀ c, c < N → F w c ≤ w c
theorem lf_sp {N T : Nat} {F : (Nat → Nat) → Nat → Nat} {w : Nat → Nat} (h : lf_sol N T F w) : lf_pre N T F w := ⟨h.1, fun c hc => Nat.le_of_eq (h.2 c hc)⟩
def lf_least (N T : Nat) (F : (Nat → Nat) → Nat → Nat) (w : Nat → Nat) : Prop := lf_sol N T F w ∧ ∀ w', lf_pre N T F w' → ∀ c, c < N → w c ≤ w' c
theorem lf_uniq {N T : Nat} {F : (Nat → Nat) → Nat → Nat} {w w' : Nat → Nat} (h : lf_least N T F w) (h' : lf_least N T F w') : ∀ c, c < N → w c = w' c := fun c hc => Nat.le_antisymm (h.2 w' (lf_sp h'.1) c hc) (h'.2 w (lf_sp h.1) c hc)
/-- within, rising, below every solution -/
def lf_inv (N T : Nat) (F : (Nat → Nat) → Nat → Nat) (w : Nat → Nat) : Prop := (∀ c, c < N → w c ≤ T) ∧ (∀ c, c < N → w c ≤ F w c) ∧ ∀ w', lf_pre N T F w' → ∀ c, c < N → w c ≤ w' c
theorem lf_inv0 {N T : Nat} {F : (Nat → Nat) → Nat → Nat} {w : Nat → Nat} (h : ∀ c, c < N → w c = 0) : lf_inv N T F w := ⟨fun c hc => by rw [h c hc]; exact Nat.zero_le _, fun c hc => by rw [h c hc]; exact Nat.zero_le _, fun _ _ c hc => by rw [h c hc]; exact Nat.zero_le _⟩
theorem lf_step {N T : Nat} {F : (Nat → Nat) → Nat → Nat} {w : Nat → Nat} (ok : lf_ok N T F) (h : lf_inv N T F w) {c : Nat} (hc : c < N) : lf_inv N T F (ls_up w c (F w c)) := by
  have hle : ∀ d, d < N → w d ≤ ls_up w c (F w c) d := by
    intro d hd
    by_cases e : d = c
    · rw [e, ls_us]; exact h.2.1 c hc
    · rw [ls_un e]; exact Nat.le_refl _
  refine ⟨fun d hd => ?_, fun d hd => ?_, fun w' hs d hd => ?_⟩
  · by_cases e : d = c
    · rw [e, ls_us]; exact ok.2 w h.1 c hc
    · rw [ls_un e]; exact h.1 d hd
  · by_cases e : d = c
    · subst e
      exact Nat.le_trans (Nat.le_of_eq ls_us) (ok.1 _ _ hle d hd)
    · exact Nat.le_trans (Nat.le_trans (Nat.le_of_eq (ls_un e)) (h.2.1 d hd)) (ok.1 _ _ hle d hd)
  · by_cases e : d = c
    · rw [e, ls_us]; exact Nat.le_trans (ok.1 _ _ (h.2.2 w' hs) c hc) (hs.2 c hc)
    · rw [ls_un e]; exact h.2.2 w' hs d hd
theorem lf_end {N T : Nat} {F : (Nat → Nat) → Nat → Nat} {w : Nat → Nat} (h : lf_inv N T F w) (e : ∀ c, c < N → F w c = w c) : lf_least N T F w := ⟨⟨h.1, e⟩, h.2.2⟩
def lf_sum (w : Nat → Nat) : Nat → Nat
  | 0 => 0
  | n + 1 => lf_sum w n + w n
theorem lf_sum_le {w w' : Nat → Nat} : ∀ n, (∀ c, c < n → w c ≤ w' c) → lf_sum w n ≤ lf_sum w' n
  | 0, _ => Nat.le_refl 0
  | n + 1, h => Nat.add_le_add (lf_sum_le n (fun c hc => h c (by omega))) (h n (by omega))
theorem lf_sum_lt {w w' : Nat → Nat} : ∀ n, (∀ c, c < n → w c ≤ w' c) → (∃ c, c < n ∧ w c < w' c) → lf_sum w n < lf_sum w' n
  | 0, _, h => by obtain ⟨c, hc, _⟩ := h; omega
  | n + 1, h, ⟨c, hc, hlt⟩ => by
    have h1 := lf_sum_le n (fun c hc => h c (by omega))
    have h2 := h n (by omega)
    show lf_sum w n + w n < lf_sum w' n + w' n
    by_cases e : c = n
    · subst e; omega
    · have := lf_sum_lt n (fun c hc => h c (by omega)) ⟨c, by omega, hlt⟩
      omega
theorem lf_sum_T {w : Nat → Nat} {T : Nat} : ∀ n, (∀ c, c < n → w c ≤ T) → lf_sum w n ≤ n * T
  | 0, _ => Nat.zero_le _
  | n + 1, h => by
    have h1 := lf_sum_T n (fun c hc => h c (by omega))
    have h2 := h n (by omega)
    show lf_sum w n + w n ≤ (n + 1) * T
    rw [Nat.succ_mul]
    omega
theorem lf_sum_top {w : Nat → Nat} {T : Nat} : ∀ n, (∀ c, c < n → w c ≤ T) → n * T ≤ lf_sum w n → ∀ c, c < n → w c = T
  | 0, _, _, c, hc => absurd hc (Nat.not_lt_zero c)
  | n + 1, h, hs, c, hc => by
    have h1 := lf_sum_T n (fun c hc => h c (by omega))
    have h2 := h n (by omega)
    have hs' : (n + 1) * T ≤ lf_sum w n + w n := hs
    rw [Nat.succ_mul] at hs'
    by_cases e : c = n
    · subst e; omega
    · exact lf_sum_top n (fun c hc => h c (by omega)) (by omega) c (by omega)
theorem lf_full {N T : Nat} {F : (Nat → Nat) → Nat → Nat} {w : Nat → Nat} (ok : lf_ok N T F) (h : lf_inv N T F w) (hs : N * T ≤ lf_sum w N) : lf_least N T F w := by
  have e := lf_sum_top N h.1 hs
  refine lf_end h (fun c hc => Nat.le_antisymm ?_ (h.2.1 c hc))
  rw [e c hc]
  exact ok.2 w h.1 c hc
