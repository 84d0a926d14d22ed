/-! pure: a formula is kinds kd and arguments ar of n tokens; its depth, its stack, its result -/
def ls_up (f : Nat → Nat) (k x : Nat) : Nat → Nat := fun j => if j = k then x else f j
theorem ls_us {f : Nat → Nat} {k x : Nat} : ls_up f k x k = x := if_pos rfl
theorem ls_un {f : Nat → Nat} {k j x : Nat} (h : j ≠ k) : ls_up f k x j = f j := if_neg h
def ls_cmb (T k a x y : Nat) : Nat :=
  if k = 2 then (if x < y then x else y)
  else if k = 3 then (if y < x then x else y)
  else if k = 4 then (if T < x + y then T else x + y)
  else (if a ≤ x then y else 0)
theorem ls_cmb_le {T k a x y : Nat} (hx : x ≤ T) (hy : y ≤ T) : ls_cmb T k a x y ≤ T := by
  unfold ls_cmb
  repeat' split
  all_goals omega
theorem ls_cmb_mono {T k a x y x' y' : Nat} (hx : x ≤ x') (hy : y ≤ y') : ls_cmb T k a x y ≤ ls_cmb T k a x' y' := by
  unfold ls_cmb
  by_cases h2 : k = 2
  · rw [if_pos h2, if_pos h2]; split <;> split <;> omega
  rw [if_neg h2, if_neg h2]
  by_cases h3 : k = 3
  · rw [if_pos h3, if_pos h3]; split <;> split <;> omega
  rw [if_neg h3, if_neg h3]
  by_cases h4 : k = 4
  · rw [if_pos h4, if_pos h4]; split <;> split <;> omega
  rw [if_neg h4, if_neg h4]
  split <;> split <;> omega
def ls_dp (kd : Nat → Nat) : Nat → Nat
  | 0 => 0
  | i + 1 => if kd i < 2 then ls_dp kd i + 1 else ls_dp kd i - 1
theorem ls_dp_a {kd : Nat → Nat} {i : Nat} (h : kd i < 2) : ls_dp kd (i + 1) = ls_dp kd i + 1 := if_pos h
theorem ls_dp_b {kd : Nat → Nat} {i : Nat} (h : ¬ kd i < 2) : ls_dp kd (i + 1) = ls_dp kd i - 1 := if_neg h
theorem ls_dp_le (kd : Nat → Nat) : ∀ i, ls_dp kd i ≤ i
  | 0 => Nat.le_refl 0
  | i + 1 => by
    have := ls_dp_le kd i
    by_cases h : kd i < 2
    · rw [ls_dp_a h]; omega
    · rw [ls_dp_b h]; omega
theorem ls_dp_congr {kd kd' : Nat → Nat} : ∀ n, (∀ i, i < n → kd i = kd' i) → ls_dp kd n = ls_dp kd' n
  | 0, _ => rfl
  | n + 1, h => by
    have e := ls_dp_congr n (fun i hi => h i (by omega))
    have e2 := h n (by omega)
    by_cases hk : kd n < 2
    · rw [ls_dp_a hk, ls_dp_a (e2 ▸ hk), e]
    · rw [ls_dp_b hk, ls_dp_b (e2 ▸ hk), e]
def ls_st (T : Nat) (w kd ar : Nat → Nat) : Nat → Nat → Nat
  | 0 => fun _ => 0
  | i + 1 => if kd i < 2 then ls_up (ls_st T w kd ar i) (ls_dp kd i) (if kd i = 1 then w (ar i) else ar i)
    else ls_up (ls_st T w kd ar i) (ls_dp kd i - 2) (ls_cmb T (kd i) (ar i) (ls_st T w kd ar i (ls_dp kd i - 2)) (ls_st T w kd ar i (ls_dp kd i - 1)))
theorem ls_st_a {T : Nat} {w kd ar : Nat → Nat} {i : Nat} (h : kd i < 2) : ls_st T w kd ar (i + 1) = ls_up (ls_st T w kd ar i) (ls_dp kd i) (if kd i = 1 then w (ar i) else ar i) := if_pos h
theorem ls_st_b {T : Nat} {w kd ar : Nat → Nat} {i : Nat} (h : ¬ kd i < 2) : ls_st T w kd ar (i + 1) = ls_up (ls_st T w kd ar i) (ls_dp kd i - 2) (ls_cmb T (kd i) (ar i) (ls_st T w kd ar i (ls_dp kd i - 2)) (ls_st T w kd ar i (ls_dp kd i - 1))) := if_neg h
def ls_tok (N T k a : Nat) : Prop := k ≤ 5 ∧ (k = 0 → a ≤ T) ∧ (k = 1 → a < N) ∧ (2 ≤ k → k < 5 → a = 0) ∧ (k = 5 → 1 ≤ a ∧ a ≤ T)
/-- a list of tokens that never runs short -/
def ls_dr (N T n : Nat) (kd ar : Nat → Nat) : Prop := n ≤ 8 ∧ ∀ i, i < n → ls_tok N T (kd i) (ar i) ∧ (2 ≤ kd i → 2 ≤ ls_dp kd i)
/-- a formula -/
def ls_wf (N T n : Nat) (kd ar : Nat → Nat) : Prop := ls_dr N T n kd ar ∧ ls_dp kd n = 1
theorem ls_wf_pos {N T n : Nat} {kd ar : Nat → Nat} (h : ls_wf N T n kd ar) : 1 ≤ n := by
  have h1 := h.2
  have h2 := ls_dp_le kd n
  omega
theorem ls_st_le {N T n : Nat} {w kd ar : Nat → Nat} (h : ls_dr N T n kd ar) (hw : ∀ c, c < N → w c ≤ T) : ∀ i, i ≤ n → ∀ j, j < ls_dp kd i → ls_st T w kd ar i j ≤ T := by
  intro i
  induction i with
  | zero => intro _ j hj; exact absurd hj (Nat.not_lt_zero j)
  | succ i ih =>
    intro hi j hj
    have ih' := ih (by omega)
    have ⟨ht, hs⟩ := h.2 i (by omega)
    by_cases hk : kd i < 2
    · rw [ls_st_a hk]
      rw [ls_dp_a hk] at hj
      by_cases e : j = ls_dp kd i
      · rw [e, ls_us]
        by_cases h1 : kd i = 1
        · rw [if_pos h1]; exact hw _ (ht.2.2.1 h1)
        · rw [if_neg h1]; exact ht.2.1 (by omega)
      · rw [ls_un e]; exact ih' j (by omega)
    · rw [ls_st_b hk]
      rw [ls_dp_b hk] at hj
      have h2 := hs (by omega)
      by_cases e : j = ls_dp kd i - 2
      · rw [e, ls_us]; exact ls_cmb_le (ih' _ (by omega)) (ih' _ (by omega))
      · rw [ls_un e]; exact ih' j (by omega)
theorem ls_st_mono {N T n : Nat} {w w' kd ar : Nat → Nat} (h : ls_dr N T n kd ar) (hw : ∀ c, c < N → w c ≤ w' c) : ∀ i, i ≤ n → ∀ j, j < ls_dp kd i → ls_st T w kd ar i j ≤ ls_st T w' kd ar i j := by
  intro i
  induction i with
  | zero => intro _ j hj; exact absurd hj (Nat.not_lt_zero j)
  | succ i ih =>
    intro hi j hj
    have ih' := ih (by omega)
    have ⟨ht, hs⟩ := h.2 i (by omega)
    by_cases hk : kd i < 2
    · rw [ls_st_a hk, ls_st_a hk]
      rw [ls_dp_a hk] at hj
      by_cases e : j = ls_dp kd i
      · rw [e, ls_us, ls_us]
        by_cases h1 : kd i = 1
        · rw [if_pos h1, if_pos h1]; exact hw _ (ht.2.2.1 h1)
        · rw [if_neg h1, if_neg h1]; exact Nat.le_refl _
      · rw [ls_un e, ls_un e]; exact ih' j (by omega)
    · rw [ls_st_b hk, ls_st_b hk]
      rw [ls_dp_b hk] at hj
      have h2 := hs (by omega)
      by_cases e : j = ls_dp kd i - 2
      · rw [e, ls_us, ls_us]; exact ls_cmb_mono (ih' _ (by omega)) (ih' _ (by omega))
      · rw [ls_un e, ls_un e]; exact ih' j (by omega)
def ls_ev (T : Nat) (w kd ar : Nat → Nat) (n : Nat) : Nat := ls_st T w kd ar n 0
theorem ls_ev_le {N T n : Nat} {w kd ar : Nat → Nat} (h : ls_wf N T n kd ar) (hw : ∀ c, c < N → w c ≤ T) : ls_ev T w kd ar n ≤ T := ls_st_le h.1 hw n (Nat.le_refl n) 0 (by rw [h.2]; exact Nat.one_pos)
theorem ls_ev_mono {N T n : Nat} {w w' kd ar : Nat → Nat} (h : ls_wf N T n kd ar) (hw : ∀ c, c < N → w c ≤ w' c) : ls_ev T w kd ar n ≤ ls_ev T w' kd ar n := ls_st_mono h.1 hw n (Nat.le_refl n) 0 (by rw [h.2]; exact Nat.one_pos)
