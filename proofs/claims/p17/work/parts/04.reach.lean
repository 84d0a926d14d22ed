/-! pure: Warshall by stages gives the least transitive relation above the uses -/
def wa_S (U : Nat → Nat → Bool) : Nat → Nat → Nat → Bool
  | 0 => U
  | k + 1 => fun c d => wa_S U k c d || (wa_S U k c k && wa_S U k k d)
theorem wa_s {U : Nat → Nat → Bool} {k c d : Nat} : wa_S U (k + 1) c d = true ↔ wa_S U k c d = true ∨ (wa_S U k c k = true ∧ wa_S U k k d = true) := by
  show (wa_S U k c d || (wa_S U k c k && wa_S U k k d)) = true ↔ _
  rw [Bool.or_eq_true, Bool.and_eq_true]
theorem wa_up {U : Nat → Nat → Bool} {c d : Nat} (h : U c d = true) : ∀ k, wa_S U k c d = true
  | 0 => h
  | k + 1 => wa_s.mpr (Or.inl (wa_up h k))
theorem wa_tr {U : Nat → Nat → Bool} : ∀ k c j d, j < k → wa_S U k c j = true → wa_S U k j d = true → wa_S U k c d = true
  | 0, _, j, _, h, _, _ => absurd h (Nat.not_lt_zero j)
  | k + 1, c, j, d, h, h1, h2 => by
    rw [wa_s] at h1 h2 ⊢
    by_cases e : j = k
    · subst e
      have a : wa_S U j c j = true := h1.elim id (fun z => z.1)
      have b : wa_S U j j d = true := h2.elim id (fun z => z.2)
      exact Or.inr ⟨a, b⟩
    · have hj : j < k := by omega
      rcases h1 with h1 | ⟨h1, h1'⟩
      · rcases h2 with h2 | ⟨h2, h2'⟩
        · exact Or.inl (wa_tr k c j d hj h1 h2)
        · exact Or.inr ⟨wa_tr k c j k hj h1 h2, h2'⟩
      · rcases h2 with h2 | ⟨h2, h2'⟩
        · exact Or.inr ⟨h1, wa_tr k k j d hj h1' h2⟩
        · exact Or.inr ⟨h1, h2'⟩
theorem wa_min {U : Nat → Nat → Bool} {R : Nat → Nat → Prop} (hU : ∀ c d, U c d = true → R c d) (hR : ∀ c j d, R c j → R j d → R c d) : ∀ k c d, wa_S U k c d = true → R c d
  | 0, c, d, h => hU c d h
  | k + 1, c, d, h => by
    rcases wa_s.mp h with h | ⟨h, h'⟩
    · exact wa_min hU hR k c d h
    · exact hR c k d (wa_min hU hR k c k h) (wa_min hU hR k k d h')
