/-! pure: leader, rank, key, place -/
def or_b (b : Bool) : Nat := if b = true then 1 else 0
def or_cnt (p : Nat → Bool) : Nat → Nat := lf_sum (fun d => or_b (p d))
theorem or_cnt0 (p : Nat → Bool) : or_cnt p 0 = 0 := rfl
theorem or_cnt1 {p : Nat → Bool} {n : Nat} (h : p n = true) : or_cnt p (n + 1) = or_cnt p n + 1 := by
  show or_cnt p n + or_b (p n) = _
  rw [h]; rfl
theorem or_cntF {p : Nat → Bool} {n : Nat} (h : p n = false) : or_cnt p (n + 1) = or_cnt p n := by
  show or_cnt p n + or_b (p n) = _
  rw [h]; rfl
theorem or_b_le (b : Bool) : or_b b ≤ 1 := by cases b <;> decide
theorem or_cnt_le (p : Nat → Bool) (n : Nat) : or_cnt p n ≤ n := by
  have := lf_sum_T (w := fun d => or_b (p d)) (T := 1) n (fun c _ => or_b_le (p c))
  rw [Nat.mul_one] at this
  exact this
theorem or_cnt_mono {p q : Nat → Bool} {n : Nat} (h : ∀ d, d < n → p d = true → q d = true) {c : Nat} (hc : c < n) (h1 : p c = false) (h2 : q c = true) : or_cnt p n < or_cnt q n := by
  refine lf_sum_lt n (fun d hd => ?_) ⟨c, hc, ?_⟩
  · show or_b (p d) ≤ or_b (q d)
    cases e : p d
    · exact Nat.zero_le _
    · rw [h d hd e]; exact Nat.le_refl _
  · show or_b (p c) < or_b (q c)
    rw [h1, h2]; decide
theorem or_ones : ∀ n, or_cnt (fun _ => true) n = n
  | 0 => rfl
  | n + 1 => by rw [or_cnt1 rfl, or_ones n]
def or_ldf (D : Nat → Nat → Bool) (c : Nat) : Nat → Nat → Nat
  | 0, d => d
  | m + 1, d => if (D c d && D d c) = true then d else or_ldf D c m (d + 1)
def or_ld (D : Nat → Nat → Bool) (c : Nat) : Nat := or_ldf D c c 0
theorem or_ldf_le (D : Nat → Nat → Bool) (c : Nat) : ∀ m d, or_ldf D c m d ≤ d + m
  | 0, d => Nat.le_refl d
  | m + 1, d => by
    show (if (D c d && D d c) = true then d else or_ldf D c m (d + 1)) ≤ d + (m + 1)
    have := or_ldf_le D c m (d + 1)
    split <;> omega
theorem or_ld_le (D : Nat → Nat → Bool) (c : Nat) : or_ld D c ≤ c := by
  have := or_ldf_le D c c 0
  unfold or_ld
  omega
theorem or_ldf_congr {D D' : Nat → Nat → Bool} {c : Nat} : ∀ m d, (∀ e, e < d + m → D c e = D' c e ∧ D e c = D' e c) → or_ldf D c m d = or_ldf D' c m d
  | 0, _, _ => rfl
  | m + 1, d, h => by
    have ⟨a, b⟩ := h d (by omega)
    show (if (D c d && D d c) = true then d else or_ldf D c m (d + 1)) = (if (D' c d && D' d c) = true then d else or_ldf D' c m (d + 1))
    rw [a, b, or_ldf_congr m (d + 1) (fun e he => h e (by omega))]
def or_rp (D : Nat → Nat → Bool) (c : Nat) : Nat → Bool := fun d => D c d && !D d c
def or_rk (N : Nat) (D : Nat → Nat → Bool) (c : Nat) : Nat := or_cnt (or_rp D c) N
def or_key (N : Nat) (D : Nat → Nat → Bool) (c : Nat) : Nat := (or_rk N D c * 12 + or_ld D c) * 12 + c
def or_pp (N : Nat) (D : Nat → Nat → Bool) (c : Nat) : Nat → Bool := fun d => decide (or_key N D d < or_key N D c)
def or_pl (N : Nat) (D : Nat → Nat → Bool) (c : Nat) : Nat := or_cnt (or_pp N D c) N
theorem or_key_inj {N : Nat} {D : Nat → Nat → Bool} {c d : Nat} (hc : c < 12) (hd : d < 12) (h : or_key N D c = or_key N D d) : c = d := by
  unfold or_key at h
  omega
theorem or_pl_lt {N : Nat} (D : Nat → Nat → Bool) {c : Nat} (hc : c < N) : or_pl N D c < N := by
  have := or_cnt_mono (p := or_pp N D c) (q := fun _ => true) (n := N) (fun _ _ _ => rfl) hc (decide_eq_false (Nat.lt_irrefl _)) rfl
  rw [or_ones] at this
  exact this
theorem or_pl_mono {N : Nat} {D : Nat → Nat → Bool} {c d : Nat} (hc : c < N) (h : or_key N D c < or_key N D d) : or_pl N D c < or_pl N D d :=
  or_cnt_mono (fun e _ he => decide_eq_true (Nat.lt_trans (of_decide_eq_true he) h)) hc (decide_eq_false (Nat.lt_irrefl _)) (decide_eq_true h)
theorem or_pl_inj {N : Nat} {D : Nat → Nat → Bool} (hN : N ≤ 12) {c d : Nat} (hc : c < N) (hd : d < N) (h : or_pl N D c = or_pl N D d) : c = d := by
  rcases Nat.lt_trichotomy (or_key N D c) (or_key N D d) with k | k | k
  · have := or_pl_mono hc k; omega
  · exact or_key_inj (by omega) (by omega) k
  · have := or_pl_mono hd k; omega
/-- an injective map of the first n numbers into themselves takes every value -/
theorem or_pig : ∀ (n : Nat) (f : Nat → Nat), (∀ i, i < n → f i < n) → (∀ i j, i < n → j < n → f i = f j → i = j) → ∀ p, p < n → ∃ i, i < n ∧ f i = p
  | 0, _, _, _, p, hp => absurd hp (Nat.not_lt_zero p)
  | n + 1, f, hf, hi, p, hp => by
    by_cases e : f n = p
    · exact ⟨n, by omega, e⟩
    · have hg : ∀ i, i < n → (if f i = n then f n else f i) < n := by
        intro i h
        have a := hf i (by omega)
        have b := hf n (by omega)
        by_cases z : f i = n
        · rw [if_pos z]
          have : f n ≠ n := fun y => by have := hi i n (by omega) (by omega) (by omega); omega
          omega
        · rw [if_neg z]; omega
      have hj : ∀ i j, i < n → j < n → (if f i = n then f n else f i) = (if f j = n then f n else f j) → i = j := by
        intro i j h1 h2 h3
        by_cases z : f i = n
        · by_cases y : f j = n
          · exact hi i j (by omega) (by omega) (by omega)
          · rw [if_pos z, if_neg y] at h3
            have := hi n j (by omega) (by omega) h3
            omega
        · by_cases y : f j = n
          · rw [if_neg z, if_pos y] at h3
            have := hi i n (by omega) (by omega) h3
            omega
          · rw [if_neg z, if_neg y] at h3
            exact hi i j (by omega) (by omega) h3
      by_cases hpn : p = n
      · have hv : f n < n := by have := hf n (by omega); omega
        obtain ⟨i, h1, h2⟩ := or_pig n (fun i => if f i = n then f n else f i) hg hj (f n) hv
        have h2' : (if f i = n then f n else f i) = f n := h2
        by_cases z : f i = n
        · exact ⟨i, by omega, by omega⟩
        · rw [if_neg z] at h2'
          have := hi i n (by omega) (by omega) h2'
          omega
      · obtain ⟨i, h1, h2⟩ := or_pig n (fun i => if f i = n then f n else f i) hg hj p (by omega)
        have h2' : (if f i = n then f n else f i) = p := h2
        by_cases z : f i = n
        · rw [if_pos z] at h2'; exact absurd h2' e
        · rw [if_neg z] at h2'; exact ⟨i, by omega, h2'⟩
theorem or_pl_sur {N : Nat} {D : Nat → Nat → Bool} (hN : N ≤ 12) {p : Nat} (hp : p < N) : ∃ c, c < N ∧ or_pl N D c = p :=
  or_pig N (or_pl N D) (fun _ h => or_pl_lt D h) (fun _ _ h1 h2 h => or_pl_inj hN h1 h2 h) p hp
