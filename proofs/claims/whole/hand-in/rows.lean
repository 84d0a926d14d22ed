section
/-! rows of kit/rows, as given for pasting -/
theorem pk_us {f : Nat → Int32} {k : Nat} {x : Int32} : upd f k x k = x := if_pos rfl
theorem pk_un {f : Nat → Int32} {k j : Nat} {x : Int32} (h : j ≠ k) : upd f k x j = f j := if_neg h
theorem pk_sub {a b : Nat} (h : b ≤ a) : nI a - nI b = nI (a - b) := by
  obtain ⟨c, rfl⟩ : ∃ c, a = c + b := ⟨a - b, by omega⟩
  rw [← nI_add, Int32.add_sub_cancel, Nat.add_sub_cancel]
theorem pk_m1 (n : Nat) : nI (n + 1) + (-1) = nI n := by
  rw [← nI_1, Int32.add_assoc, show (1 : Int32) + (-1) = 0 from rfl, Int32.add_zero]
theorem pk_mul (a b : Nat) : nI a * nI b = nI (a * b) := (Int32.ofNat_mul a b).symm
theorem pk_div {a d : Nat} (ha : a < 2 ^ 31) (h0 : 0 < d) (hd : d < 2 ^ 31) : nI a / nI d = nI (a / d) := by
  apply Int32.toInt_inj.mp
  rw [lg_idiv_nonneg (by rw [nI_toInt ha]; omega) (by rw [nI_toInt hd]; omega), nI_toInt ha, nI_toInt hd, nI_toInt (Nat.lt_of_le_of_lt (Nat.div_le_self a d) ha)]
  first | rfl | exact (Int.natCast_ediv _ _).symm
theorem pk_rem {a d : Nat} (ha : a < 2 ^ 31) (h0 : 0 < d) (hd : d < 2 ^ 31) : nI a - nI a / nI d * nI d = nI (a % d) := by
  rw [pk_div ha h0 hd, pk_mul, pk_sub (Nat.div_mul_le_self a d)]
  exact congrArg nI (by have := Nat.div_add_mod' a d; omega)
theorem pk_ix (x : Int32) {n : Nat} (hn : n < 2 ^ 31) : x < 0 ∨ nI n ≤ x ∨ ∃ j : Nat, j < n ∧ x = nI j := by
  by_cases h : x < 0
  · exact Or.inl h
  · obtain ⟨j, hj, rfl⟩ := nI_of h
    by_cases h2 : j < n
    · exact Or.inr (Or.inr ⟨j, h2, rfl⟩)
    · exact Or.inr (Or.inl (nI_le (by omega) hj))
theorem pk_le {x y : Int32} {A B : Prop} (a b : Nat) (f : a ≤ b → A) (g : b < a → B) (hx : x = nI a := by rfl) (hy : y = nI b := by rfl) (ha : a < 2 ^ 31 := by omega) (hb : b < 2 ^ 31 := by omega) : (x ≤ y → A) ∧ (¬ x ≤ y → B) := by
  subst hx hy
  rw [nI_leI ha hb]
  exact ⟨f, fun z => g (by omega)⟩
theorem pk_lt {x y : Int32} {A B : Prop} (a b : Nat) (f : a < b → A) (g : b ≤ a → B) (hx : x = nI a := by rfl) (hy : y = nI b := by rfl) (ha : a < 2 ^ 31 := by omega) (hb : b < 2 ^ 31 := by omega) : (x < y → A) ∧ (¬ x < y → B) := by
  subst hx hy
  rw [nI_ltI ha hb]
  exact ⟨f, fun z => g (by omega)⟩
theorem pk_eq {x y : Int32} {A B : Prop} (a b : Nat) (f : a = b → A) (g : a ≠ b → B) (hx : x = nI a := by rfl) (hy : y = nI b := by rfl) (ha : a < 2 ^ 31 := by omega) (hb : b < 2 ^ 31 := by omega) : (x = y → A) ∧ (¬ x = y → B) := by
  subst hx hy
  rw [nI_eq ha hb]
  exact ⟨f, g⟩
theorem pk_in {x : Int32} (n N : Nat) (h : n < N) (hx : x = nI n := by rfl) (hN : N < 2 ^ 31 := by omega) : vp_in x N := by
  subst hx
  exact vp_in_nI h hN
theorem pk_cl {x : Int32} (n : Nat) (hx : x = nI n := by rfl) (h : n < 2 ^ 31 := by omega) : x.toNatClampNeg = n := by
  subst hx
  exact nI_clamp h
theorem pk_tn {n : Nat} (h : n < 2 ^ 32) : (nI n).toBitVec.toNat = n := Nat.mod_eq_of_lt h
def bt (x : Int32) (i : Nat) : Bool := x.toBitVec.getLsbD i
theorem b_ext {x y : Int32} (h : ∀ i, i < 32 → bt x i = bt y i) : x = y := Int32.toBitVec_inj.mp (BitVec.eq_of_getLsbD_eq (fun i hi => h i hi))
theorem b_or (x y : Int32) (i : Nat) : bt (x ||| y) i = (bt x i || bt y i) := by unfold bt; rw [Int32.toBitVec_or, BitVec.getLsbD_or]
theorem b_and (x y : Int32) (i : Nat) : bt (x &&& y) i = (bt x i && bt y i) := by unfold bt; rw [Int32.toBitVec_and, BitVec.getLsbD_and]
theorem b_big {x : Int32} {i : Nat} (h : 32 ≤ i) : bt x i = false := BitVec.getLsbD_of_ge _ _ h
theorem b_0 (i : Nat) : bt 0 i = false := BitVec.getLsbD_zero
theorem s_l : ∀ n, n < 32 → ((nI n &&& 31).toBitVec.smod 32).toNat = n := by decide +kernel
theorem b_shl (n : Nat) (hn : n < 32) (x : Int32) {i : Nat} (hi : i < 32) : bt (x <<< (nI n &&& 31)) i = (decide (n ≤ i) && bt x (i - n)) := by
  unfold bt
  rw [Int32.toBitVec_shiftLeft]
  show (x.toBitVec <<< ((nI n &&& 31).toBitVec.smod 32).toNat).getLsbD i = _
  rw [s_l n hn, BitVec.getLsbD_shiftLeft]
  rcases Nat.lt_or_ge i n with h | h
  · simp [h, Nat.not_le.mpr h]
  · simp [hi, h, Nat.not_lt.mpr h]
theorem b_sshr (n : Nat) (hn : n < 32) (x : Int32) {i : Nat} (hi : i < 32) : bt (x >>> (nI n &&& 31)) i = if n + i < 32 then bt x (n + i) else bt x 31 := by
  unfold bt
  rw [Int32.toBitVec_shiftRight]
  show (x.toBitVec.sshiftRight ((nI n &&& 31).toBitVec.smod 32).toNat).getLsbD i = _
  rw [s_l n hn, BitVec.getLsbD_sshiftRight, BitVec.msb_eq_getLsbD_last]
  simp [hi]
end
section
/-! pure: a formula is kinds kd and arguments ar of n tokens; its depth, its stack, its result -/
def ls_up (f : Nat → Nat) (k x : Nat) : Nat → Nat := fun j => if j = k then x else f j
theorem ls_us {f : Nat → Nat} {k x : Nat} : ls_up f k x k = x := if_pos rfl
theorem ls_un {f : Nat → Nat} {k j x : Nat} (h : j ≠ k) : ls_up f k x j = f j := if_neg h
def ls_cmb (T k a x y : Nat) : Nat :=
  if k = 2 then (if x < y then x else y)
  else if k = 3 then (if y < x then x else y)
  else if k = 4 then (if T < x + y then T else x + y)
  else (if a ≤ x then y else 0)
theorem ls_cmb_le {T k a x y : Nat} (hx : x ≤ T) (hy : y ≤ T) : ls_cmb T k a x y ≤ T := by
  unfold ls_cmb
  repeat' split
  all_goals omega
theorem ls_cmb_mono {T k a x y x' y' : Nat} (hx : x ≤ x') (hy : y ≤ y') : ls_cmb T k a x y ≤ ls_cmb T k a x' y' := by
  unfold ls_cmb
  by_cases h2 : k = 2
  · rw [if_pos h2, if_pos h2]; split <;> split <;> omega
  rw [if_neg h2, if_neg h2]
  by_cases h3 : k = 3
  · rw [if_pos h3, if_pos h3]; split <;> split <;> omega
  rw [if_neg h3, if_neg h3]
  by_cases h4 : k = 4
  · rw [if_pos h4, if_pos h4]; split <;> split <;> omega
  rw [if_neg h4, if_neg h4]
  split <;> split <;> omega
def ls_dp (kd : Nat → Nat) : Nat → Nat
  | 0 => 0
  | i + 1 => if kd i < 2 then ls_dp kd i + 1 else ls_dp kd i - 1
theorem ls_dp_a {kd : Nat → Nat} {i : Nat} (h : kd i < 2) : ls_dp kd (i + 1) = ls_dp kd i + 1 := if_pos h
theorem ls_dp_b {kd : Nat → Nat} {i : Nat} (h : ¬ kd i < 2) : ls_dp kd (i + 1) = ls_dp kd i - 1 := if_neg h
theorem ls_dp_le (kd : Nat → Nat) : ∀ i, ls_dp kd i ≤ i
  | 0 => Nat.le_refl 0
  | i + 1 => by
    have := ls_dp_le kd i
    by_cases h : kd i < 2
    · rw [ls_dp_a h]; omega
    · rw [ls_dp_b h]; omega
theorem ls_dp_congr {kd kd' : Nat → Nat} : ∀ n, (∀ i, i < n → kd i = kd' i) → ls_dp kd n = ls_dp kd' n
  | 0, _ => rfl
  | n + 1, h => by
    have e := ls_dp_congr n (fun i hi => h i (by omega))
    have e2 := h n (by omega)
    by_cases hk : kd n < 2
    · rw [ls_dp_a hk, ls_dp_a (e2 ▸ hk), e]
    · rw [ls_dp_b hk, ls_dp_b (e2 ▸ hk), e]
def ls_st (T : Nat) (w kd ar : Nat → Nat) : Nat → Nat → Nat
  | 0 => fun _ => 0
  | i + 1 => if kd i < 2 then ls_up (ls_st T w kd ar i) (ls_dp kd i) (if kd i = 1 then w (ar i) else ar i)
    else ls_up (ls_st T w kd ar i) (ls_dp kd i - 2) (ls_cmb T (kd i) (ar i) (ls_st T w kd ar i (ls_dp kd i - 2)) (ls_st T w kd ar i (ls_dp kd i - 1)))
theorem ls_st_a {T : Nat} {w kd ar : Nat → Nat} {i : Nat} (h : kd i < 2) : ls_st T w kd ar (i + 1) = ls_up (ls_st T w kd ar i) (ls_dp kd i) (if kd i = 1 then w (ar i) else ar i) := if_pos h
theorem ls_st_b {T : Nat} {w kd ar : Nat → Nat} {i : Nat} (h : ¬ kd i < 2) : ls_st T w kd ar (i + 1) = ls_up (ls_st T w kd ar i) (ls_dp kd i - 2) (ls_cmb T (kd i) (ar i) (ls_st T w kd ar i (ls_dp kd i - 2)) (ls_st T w kd ar i (ls_dp kd i - 1))) := if_neg h
def ls_tok (N T k a : Nat) : Prop := k ≤ 5 ∧ (k = 0 → a ≤ T) ∧ (k = 1 → a < N) ∧ (2 ≤ k → k < 5 → a = 0) ∧ (k = 5 → 1 ≤ a ∧ a ≤ T)
/-- a list of tokens that never runs short -/
def ls_dr (N T n : Nat) (kd ar : Nat → Nat) : Prop := n ≤ 8 ∧ ∀ i, i < n → ls_tok N T (kd i) (ar i) ∧ (2 ≤ kd i → 2 ≤ ls_dp kd i)
/-- a formula -/
def ls_wf (N T n : Nat) (kd ar : Nat → Nat) : Prop := ls_dr N T n kd ar ∧ ls_dp kd n = 1
theorem ls_wf_pos {N T n : Nat} {kd ar : Nat → Nat} (h : ls_wf N T n kd ar) : 1 ≤ n := by
  have h1 := h.2
  have h2 := ls_dp_le kd n
  omega
theorem ls_st_le {N T n : Nat} {w kd ar : Nat → Nat} (h : ls_dr N T n kd ar) (hw : ∀ c, c < N → w c ≤ T) : ∀ i, i ≤ n → ∀ j, j < ls_dp kd i → ls_st T w kd ar i j ≤ T := by
  intro i
  induction i with
  | zero => intro _ j hj; exact absurd hj (Nat.not_lt_zero j)
  | succ i ih =>
    intro hi j hj
    have ih' := ih (by omega)
    have ⟨ht, hs⟩ := h.2 i (by omega)
    by_cases hk : kd i < 2
    · rw [ls_st_a hk]
      rw [ls_dp_a hk] at hj
      by_cases e : j = ls_dp kd i
      · rw [e, ls_us]
        by_cases h1 : kd i = 1
        · rw [if_pos h1]; exact hw _ (ht.2.2.1 h1)
        · rw [if_neg h1]; exact ht.2.1 (by omega)
      · rw [ls_un e]; exact ih' j (by omega)
    · rw [ls_st_b hk]
      rw [ls_dp_b hk] at hj
      have h2 := hs (by omega)
      by_cases e : j = ls_dp kd i - 2
      · rw [e, ls_us]; exact ls_cmb_le (ih' _ (by omega)) (ih' _ (by omega))
      · rw [ls_un e]; exact ih' j (by omega)
theorem ls_st_mono {N T n : Nat} {w w' kd ar : Nat → Nat} (h : ls_dr N T n kd ar) (hw : ∀ c, c < N → w c ≤ w' c) : ∀ i, i ≤ n → ∀ j, j < ls_dp kd i → ls_st T w kd ar i j ≤ ls_st T w' kd ar i j := by
  intro i
  induction i with
  | zero => intro _ j hj; exact absurd hj (Nat.not_lt_zero j)
  | succ i ih =>
    intro hi j hj
    have ih' := ih (by omega)
    have ⟨ht, hs⟩ := h.2 i (by omega)
    by_cases hk : kd i < 2
    · rw [ls_st_a hk, ls_st_a hk]
      rw [ls_dp_a hk] at hj
      by_cases e : j = ls_dp kd i
      · rw [e, ls_us, ls_us]
        by_cases h1 : kd i = 1
        · rw [if_pos h1, if_pos h1]; exact hw _ (ht.2.2.1 h1)
        · rw [if_neg h1, if_neg h1]; exact Nat.le_refl _
      · rw [ls_un e, ls_un e]; exact ih' j (by omega)
    · rw [ls_st_b hk, ls_st_b hk]
      rw [ls_dp_b hk] at hj
      have h2 := hs (by omega)
      by_cases e : j = ls_dp kd i - 2
      · rw [e, ls_us, ls_us]; exact ls_cmb_mono (ih' _ (by omega)) (ih' _ (by omega))
      · rw [ls_un e, ls_un e]; exact ih' j (by omega)
def ls_ev (T : Nat) (w kd ar : Nat → Nat) (n : Nat) : Nat := ls_st T w kd ar n 0
theorem ls_ev_le {N T n : Nat} {w kd ar : Nat → Nat} (h : ls_wf N T n kd ar) (hw : ∀ c, c < N → w c ≤ T) : ls_ev T w kd ar n ≤ T := ls_st_le h.1 hw n (Nat.le_refl n) 0 (by rw [h.2]; exact Nat.one_pos)
theorem ls_ev_mono {N T n : Nat} {w w' kd ar : Nat → Nat} (h : ls_wf N T n kd ar) (hw : ∀ c, c < N → w c ≤ w' c) : ls_ev T w kd ar n ≤ ls_ev T w' kd ar n := ls_st_mono h.1 hw n (Nat.le_refl n) 0 (by rw [h.2]; exact Nat.one_pos)
end
section
/-! pure: the least solution of a monotone bounded step, reached from zeros by rounds in place -/
def lf_ok (N T : Nat) (F : (Nat → Nat) → Nat → Nat) : Prop := (∀ w w', (∀ c, c < N → w c ≤ w' c) → ∀ c, c < N → F w c ≤ F w' c) ∧ (∀ w, (∀ c, c < N → w c ≤ T) → ∀ c, c < N → F w c ≤ T)
def lf_sol (N T : Nat) (F : (Nat → Nat) → Nat → Nat) (w : Nat → Nat) : Prop := (∀ c, c < N → w c ≤ T) ∧ ∀ c, c < N → F w c = w c
def lf_least (N T : Nat) (F : (Nat → Nat) → Nat → Nat) (w : Nat → Nat) : Prop := lf_sol N T F w ∧ ∀ w', lf_sol N T F w' → ∀ c, c < N → w c ≤ w' c
theorem lf_uniq {N T : Nat} {F : (Nat → Nat) → Nat → Nat} {w w' : Nat → Nat} (h : lf_least N T F w) (h' : lf_least N T F w') : ∀ c, c < N → w c = w' c := fun c hc => Nat.le_antisymm (h.2 w' h'.1 c hc) (h'.2 w h.1 c hc)
/-- within, rising, below every solution -/
def lf_inv (N T : Nat) (F : (Nat → Nat) → Nat → Nat) (w : Nat → Nat) : Prop := (∀ c, c < N → w c ≤ T) ∧ (∀ c, c < N → w c ≤ F w c) ∧ ∀ w', lf_sol N T F w' → ∀ c, c < N → w c ≤ w' c
theorem lf_inv0 {N T : Nat} {F : (Nat → Nat) → Nat → Nat} {w : Nat → Nat} (h : ∀ c, c < N → w c = 0) : lf_inv N T F w := ⟨fun c hc => by rw [h c hc]; exact Nat.zero_le _, fun c hc => by rw [h c hc]; exact Nat.zero_le _, fun _ _ c hc => by rw [h c hc]; exact Nat.zero_le _⟩
theorem lf_step {N T : Nat} {F : (Nat → Nat) → Nat → Nat} {w : Nat → Nat} (ok : lf_ok N T F) (h : lf_inv N T F w) {c : Nat} (hc : c < N) : lf_inv N T F (ls_up w c (F w c)) := by
  have hle : ∀ d, d < N → w d ≤ ls_up w c (F w c) d := by
    intro d hd
    by_cases e : d = c
    · rw [e, ls_us]; exact h.2.1 c hc
    · rw [ls_un e]; exact Nat.le_refl _
  refine ⟨fun d hd => ?_, fun d hd => ?_, fun w' hs d hd => ?_⟩
  · by_cases e : d = c
    · rw [e, ls_us]; exact ok.2 w h.1 c hc
    · rw [ls_un e]; exact h.1 d hd
  · by_cases e : d = c
    · subst e
      exact Nat.le_trans (Nat.le_of_eq ls_us) (ok.1 _ _ hle d hd)
    · exact Nat.le_trans (Nat.le_trans (Nat.le_of_eq (ls_un e)) (h.2.1 d hd)) (ok.1 _ _ hle d hd)
  · by_cases e : d = c
    · rw [e, ls_us, ← hs.2 c hc]; exact ok.1 _ _ (h.2.2 w' hs) c hc
    · rw [ls_un e]; exact h.2.2 w' hs d hd
theorem lf_end {N T : Nat} {F : (Nat → Nat) → Nat → Nat} {w : Nat → Nat} (h : lf_inv N T F w) (e : ∀ c, c < N → F w c = w c) : lf_least N T F w := ⟨⟨h.1, e⟩, h.2.2⟩
def lf_sum (w : Nat → Nat) : Nat → Nat
  | 0 => 0
  | n + 1 => lf_sum w n + w n
theorem lf_sum_le {w w' : Nat → Nat} : ∀ n, (∀ c, c < n → w c ≤ w' c) → lf_sum w n ≤ lf_sum w' n
  | 0, _ => Nat.le_refl 0
  | n + 1, h => Nat.add_le_add (lf_sum_le n (fun c hc => h c (by omega))) (h n (by omega))
theorem lf_sum_lt {w w' : Nat → Nat} : ∀ n, (∀ c, c < n → w c ≤ w' c) → (∃ c, c < n ∧ w c < w' c) → lf_sum w n < lf_sum w' n
  | 0, _, h => by obtain ⟨c, hc, _⟩ := h; omega
  | n + 1, h, ⟨c, hc, hlt⟩ => by
    have h1 := lf_sum_le n (fun c hc => h c (by omega))
    have h2 := h n (by omega)
    show lf_sum w n + w n < lf_sum w' n + w' n
    by_cases e : c = n
    · subst e; omega
    · have := lf_sum_lt n (fun c hc => h c (by omega)) ⟨c, by omega, hlt⟩
      omega
theorem lf_sum_T {w : Nat → Nat} {T : Nat} : ∀ n, (∀ c, c < n → w c ≤ T) → lf_sum w n ≤ n * T
  | 0, _ => Nat.zero_le _
  | n + 1, h => by
    have h1 := lf_sum_T n (fun c hc => h c (by omega))
    have h2 := h n (by omega)
    show lf_sum w n + w n ≤ (n + 1) * T
    rw [Nat.succ_mul]
    omega
theorem lf_sum_top {w : Nat → Nat} {T : Nat} : ∀ n, (∀ c, c < n → w c ≤ T) → n * T ≤ lf_sum w n → ∀ c, c < n → w c = T
  | 0, _, _, c, hc => absurd hc (Nat.not_lt_zero c)
  | n + 1, h, hs, c, hc => by
    have h1 := lf_sum_T n (fun c hc => h c (by omega))
    have h2 := h n (by omega)
    have hs' : (n + 1) * T ≤ lf_sum w n + w n := hs
    rw [Nat.succ_mul] at hs'
    by_cases e : c = n
    · subst e; omega
    · exact lf_sum_top n (fun c hc => h c (by omega)) (by omega) c (by omega)
theorem lf_full {N T : Nat} {F : (Nat → Nat) → Nat → Nat} {w : Nat → Nat} (ok : lf_ok N T F) (h : lf_inv N T F w) (hs : N * T ≤ lf_sum w N) : lf_least N T F w := by
  have e := lf_sum_top N h.1 hs
  refine lf_end h (fun c hc => Nat.le_antisymm ?_ (h.2.1 c hc))
  rw [e c hc]
  exact ok.2 w h.1 c hc
end
section
/-! pure: Warshall by stages gives the least transitive relation above the uses -/
def wa_S (U : Nat → Nat → Bool) : Nat → Nat → Nat → Bool
  | 0 => U
  | k + 1 => fun c d => wa_S U k c d || (wa_S U k c k && wa_S U k k d)
theorem wa_s {U : Nat → Nat → Bool} {k c d : Nat} : wa_S U (k + 1) c d = true ↔ wa_S U k c d = true ∨ (wa_S U k c k = true ∧ wa_S U k k d = true) := by
  show (wa_S U k c d || (wa_S U k c k && wa_S U k k d)) = true ↔ _
  rw [Bool.or_eq_true, Bool.and_eq_true]
theorem wa_up {U : Nat → Nat → Bool} {c d : Nat} (h : U c d = true) : ∀ k, wa_S U k c d = true
  | 0 => h
  | k + 1 => wa_s.mpr (Or.inl (wa_up h k))
theorem wa_tr {U : Nat → Nat → Bool} : ∀ k c j d, j < k → wa_S U k c j = true → wa_S U k j d = true → wa_S U k c d = true
  | 0, _, j, _, h, _, _ => absurd h (Nat.not_lt_zero j)
  | k + 1, c, j, d, h, h1, h2 => by
    rw [wa_s] at h1 h2 ⊢
    by_cases e : j = k
    · subst e
      have a : wa_S U j c j = true := h1.elim id (fun z => z.1)
      have b : wa_S U j j d = true := h2.elim id (fun z => z.2)
      exact Or.inr ⟨a, b⟩
    · have hj : j < k := by omega
      rcases h1 with h1 | ⟨h1, h1'⟩
      · rcases h2 with h2 | ⟨h2, h2'⟩
        · exact Or.inl (wa_tr k c j d hj h1 h2)
        · exact Or.inr ⟨wa_tr k c j k hj h1 h2, h2'⟩
      · rcases h2 with h2 | ⟨h2, h2'⟩
        · exact Or.inr ⟨h1, wa_tr k k j d hj h1' h2⟩
        · exact Or.inr ⟨h1, h2'⟩
theorem wa_min {U : Nat → Nat → Bool} {R : Nat → Nat → Prop} (hU : ∀ c d, U c d = true → R c d) (hR : ∀ c j d, R c j → R j d → R c d) : ∀ k c d, wa_S U k c d = true → R c d
  | 0, c, d, h => hU c d h
  | k + 1, c, d, h => by
    rcases wa_s.mp h with h | ⟨h, h'⟩
    · exact wa_min hU hR k c d h
    · exact hR c k d (wa_min hU hR k c k h) (wa_min hU hR k k d h')
end
section
/-! pure: rounds of any kind reach the least solution -/
theorem lf_congr {N T : Nat} {F : (Nat → Nat) → Nat → Nat} (ok : lf_ok N T F) {w w' : Nat → Nat} (h : ∀ c, c < N → w c = w' c) : ∀ c, c < N → F w c = F w' c := fun c hc => Nat.le_antisymm (ok.1 w w' (fun d hd => Nat.le_of_eq (h d hd)) c hc) (ok.1 w' w (fun d hd => Nat.le_of_eq (h d hd).symm) c hc)
theorem lf_sol_congr {N T : Nat} {F : (Nat → Nat) → Nat → Nat} (ok : lf_ok N T F) {w w' : Nat → Nat} (h : ∀ c, c < N → w c = w' c) (s : ∀ c, c < N → F w c = w c) : ∀ c, c < N → F w' c = w' c := fun c hc => by rw [← lf_congr ok h c hc, s c hc, h c hc]
/-- after k rounds: the sum is k at least, or a solution is reached -/
def lf_R (N T : Nat) (F : (Nat → Nat) → Nat → Nat) (k : Nat) (w : Nat → Nat) : Prop := lf_inv N T F w ∧ (k ≤ lf_sum w N ∨ ∀ c, c < N → F w c = w c)
theorem lf_R0 {N T : Nat} {F : (Nat → Nat) → Nat → Nat} {w : Nat → Nat} (h : lf_inv N T F w) : lf_R N T F 0 w := ⟨h, Or.inl (Nat.zero_le _)⟩
theorem lf_round {N T : Nat} {F : (Nat → Nat) → Nat → Nat} (ok : lf_ok N T F) {k : Nat} {w w' : Nat → Nat} (h : lf_R N T F k w) (h' : lf_inv N T F w') (hF : ∀ c, c < N → F w c ≤ w' c) : lf_R N T F (k + 1) w' := by
  have hle : ∀ c, c < N → w c ≤ w' c := fun c hc => Nat.le_trans (h.1.2.1 c hc) (hF c hc)
  refine ⟨h', ?_⟩
  by_cases e : ∀ c, c < N → F w c = w c
  · exact Or.inr (lf_sol_congr ok (fun c hc => Nat.le_antisymm (hle c hc) (h'.2.2 w ⟨h.1.1, e⟩ c hc)) e)
  · refine Or.inl ?_
    have hs := h.2.resolve_right e
    have hx : ∃ c, c < N ∧ w c < w' c := by
      apply Classical.byContradiction
      intro hn
      apply e
      intro c hc
      have a := h.1.2.1 c hc
      have b := hF c hc
      by_cases l : w c < w' c
      · exact absurd ⟨c, hc, l⟩ hn
      · omega
    have := lf_sum_lt N hle hx
    omega
theorem lf_done {N T : Nat} {F : (Nat → Nat) → Nat → Nat} (ok : lf_ok N T F) {k : Nat} {w : Nat → Nat} (h : lf_R N T F k w) (hk : N * T ≤ k) : lf_least N T F w := h.2.elim (fun s => lf_full ok h.1 (Nat.le_trans hk s)) (fun e => lf_end h.1 e)
theorem lf_least_congr {N T : Nat} {F : (Nat → Nat) → Nat → Nat} (ok : lf_ok N T F) {w w' : Nat → Nat} (h : ∀ c, c < N → w c = w' c) (l : lf_least N T F w) : lf_least N T F w' := ⟨⟨fun c hc => by rw [← h c hc]; exact l.1.1 c hc, lf_sol_congr ok h l.1.2⟩, fun v hv c hc => by rw [← h c hc]; exact l.2 v hv c hc⟩
/-- a step of all cells at once -/
theorem lf_jac {N T : Nat} {F : (Nat → Nat) → Nat → Nat} (ok : lf_ok N T F) {w w' : Nat → Nat} (h : lf_inv N T F w) (e : ∀ c, c < N → w' c = F w c) : lf_inv N T F w' := by
  have hle : ∀ c, c < N → w c ≤ w' c := fun c hc => by rw [e c hc]; exact h.2.1 c hc
  refine ⟨fun c hc => ?_, fun c hc => ?_, fun v hv c hc => ?_⟩
  · rw [e c hc]; exact ok.2 w h.1 c hc
  · rw [e c hc]; exact ok.1 _ _ hle c hc
  · rw [e c hc, ← hv.2 c hc]; exact ok.1 _ _ (h.2.2 v hv) c hc
/-! the formulas' step -/
def ls_kd (t : Nat → Nat) (c : Nat) : Nat → Nat := fun i => t (8 * c + i) / 100
def ls_ar (t : Nat → Nat) (c : Nat) : Nat → Nat := fun i => t (8 * c + i) % 100
def ls_F (T : Nat) (t l : Nat → Nat) (w : Nat → Nat) (c : Nat) : Nat := ls_ev T w (ls_kd t c) (ls_ar t c) (l c)
def ls_all (N T : Nat) (t l : Nat → Nat) : Prop := ∀ c, c < N → ls_wf N T (l c) (ls_kd t c) (ls_ar t c)
theorem ls_F_ok {N T : Nat} {t l : Nat → Nat} (h : ls_all N T t l) : lf_ok N T (ls_F T t l) := ⟨fun _ _ hw c hc => ls_ev_mono (h c hc) hw, fun _ hw c hc => ls_ev_le (h c hc) hw⟩
/-! uses, and dependence as the least solution of one target's step -/
def de_U (t l : Nat → Nat) (c d : Nat) : Prop := ∃ i, i < l c ∧ ls_kd t c i = 1 ∧ ls_ar t c i = d
def de_P (N : Nat) (U : Nat → Nat → Bool) (d : Nat) (w : Nat → Nat) (c : Nat) : Prop := U c d = true ∨ ∃ e, e < N ∧ U c e = true ∧ 1 ≤ w e
noncomputable def de_F (N : Nat) (U : Nat → Nat → Bool) (d : Nat) (w : Nat → Nat) (c : Nat) : Nat := by
  classical exact if de_P N U d w c then 1 else 0
theorem de_F1 {N : Nat} {U : Nat → Nat → Bool} {d : Nat} {w : Nat → Nat} {c : Nat} (h : de_P N U d w c) : de_F N U d w c = 1 := by unfold de_F; exact if_pos h
theorem de_F0 {N : Nat} {U : Nat → Nat → Bool} {d : Nat} {w : Nat → Nat} {c : Nat} (h : ¬ de_P N U d w c) : de_F N U d w c = 0 := by unfold de_F; exact if_neg h
theorem de_F_le (N : Nat) (U : Nat → Nat → Bool) (d : Nat) (w : Nat → Nat) (c : Nat) : de_F N U d w c ≤ 1 := by
  by_cases h : de_P N U d w c
  · rw [de_F1 h]; exact Nat.le_refl 1
  · rw [de_F0 h]; exact Nat.zero_le 1
theorem de_ok (N : Nat) (U : Nat → Nat → Bool) (d : Nat) : lf_ok N 1 (de_F N U d) := by
  refine ⟨fun w w' hw c hc => ?_, fun w _ c _ => de_F_le N U d w c⟩
  by_cases h : de_P N U d w c
  · have h' : de_P N U d w' c := h.elim Or.inl (fun ⟨e, he, hu, hx⟩ => Or.inr ⟨e, he, hu, Nat.le_trans hx (hw e he)⟩)
    rw [de_F1 h, de_F1 h']; exact Nat.le_refl 1
  · rw [de_F0 h]; exact Nat.zero_le _
/-- Warshall's relation, by its columns, is the least solution -/
theorem de_war {N : Nat} {U : Nat → Nat → Bool} (hU : ∀ c d, U c d = true → d < N) (d : Nat) : lf_least N 1 (de_F N U d) (fun c => if wa_S U N c d = true then 1 else 0) := by
  have hR : ∀ c j d, wa_S U N c j = true → wa_S U N j d = true → wa_S U N c d = true := by
    intro c j d h1 h2
    have hj : j < N := wa_min (R := fun _ j => j < N) hU (fun _ _ _ _ b => b) N c j h1
    exact wa_tr N c j d hj h1 h2
  have key : ∀ c, wa_S U N c d = true ↔ de_P N U d (fun c => if wa_S U N c d = true then 1 else 0) c := by
    intro c
    constructor
    · intro h
      have h2 := wa_min (U := U) (R := fun c d => U c d = true ∨ ∃ e, e < N ∧ U c e = true ∧ wa_S U N e d = true) (fun c d h => Or.inl h) (by
        intro c j d h1 h2
        have h3 : wa_S U N j d = true := h2.elim (fun z => wa_up z N) (fun ⟨e, _, hu, hr⟩ => hR j e d (wa_up hu N) hr)
        rcases h1 with h1 | ⟨e, he, hu, hr⟩
        · exact Or.inr ⟨j, hU c j h1, h1, h3⟩
        · exact Or.inr ⟨e, he, hu, hR e j d hr h3⟩) N c d h
      rcases h2 with h2 | ⟨e, he, hu, hr⟩
      · exact Or.inl h2
      · exact Or.inr ⟨e, he, hu, by show 1 ≤ (if wa_S U N e d = true then 1 else 0); rw [if_pos hr]; exact Nat.le_refl 1⟩
    · intro h
      rcases h with h | ⟨e, he, hu, hx⟩
      · exact wa_up h N
      · have hx' : 1 ≤ (if wa_S U N e d = true then 1 else 0) := hx
        by_cases hr : wa_S U N e d = true
        · exact hR c e d (wa_up hu N) hr
        · rw [if_neg hr] at hx'; omega
  refine ⟨⟨fun c hc => ?_, fun c hc => ?_⟩, fun w' hw' c hc => ?_⟩
  · show (if wa_S U N c d = true then 1 else 0) ≤ 1
    split <;> omega
  · show _ = (if wa_S U N c d = true then 1 else 0)
    by_cases h : wa_S U N c d = true
    · rw [if_pos h, de_F1 ((key c).mp h)]
    · rw [if_neg h, de_F0 (fun z => h ((key c).mpr z))]
  · show (if wa_S U N c d = true then 1 else 0) ≤ w' c
    by_cases h : wa_S U N c d = true
    · rw [if_pos h]
      have hs : ∀ c, c < N → de_P N U d w' c → 1 ≤ w' c := fun c hc z => by rw [← hw'.2 c hc, de_F1 z]; exact Nat.le_refl 1
      have h2 := wa_min (U := U) (R := fun c j => c < N → j < N ∧ ((1 ≤ w' j → 1 ≤ w' c) ∧ (j = d → 1 ≤ w' c))) (fun c j h hc => ⟨hU c j h, fun z => hs c hc (Or.inr ⟨j, hU c j h, h, z⟩), fun z => hs c hc (Or.inl (z ▸ h))⟩) (fun c j k h1 h2 hc => ⟨(h2 (h1 hc).1).1, fun z => (h1 hc).2.1 ((h2 (h1 hc).1).2.1 z), fun z => (h1 hc).2.1 ((h2 (h1 hc).1).2.2 z)⟩) N c d h
      exact (h2 hc).2.2 rfl
    · rw [if_neg h]; exact Nat.zero_le _
end
section
/-! pure: leader, rank, key, place -/
def or_b (b : Bool) : Nat := if b = true then 1 else 0
def or_cnt (p : Nat → Bool) : Nat → Nat := lf_sum (fun d => or_b (p d))
theorem or_cnt0 (p : Nat → Bool) : or_cnt p 0 = 0 := rfl
theorem or_cnt1 {p : Nat → Bool} {n : Nat} (h : p n = true) : or_cnt p (n + 1) = or_cnt p n + 1 := by
  show or_cnt p n + or_b (p n) = _
  rw [h]; rfl
theorem or_cntF {p : Nat → Bool} {n : Nat} (h : p n = false) : or_cnt p (n + 1) = or_cnt p n := by
  show or_cnt p n + or_b (p n) = _
  rw [h]; rfl
theorem or_b_le (b : Bool) : or_b b ≤ 1 := by cases b <;> decide
theorem or_cnt_le (p : Nat → Bool) (n : Nat) : or_cnt p n ≤ n := by
  have := lf_sum_T (w := fun d => or_b (p d)) (T := 1) n (fun c _ => or_b_le (p c))
  rw [Nat.mul_one] at this
  exact this
theorem or_cnt_mono {p q : Nat → Bool} {n : Nat} (h : ∀ d, d < n → p d = true → q d = true) {c : Nat} (hc : c < n) (h1 : p c = false) (h2 : q c = true) : or_cnt p n < or_cnt q n := by
  refine lf_sum_lt n (fun d hd => ?_) ⟨c, hc, ?_⟩
  · show or_b (p d) ≤ or_b (q d)
    cases e : p d
    · exact Nat.zero_le _
    · rw [h d hd e]; exact Nat.le_refl _
  · show or_b (p c) < or_b (q c)
    rw [h1, h2]; decide
theorem or_ones : ∀ n, or_cnt (fun _ => true) n = n
  | 0 => rfl
  | n + 1 => by rw [or_cnt1 rfl, or_ones n]
def or_ldf (D : Nat → Nat → Bool) (c : Nat) : Nat → Nat → Nat
  | 0, d => d
  | m + 1, d => if (D c d && D d c) = true then d else or_ldf D c m (d + 1)
def or_ld (D : Nat → Nat → Bool) (c : Nat) : Nat := or_ldf D c c 0
theorem or_ldf_le (D : Nat → Nat → Bool) (c : Nat) : ∀ m d, or_ldf D c m d ≤ d + m
  | 0, d => Nat.le_refl d
  | m + 1, d => by
    show (if (D c d && D d c) = true then d else or_ldf D c m (d + 1)) ≤ d + (m + 1)
    have := or_ldf_le D c m (d + 1)
    split <;> omega
theorem or_ld_le (D : Nat → Nat → Bool) (c : Nat) : or_ld D c ≤ c := by
  have := or_ldf_le D c c 0
  unfold or_ld
  omega
theorem or_ldf_congr {D D' : Nat → Nat → Bool} {c : Nat} : ∀ m d, (∀ e, e < d + m → D c e = D' c e ∧ D e c = D' e c) → or_ldf D c m d = or_ldf D' c m d
  | 0, _, _ => rfl
  | m + 1, d, h => by
    have ⟨a, b⟩ := h d (by omega)
    show (if (D c d && D d c) = true then d else or_ldf D c m (d + 1)) = (if (D' c d && D' d c) = true then d else or_ldf D' c m (d + 1))
    rw [a, b, or_ldf_congr m (d + 1) (fun e he => h e (by omega))]
def or_rp (D : Nat → Nat → Bool) (c : Nat) : Nat → Bool := fun d => D c d && !D d c
def or_rk (N : Nat) (D : Nat → Nat → Bool) (c : Nat) : Nat := or_cnt (or_rp D c) N
def or_key (N : Nat) (D : Nat → Nat → Bool) (c : Nat) : Nat := (or_rk N D c * 12 + or_ld D c) * 12 + c
def or_pp (N : Nat) (D : Nat → Nat → Bool) (c : Nat) : Nat → Bool := fun d => decide (or_key N D d < or_key N D c)
def or_pl (N : Nat) (D : Nat → Nat → Bool) (c : Nat) : Nat := or_cnt (or_pp N D c) N
theorem or_key_inj {N : Nat} {D : Nat → Nat → Bool} {c d : Nat} (hc : c < 12) (hd : d < 12) (h : or_key N D c = or_key N D d) : c = d := by
  unfold or_key at h
  omega
theorem or_pl_lt {N : Nat} (D : Nat → Nat → Bool) {c : Nat} (hc : c < N) : or_pl N D c < N := by
  have := or_cnt_mono (p := or_pp N D c) (q := fun _ => true) (n := N) (fun _ _ _ => rfl) hc (decide_eq_false (Nat.lt_irrefl _)) rfl
  rw [or_ones] at this
  exact this
theorem or_pl_mono {N : Nat} {D : Nat → Nat → Bool} {c d : Nat} (hc : c < N) (h : or_key N D c < or_key N D d) : or_pl N D c < or_pl N D d :=
  or_cnt_mono (fun e _ he => decide_eq_true (Nat.lt_trans (of_decide_eq_true he) h)) hc (decide_eq_false (Nat.lt_irrefl _)) (decide_eq_true h)
theorem or_pl_inj {N : Nat} {D : Nat → Nat → Bool} (hN : N ≤ 12) {c d : Nat} (hc : c < N) (hd : d < N) (h : or_pl N D c = or_pl N D d) : c = d := by
  rcases Nat.lt_trichotomy (or_key N D c) (or_key N D d) with k | k | k
  · have := or_pl_mono hc k; omega
  · exact or_key_inj (by omega) (by omega) k
  · have := or_pl_mono hd k; omega
/-- an injective map of the first n numbers into themselves takes every value -/
theorem or_pig : ∀ (n : Nat) (f : Nat → Nat), (∀ i, i < n → f i < n) → (∀ i j, i < n → j < n → f i = f j → i = j) → ∀ p, p < n → ∃ i, i < n ∧ f i = p
  | 0, _, _, _, p, hp => absurd hp (Nat.not_lt_zero p)
  | n + 1, f, hf, hi, p, hp => by
    by_cases e : f n = p
    · exact ⟨n, by omega, e⟩
    · have hg : ∀ i, i < n → (if f i = n then f n else f i) < n := by
        intro i h
        have a := hf i (by omega)
        have b := hf n (by omega)
        by_cases z : f i = n
        · rw [if_pos z]
          have : f n ≠ n := fun y => by have := hi i n (by omega) (by omega) (by omega); omega
          omega
        · rw [if_neg z]; omega
      have hj : ∀ i j, i < n → j < n → (if f i = n then f n else f i) = (if f j = n then f n else f j) → i = j := by
        intro i j h1 h2 h3
        by_cases z : f i = n
        · by_cases y : f j = n
          · exact hi i j (by omega) (by omega) (by omega)
          · rw [if_pos z, if_neg y] at h3
            have := hi n j (by omega) (by omega) h3
            omega
        · by_cases y : f j = n
          · rw [if_neg z, if_pos y] at h3
            have := hi i n (by omega) (by omega) h3
            omega
          · rw [if_neg z, if_neg y] at h3
            exact hi i j (by omega) (by omega) h3
      by_cases hpn : p = n
      · have hv : f n < n := by have := hf n (by omega); omega
        obtain ⟨i, h1, h2⟩ := or_pig n (fun i => if f i = n then f n else f i) hg hj (f n) hv
        have h2' : (if f i = n then f n else f i) = f n := h2
        by_cases z : f i = n
        · exact ⟨i, by omega, by omega⟩
        · rw [if_neg z] at h2'
          have := hi i n (by omega) (by omega) h2'
          omega
      · obtain ⟨i, h1, h2⟩ := or_pig n (fun i => if f i = n then f n else f i) hg hj p (by omega)
        have h2' : (if f i = n then f n else f i) = p := h2
        by_cases z : f i = n
        · rw [if_pos z] at h2'; exact absurd h2' e
        · rw [if_neg z] at h2'; exact ⟨i, by omega, h2'⟩
theorem or_pl_sur {N : Nat} {D : Nat → Nat → Bool} (hN : N ≤ 12) {p : Nat} (hp : p < N) : ∃ c, c < N ∧ or_pl N D c = p :=
  or_pig N (or_pl N D) (fun _ h => or_pl_lt D h) (fun _ _ h1 h2 h => or_pl_inj hN h1 h2 h) p hp
end
section
/-! X: evaluate -/
def ls_I (f : Nat → Nat) : Nat → Int32 := fun j => nI (f j)
theorem ls_Iup {f : Nat → Nat} {k x : Nat} : upd (ls_I f) k (nI x) = ls_I (ls_up f k x) := by
  funext j
  unfold upd ls_I ls_up
  split <;> rfl
theorem ls_Iat {f : Nat → Nat} {n : Nat} (h : n < 2 ^ 31) : ls_I f (nI n).toNatClampNeg = nI (f n) := by rw [nI_clamp h]; rfl
theorem xe_op {k : Nat} {post : Int32 → Prop} (hk : k < 100) (h1 : k < 2 → post 1) (h2 : ¬ k < 2 → post 0) : wpX_isOperand post (nI k) := by
  unfold wpX_isOperand
  exact pk_eq k 0 (fun _ => h1 (by omega)) (fun _ => pk_eq k 1 (fun _ => h1 (by omega)) (fun _ => h2 (by omega)))
theorem xe_cell {N c : Nat} {post : Int32 → Prop} {T dd ed : Int32} {tk ln sk sh os de re le so od : Nat → Int32} (hN : N ≤ 12) (hc : c < N) (h : post 1) : wpX_isCell post (nI N, T, dd, ed, tk, ln, sk, sh, os, de, re, le, so, od) (nI c) :=
  br_f (nI_pos (by omega)) (br_f (nI_ge hc (by omega)) h)
theorem xe_val {N c : Nat} {post : Int32 → Prop} {T dd ed : Int32} {tk ln sk sh os de re le so od : Nat → Int32} (hN : N ≤ 12) (hc : c < N) (h : post (sh c)) : wpX_value post (nI N, T, dd, ed, tk, ln, sk, sh, os, de, re, le, so, od) (nI c) := by
  unfold wpX_value
  refine xe_cell hN hc (br_f (by decide) ⟨pk_in c 12 (by omega), ?_⟩)
  rw [nI_clamp (by omega)]
  exact h
theorem xe_cmb {N T k a x y : Nat} {post : Int32 → Prop} {dd ed : Int32} {tk ln sk sh os de re le so od : Nat → Int32} (hT : T ≤ 15) (ha : a < 100) (hx : x ≤ T) (hy : y ≤ T) (h2 : 2 ≤ k) (h5 : k ≤ 5) (h : post (nI (ls_cmb T k a x y))) : wpX_combine post (nI N, nI T, dd, ed, tk, ln, sk, sh, os, de, re, le, so, od) (nI k) (nI a) (nI x) (nI y) := by
  have hc : ∀ r, ls_cmb T k a x y = r → post (nI r) := fun r e => e ▸ h
  unfold wpX_combine
  refine pk_lt k 2 (fun _ => by omega) (fun _ => pk_lt 4 k (fun _ => pk_lt x a (fun _ => hc 0 ?_) (fun _ => hc y ?_)) (fun _ => pk_eq k 2 (fun _ => pk_le y x (fun _ => hc y ?_) (fun _ => hc x ?_)) (fun _ => pk_eq k 3 (fun _ => pk_le x y (fun _ => hc y ?_) (fun _ => hc x ?_)) (fun _ => pk_eq k 4 (fun _ => ?_) (fun _ => trivial)))))
  case refine_7 =>
    rw [nI_add]
    exact pk_le (x + y) T (fun _ => hc _ (by unfold ls_cmb; repeat' split
                                             all_goals omega)) (fun _ => hc _ (by unfold ls_cmb; repeat' split
                                                                                  all_goals omega))
  all_goals (unfold ls_cmb; repeat' split)
  all_goals omega
theorem xe_invA {T i : Nat} {w kd ar : Nat → Nat} {sk : Nat → Int32} {v : Int32} (hv : ∀ j, j < ls_dp kd i → sk j = nI (ls_st T w kd ar i j)) (hk : kd i < 2) (e : v = nI (if kd i = 1 then w (ar i) else ar i)) : ∀ j, j < ls_dp kd (i + 1) → upd sk (ls_dp kd i) v j = nI (ls_st T w kd ar (i + 1) j) := by
  intro j hj
  rw [ls_st_a hk]
  rw [ls_dp_a hk] at hj
  by_cases z : j = ls_dp kd i
  · rw [z, pk_us, ls_us, e]
  · rw [pk_un z, ls_un z]; exact hv j (by omega)
theorem xe_invB {T i : Nat} {w kd ar : Nat → Nat} {sk : Nat → Int32} {v : Int32} (hv : ∀ j, j < ls_dp kd i → sk j = nI (ls_st T w kd ar i j)) (hk : ¬ kd i < 2) (e : v = nI (ls_cmb T (kd i) (ar i) (ls_st T w kd ar i (ls_dp kd i - 2)) (ls_st T w kd ar i (ls_dp kd i - 1)))) : ∀ j, j < ls_dp kd (i + 1) → upd sk (ls_dp kd i - 2) v j = nI (ls_st T w kd ar (i + 1) j) := by
  intro j hj
  rw [ls_st_b hk]
  rw [ls_dp_b hk] at hj
  by_cases z : j = ls_dp kd i - 2
  · rw [z, pk_us, ls_us, e]
  · rw [pk_un z, ls_un z]; exact hv j (by omega)
/-- what one token of a formula is, as numbers -/
theorem xe_tok {N T c i : Nat} {t l : Nat → Nat} (hN : N ≤ 12) (hT : T ≤ 15) (hw : ls_dr N T (l c) (ls_kd t c) (ls_ar t c)) (hi : i < l c) : ls_kd t c i ≤ 5 ∧ ls_ar t c i < 100 ∧ t (8 * c + i) < 600 ∧ i < 8 ∧ (2 ≤ ls_kd t c i → 2 ≤ ls_dp (ls_kd t c) i) ∧ (ls_kd t c i = 1 → ls_ar t c i < N) := by
  have ⟨ht, hs⟩ := hw.2 i hi
  have h5 := ht.1
  have h8 := hw.1
  refine ⟨h5, Nat.mod_lt _ (by omega), ?_, by omega, hs, ht.2.2.1⟩
  unfold ls_kd at h5
  omega
theorem xe_div {t : Nat → Nat} {c i : Nat} (h6 : t (8 * c + i) < 600) (hc : c < 13) (h8 : i < 8) : (ls_I t (nI (8 * c + i)).toNatClampNeg) / 100 = nI (ls_kd t c i) := by
  rw [ls_Iat (by omega)]
  exact pk_div (d := 100) (by omega) (by omega) (by omega)
theorem xe_rem {t : Nat → Nat} {c i : Nat} (h6 : t (8 * c + i) < 600) (hc : c < 13) (h8 : i < 8) : (ls_I t (nI (8 * c + i)).toNatClampNeg) - (ls_I t (nI (8 * c + i)).toNatClampNeg) / 100 * 100 = nI (ls_ar t c i) := by
  rw [ls_Iat (by omega)]
  exact pk_rem (d := 100) (by omega) (by omega) (by omega)
theorem xe_loop {N T : Nat} {t l w : Nat → Nat} {c : Nat} {dd ed : Int32} {sh os de re le so od : Nat → Int32} {post : Int32 → SX → Prop} (hN : N ≤ 12) (hT : T ≤ 15) (hw : ls_wf N T (l c) (ls_kd t c) (ls_ar t c)) (hc : c < N) (hs : ∀ d, d < N → sh d = nI (w d)) (hb : ∀ d, d < N → w d ≤ T) (hp : ∀ sk' : Nat → Int32, post (nI (ls_F T t l w c)) (nI N, nI T, dd, ed, ls_I t, ls_I l, sk', sh, os, de, re, le, so, od)) : ∀ (m i n : Nat) (sk : Nat → Int32), i + m = l c → m < n → (∀ j, j < ls_dp (ls_kd t c) i → sk j = nI (ls_st T w (ls_kd t c) (ls_ar t c) i j)) → wX_evaluate_20 post (nI (8 * c + l c)) (nI N) (nI T) dd ed n (nI (ls_dp (ls_kd t c) i)) (nI (8 * c + i)) (ls_I t) (ls_I l) sk sh os de re le so od := by
  have h8 := hw.1.1
  intro m
  induction m with
  | zero =>
    intro i n sk hi hn hv
    obtain ⟨n, rfl⟩ : ∃ k, n = k + 1 := ⟨n - 1, by omega⟩
    refine br_t (nI_le (by omega) (by omega)) ?_
    have e := hv 0 (by rw [show i = l c by omega, hw.2]; exact Nat.one_pos)
    rw [e, show i = l c by omega]
    exact hp sk
  | succ m ih =>
    intro i n sk hi hn hv
    obtain ⟨n, rfl⟩ : ∃ k, n = k + 1 := ⟨n - 1, by omega⟩
    have ⟨h5, ha, h6, hi8, hsh, href⟩ := xe_tok hN hT hw.1 (i := i) (by omega)
    have hd := ls_dp_le (ls_kd t c) i
    have hin : vp_in (nI (8 * c + i)) 104 := vp_in_nI (by omega) (by decide)
    refine br_f (nI_ge (by omega) (by omega)) ⟨hin, by decide, nm_r (xe_div h6 (by omega) hi8) ⟨hin, by decide, nm_r (xe_rem h6 (by omega) hi8) ?_⟩⟩
    refine xe_op (by omega) (fun hk => ?_) (fun hk => ?_)
    · refine br_f (by decide) (br_f (nI_ge (b := 8) (by omega) (by decide)) (pk_eq _ 1 (fun h1 => ?_) (fun h1 => ?_)))
      · refine xe_val hN (href h1) ⟨vp_in_nI (by omega) (by decide), nm_e (nm_r (e' := nI (ls_dp (ls_kd t c) (i + 1))) (by rw [nI_1, ls_dp_a hk]) (nm_r (e' := nI (8 * c + (i + 1))) (nI_1 _) (ih (i + 1) n _ (by omega) (by omega) ?_)))⟩
        rw [nI_clamp (by omega)]
        exact xe_invA hv hk (by rw [if_pos h1]; exact hs _ (href h1))
      · refine ⟨vp_in_nI (by omega) (by decide), nm_e (nm_r (e' := nI (ls_dp (ls_kd t c) (i + 1))) (by rw [nI_1, ls_dp_a hk]) (nm_r (e' := nI (8 * c + (i + 1))) (nI_1 _) (ih (i + 1) n _ (by omega) (by omega) ?_)))⟩
        rw [nI_clamp (by omega)]
        exact xe_invA hv hk (by rw [if_neg h1])
    · have h2 := hsh (by omega)
      have e1 : nI (ls_dp (ls_kd t c) i) + (-1) = nI (ls_dp (ls_kd t c) i - 1) := by
        rw [show ls_dp (ls_kd t c) i = (ls_dp (ls_kd t c) i - 1) + 1 by omega]
        exact pk_m1 _
      have e2 : nI (ls_dp (ls_kd t c) i - 1) - 1 = nI (ls_dp (ls_kd t c) i - 2) := by
        rw [show ls_dp (ls_kd t c) i - 2 = ls_dp (ls_kd t c) i - 1 - 1 by omega]
        exact pk_sub (b := 1) (by omega)
      refine br_t rfl (br_t rfl (br_f (nI_nlt (b := 2) (by omega) (by omega)) (nm_r e1 ?_)))
      rw [e2]
      refine ⟨vp_in_nI (by omega) (by decide), vp_in_nI (by omega) (by decide), ?_⟩
      rw [nI_clamp (by omega), nI_clamp (by omega), hv _ (by omega), hv _ (by omega)]
      have hst := ls_st_le hw.1 hb i (by omega)
      refine xe_cmb hT ha (hst _ (by omega)) (hst _ (by omega)) (by omega) h5 ⟨vp_in_nI (by omega) (by decide), nm_e (nm_r (e' := nI (8 * c + (i + 1))) (nI_1 _) ?_)⟩
      have e3 := ih (i + 1) n _ (by omega) (by omega) (xe_invB hv hk rfl)
      rw [ls_dp_b hk] at e3
      exact e3
theorem xe_eval {N T : Nat} {t l w : Nat → Nat} {c : Nat} {dd ed : Int32} {sk sh os de re le so od : Nat → Int32} {post : Int32 → SX → Prop} (hN : N ≤ 12) (hT : T ≤ 15) (hw : ls_wf N T (l c) (ls_kd t c) (ls_ar t c)) (hc : c < N) (hs : ∀ d, d < N → sh d = nI (w d)) (hb : ∀ d, d < N → w d ≤ T) (hp : ∀ sk' : Nat → Int32, post (nI (ls_F T t l w c)) (nI N, nI T, dd, ed, ls_I t, ls_I l, sk', sh, os, de, re, le, so, od)) : wpX_evaluate post (nI N, nI T, dd, ed, ls_I t, ls_I l, sk, sh, os, de, re, le, so, od) (nI c) := by
  have h8 := hw.1.1
  have e1 : nI c * 8 = nI (8 * c) := by rw [Nat.mul_comm]; exact pk_mul c 8
  have e2 : nI (8 * c) + ls_I l (nI c).toNatClampNeg = nI (8 * c + l c) := by rw [ls_Iat (by omega), nI_add]
  refine nm_r e1 ⟨vp_in_nI (by omega) (by decide), nm_r e2 ⟨l c + 1, ?_⟩⟩
  exact xe_loop hN hT hw hc hs hb hp (l c) 0 (l c + 1) sk (by omega) (by omega) (fun j hj => absurd hj (Nat.not_lt_zero j))
end
section
/-! X: findValues -/
def xv_I (N T : Nat) (F : (Nat → Nat) → Nat → Nat) (w0 : Nat → Nat) (i : Nat) (w : Nat → Nat) (mv : Int32) : Prop := lf_inv N T F w ∧ (∀ d, d < N → w0 d ≤ w d) ∧ (∀ d, d < i → F w0 d ≤ w d) ∧ (mv = 0 → (∀ d, d < N → w d = w0 d) ∧ ∀ d, d < i → F w0 d = w0 d)
theorem xv_I0 {N T : Nat} {F : (Nat → Nat) → Nat → Nat} {w : Nat → Nat} (h : lf_inv N T F w) : xv_I N T F w 0 w 0 := ⟨h, fun _ _ => Nat.le_refl _, fun d hd => absurd hd (Nat.not_lt_zero d), fun _ => ⟨fun _ _ => rfl, fun d hd => absurd hd (Nat.not_lt_zero d)⟩⟩
theorem xv_step {N T : Nat} {F : (Nat → Nat) → Nat → Nat} (ok : lf_ok N T F) {w0 w : Nat → Nat} {i : Nat} {mv mv' : Int32} (h : xv_I N T F w0 i w mv) (hi : i < N) (hm : mv' = 0 → mv = 0 ∧ F w i = w i) : xv_I N T F w0 (i + 1) (ls_up w i (F w i)) mv' := by
  have hF : F w0 i ≤ F w i := ok.1 _ _ h.2.1 i hi
  refine ⟨lf_step ok h.1 hi, fun d hd => ?_, fun d hd => ?_, fun z => ?_⟩
  · by_cases e : d = i
    · rw [e, ls_us]; exact Nat.le_trans (h.2.1 i hi) (h.1.2.1 i hi)
    · rw [ls_un e]; exact h.2.1 d hd
  · by_cases e : d = i
    · rw [e, ls_us]; exact hF
    · rw [ls_un e]; exact h.2.2.1 d (by omega)
  · have ⟨z1, z2⟩ := hm z
    have ⟨a, b⟩ := h.2.2.2 z1
    refine ⟨fun d hd => ?_, fun d hd => ?_⟩
    · by_cases e : d = i
      · rw [e, ls_us, z2]; exact a i hi
      · rw [ls_un e]; exact a d hd
    · by_cases e : d = i
      · rw [e, ← lf_congr ok a i hi, z2]; exact a i hi
      · exact b d (by omega)
theorem xv_zero {N : Nat} {T dd ed : Int32} {tk ln sk os de re le so od : Nat → Int32} {post : SX → Prop} (hN : N ≤ 12) (K : ∀ sh : Nat → Int32, (∀ d, d < N → sh d = 0) → ∃ n, wX_findValues_27 post n 1 0 (nI N) T dd ed tk ln sk sh os de re le so od) : ∀ (m i n : Nat) (sh : Nat → Int32), i + m = N → m < n → (∀ d, d < i → sh d = 0) → wX_findValues_2 post (nI N) T dd ed n (nI i) tk ln sk sh os de re le so od := by
  intro m
  induction m with
  | zero =>
    intro i n sh hi hn hv
    obtain ⟨n, rfl⟩ : ∃ k, n = k + 1 := ⟨n - 1, by omega⟩
    exact br_t (nI_le (by omega) (by omega)) (K sh (fun d hd => hv d (by omega)))
  | succ m ih =>
    intro i n sh hi hn hv
    obtain ⟨n, rfl⟩ : ∃ k, n = k + 1 := ⟨n - 1, by omega⟩
    refine br_f (nI_ge (by omega) (by omega)) ⟨vp_in_nI (by omega) (by decide), nm_e (nm_r (nI_1 i) (ih (i + 1) n _ (by omega) (by omega) ?_))⟩
    intro d hd
    rw [nI_clamp (by omega)]
    by_cases e : d = i
    · rw [e, pk_us]
    · rw [pk_un e]; exact hv d (by omega)
theorem xv_in {N T : Nat} {t l w0 : Nat → Nat} {dd ed x2 : Int32} {os de re le so od : Nat → Int32} {post : SX → Prop} {J : Int32 → Int32 → Int32 → Int32 → Int32 → Int32 → (Nat → Int32) → (Nat → Int32) → (Nat → Int32) → (Nat → Int32) → (Nat → Int32) → (Nat → Int32) → (Nat → Int32) → (Nat → Int32) → (Nat → Int32) → (Nat → Int32) → Prop} (hN : N ≤ 12) (hT : T ≤ 15) (hw : ls_all N T t l) (K : ∀ (mv : Int32) (sk sh : Nat → Int32) (w : Nat → Nat), (∀ d, d < N → sh d = nI (w d)) → xv_I N T (ls_F T t l) w0 N w mv → J mv (x2 + 1) (nI N) (nI T) dd ed (ls_I t) (ls_I l) sk sh os de re le so od) : ∀ (m i n : Nat) (mv : Int32) (sk sh : Nat → Int32) (w : Nat → Nat), i + m = N → m < n → (∀ d, d < N → sh d = nI (w d)) → xv_I N T (ls_F T t l) w0 i w mv → wX_findValues_42 post J x2 n mv (nI i) (nI N) (nI T) dd ed (ls_I t) (ls_I l) sk sh os de re le so od := by
  intro m
  induction m with
  | zero =>
    intro i n mv sk sh w hi hn hs hv
    obtain ⟨n, rfl⟩ : ∃ k, n = k + 1 := ⟨n - 1, by omega⟩
    have e : i = N := by omega
    subst e
    exact br_t (nI_le (by omega) (by omega)) (nm_e (K mv sk sh w hs hv))
  | succ m ih =>
    intro i n mv sk sh w hi hn hs hv
    obtain ⟨n, rfl⟩ : ∃ k, n = k + 1 := ⟨n - 1, by omega⟩
    have hiN : i < N := by omega
    have ok := ls_F_ok hw
    have hb := hv.1.1
    have hFb := ok.2 w hb i hiN
    have hwb := hb i hiN
    have main : ∀ (mv' : Int32) (sk' : Nat → Int32), (mv' = 0 → mv = 0 ∧ ls_F T t l w i = w i) → wX_findValues_77 post J (wX_findValues_42 post J x2 n) x2 (nI i) (nI (ls_F T t l w i)) mv' (nI N) (nI T) dd ed (ls_I t) (ls_I l) sk' sh os de re le so od := by
      intro mv' sk' hm
      refine ⟨vp_in_nI (by omega) (by decide), nm_e (nm_r (nI_1 i) (ih (i + 1) n mv' sk' _ _ (by omega) (by omega) ?_ (xv_step ok hv hiN hm)))⟩
      intro d hd
      rw [nI_clamp (by omega)]
      by_cases e : d = i
      · rw [e, pk_us, ls_us]
      · rw [pk_un e, ls_un e]; exact hs d hd
    refine br_f (nI_ge (by omega) (by omega)) (xe_eval hN hT (hw i hiN) hiN hs hb (fun sk' => ?_))
    by_cases h0 : mv = 0
    · refine br_t h0 ⟨vp_in_nI (by omega) (by decide), ?_⟩
      rw [nI_clamp (by omega), hs i hiN]
      exact pk_eq _ _ (fun z => main 0 sk' (fun _ => ⟨h0, z⟩)) (fun _ => main 1 sk' (fun z => absurd z (by decide)))
    · exact br_f h0 (main 1 sk' (fun z => absurd z (by decide)))
theorem xv_out {N T : Nat} {t l : Nat → Nat} {dd ed : Int32} {os de re le so od : Nat → Int32} {post : SX → Prop} (hN : N ≤ 12) (hT : T ≤ 15) (hw : ls_all N T t l) (hp : ∀ (sk sh : Nat → Int32) (w : Nat → Nat), (∀ d, d < N → sh d = nI (w d)) → lf_least N T (ls_F T t l) w → post (nI N, nI T, dd, ed, ls_I t, ls_I l, sk, sh, os, de, re, le, so, od)) : ∀ (m r n : Nat) (mv : Int32) (sk sh : Nat → Int32) (w : Nat → Nat), r + m = 180 → m < n → (∀ d, d < N → sh d = nI (w d)) → lf_R N T (ls_F T t l) r w → (mv = 0 → ∀ d, d < N → ls_F T t l w d = w d) → wX_findValues_27 post n mv (nI r) (nI N) (nI T) dd ed (ls_I t) (ls_I l) sk sh os de re le so od := by
  have ok := ls_F_ok hw
  intro m
  induction m with
  | zero =>
    intro r n mv sk sh w hr hn hs hv hm
    obtain ⟨n, rfl⟩ : ∃ k, n = k + 1 := ⟨n - 1, by omega⟩
    by_cases h0 : mv = 0
    · exact br_t h0 (hp sk sh w hs (lf_end hv.1 (hm h0)))
    · refine br_f h0 (br_t (nI_le (a := 180) (by omega) (by omega)) (hp sk sh w hs (lf_done ok hv ?_)))
      have := Nat.mul_le_mul hN hT
      omega
  | succ m ih =>
    intro r n mv sk sh w hr hn hs hv hm
    obtain ⟨n, rfl⟩ : ∃ k, n = k + 1 := ⟨n - 1, by omega⟩
    by_cases h0 : mv = 0
    · exact br_t h0 (hp sk sh w hs (lf_end hv.1 (hm h0)))
    · refine br_f h0 (br_f (nI_ge (b := 180) (by omega) (by decide)) ⟨N + 1, ?_⟩)
      refine xv_in hN hT hw (fun mv' sk' sh' w' hs' hv' => ?_) N 0 (N + 1) 0 sk sh w (by omega) (by omega) hs (xv_I0 hv.1)
      rw [nI_1]
      refine ih (r + 1) n mv' sk' sh' w' (by omega) (by omega) hs' (lf_round ok hv hv'.1 hv'.2.2.1) (fun z => ?_)
      have ⟨a, b⟩ := hv'.2.2.2 z
      exact lf_sol_congr ok (fun c hc => (a c hc).symm) b
theorem xv_values {N T : Nat} {t l : Nat → Nat} {dd ed : Int32} {sk sh os de re le so od : Nat → Int32} {post : SX → Prop} (hN : N ≤ 12) (hT : T ≤ 15) (hw : ls_all N T t l) (hp : ∀ (sk sh : Nat → Int32) (w : Nat → Nat), (∀ d, d < N → sh d = nI (w d)) → lf_least N T (ls_F T t l) w → post (nI N, nI T, dd, ed, ls_I t, ls_I l, sk, sh, os, de, re, le, so, od)) : wpX_findValues post (nI N, nI T, dd, ed, ls_I t, ls_I l, sk, sh, os, de, re, le, so, od) := by
  refine ⟨N + 1, xv_zero hN (fun sh' h0 => ⟨181, ?_⟩) N 0 (N + 1) sh (by omega) (by omega) (fun d hd => absurd hd (Nat.not_lt_zero d))⟩
  exact xv_out hN hT hw hp 180 0 181 1 sk sh' (fun _ => 0) (by omega) (by omega) (fun d hd => by rw [h0 d hd]; rfl) (lf_R0 (lf_inv0 (fun _ _ => rfl))) (fun z => absurd z (by decide))
end
section
/-! X: findUses, reaches, findReach -/
def de_u (t : Nat → Nat) (c d : Nat) : Nat → Bool
  | 0 => false
  | i + 1 => de_u t c d i || (decide (ls_kd t c i = 1) && decide (ls_ar t c i = d))
def de_Ub (N : Nat) (t l : Nat → Nat) (c d : Nat) : Bool := decide (c < N) && de_u t c d (l c)
theorem de_u_iff {t : Nat → Nat} {c d : Nat} : ∀ n, de_u t c d n = true ↔ ∃ i, i < n ∧ ls_kd t c i = 1 ∧ ls_ar t c i = d
  | 0 => ⟨fun h => absurd h Bool.false_ne_true, fun ⟨i, hi, _⟩ => absurd hi (Nat.not_lt_zero i)⟩
  | n + 1 => by
    show (de_u t c d n || (decide (ls_kd t c n = 1) && decide (ls_ar t c n = d))) = true ↔ _
    rw [Bool.or_eq_true, Bool.and_eq_true, decide_eq_true_eq, decide_eq_true_eq, de_u_iff n]
    constructor
    · rintro (⟨i, hi, h⟩ | h)
      · exact ⟨i, by omega, h⟩
      · exact ⟨n, by omega, h⟩
    · rintro ⟨i, hi, h⟩
      by_cases e : i = n
      · subst e; exact Or.inr h
      · exact Or.inl ⟨i, by omega, h⟩
theorem de_Ub_at {N c d : Nat} {t l : Nat → Nat} (hc : c < N) : de_Ub N t l c d = de_u t c d (l c) := by
  unfold de_Ub
  rw [decide_eq_true hc, Bool.true_and]
theorem de_Ub_lt {N T : Nat} {t l : Nat → Nat} (hw : ls_all N T t l) (c d : Nat) (h : de_Ub N t l c d = true) : d < N := by
  unfold de_Ub at h
  rw [Bool.and_eq_true, decide_eq_true_eq, de_u_iff] at h
  obtain ⟨hc, i, hi, h1, h2⟩ := h
  rw [← h2]
  exact ((hw c hc).1.2 i hi).1.2.2.1 h1
theorem xr_1 : ∀ j, j < 32 → bt 1 j = decide (j = 0) := by decide +kernel
theorem xr_bit {a d : Nat} (ha : a < 32) (hd : d < 32) : bt ((1 : Int32) <<< (nI a &&& 31)) d = decide (a = d) := by
  rw [b_shl a ha 1 hd]
  by_cases h : a ≤ d
  · rw [decide_eq_true h, Bool.true_and, xr_1 _ (by omega)]
    by_cases e : a = d
    · rw [decide_eq_true e, decide_eq_true (by omega)]
    · rw [decide_eq_false e, decide_eq_false (by omega)]
  · rw [decide_eq_false h, Bool.false_and, decide_eq_false (by omega)]
theorem xr_test (x : Int32) {d : Nat} (hd : d < 32) : ((x >>> (nI d &&& 31)) &&& 1) = 1 ↔ bt x d = true := by
  have e : ∀ j, j < 32 → bt ((x >>> (nI d &&& 31)) &&& 1) j = (decide (j = 0) && bt x d) := by
    intro j hj
    rw [b_and, xr_1 j hj, b_sshr d hd x hj, Bool.and_comm]
    by_cases z : j = 0
    · subst z
      rw [if_pos (by omega), Nat.add_zero]
    · rw [decide_eq_false z, Bool.false_and, Bool.false_and]
  constructor
  · intro h
    have h0 := e 0 (by omega)
    rw [h, xr_1 0 (by omega)] at h0
    rw [decide_eq_true rfl, Bool.true_and] at h0
    exact h0.symm
  · intro h
    apply b_ext
    intro j hj
    rw [e j hj, h, Bool.and_true, xr_1 j hj]
theorem xr_reaches {c d : Nat} {post : Int32 → Prop} {N T dd ed : Int32} {tk ln sk sh os de re le so od : Nat → Int32} (hc : c < 12) (hd : d < 12) (h1 : bt (re c) d = true → post 1) (h0 : bt (re c) d = false → post 0) : wpX_reaches post (N, T, dd, ed, tk, ln, sk, sh, os, de, re, le, so, od) (nI c) (nI d) := by
  refine ⟨vp_in_nI hc (by decide), ?_⟩
  rw [nI_clamp (by omega)]
  refine br_c (fun z => h1 ((xr_test _ (by omega)).mp z)) (fun z => h0 ?_)
  cases e : bt (re c) d
  · rfl
  · exact absurd ((xr_test _ (by omega)).mpr e) z
theorem xr_uses_loop {N T : Nat} {t l : Nat → Nat} {c : Nat} {T' dd ed N' : Int32} {sk sh os de re le so od : Nat → Int32} {post : Int32 → Prop} (hN : N ≤ 12) (hT : T ≤ 15) (hw : ls_dr N T (l c) (ls_kd t c) (ls_ar t c)) (hc : c < 12) (hp : ∀ x : Int32, (∀ d, d < 32 → bt x d = de_u t c d (l c)) → post x) : ∀ (m i n : Nat) (x : Int32), i + m = l c → m < n → (∀ d, d < 32 → bt x d = de_u t c d i) → wX_findUses_20 post (nI (8 * c + l c)) N' T' dd ed (ls_I t) (ls_I l) sk sh os de re le so od n x (nI (8 * c + i)) := by
  have h8 := hw.1
  intro m
  induction m with
  | zero =>
    intro i n x hi hn hv
    obtain ⟨n, rfl⟩ : ∃ k, n = k + 1 := ⟨n - 1, by omega⟩
    have e : i = l c := by omega
    exact br_t (nI_le (by omega) (by omega)) (hp x (fun d hd => by rw [hv d hd, e]))
  | succ m ih =>
    intro i n x hi hn hv
    obtain ⟨n, rfl⟩ : ∃ k, n = k + 1 := ⟨n - 1, by omega⟩
    have ⟨h5, ha, h6, hi8, hsh, href⟩ := xe_tok hN hT hw (i := i) (by omega)
    have hin : vp_in (nI (8 * c + i)) 104 := vp_in_nI (by omega) (by decide)
    refine br_f (nI_ge (by omega) (by omega)) ⟨hin, by decide, ?_⟩
    rw [xe_rem h6 (by omega) hi8, xe_div h6 (by omega) hi8]
    refine pk_eq _ 1 (fun h1 => ⟨hin, by decide, nm_e (nm_r (e' := nI (8 * c + (i + 1))) (nI_1 _) (ih (i + 1) n _ (by omega) (by omega) ?_))⟩) (fun h1 => nm_r (e' := nI (8 * c + (i + 1))) (nI_1 _) (ih (i + 1) n _ (by omega) (by omega) ?_))
    · intro d hd
      have hr := href h1
      rw [b_or, hv d hd, xr_bit (by omega) hd]
      show _ = (de_u t c d i || (decide (ls_kd t c i = 1) && decide (ls_ar t c i = d)))
      rw [decide_eq_true h1, Bool.true_and]
    · intro d hd
      rw [hv d hd]
      show _ = (de_u t c d i || (decide (ls_kd t c i = 1) && decide (ls_ar t c i = d)))
      rw [decide_eq_false h1, Bool.false_and, Bool.or_false]
theorem xr_uses {N T : Nat} {t l : Nat → Nat} {c : Nat} {T' dd ed N' : Int32} {sk sh os de re le so od : Nat → Int32} {post : Int32 → Prop} (hN : N ≤ 12) (hT : T ≤ 15) (hw : ls_dr N T (l c) (ls_kd t c) (ls_ar t c)) (hc : c < 12) (hp : ∀ x : Int32, (∀ d, d < 32 → bt x d = de_u t c d (l c)) → post x) : wpX_findUses post (N', T', dd, ed, ls_I t, ls_I l, sk, sh, os, de, re, le, so, od) (nI c) := by
  have h8 := hw.1
  have e1 : nI c * 8 = nI (8 * c) := by rw [Nat.mul_comm]; exact pk_mul c 8
  have e2 : nI (8 * c) + ls_I l (nI c).toNatClampNeg = nI (8 * c + l c) := by rw [ls_Iat (by omega), nI_add]
  refine nm_r e1 ⟨vp_in_nI (by omega) (by decide), nm_r e2 ⟨l c + 1, ?_⟩⟩
  exact xr_uses_loop hN hT hw hc hp (l c) 0 (l c + 1) 0 (by omega) (by omega) (fun d hd => b_0 d)
theorem xr_diag (U : Nat → Nat → Bool) (k d : Nat) : wa_S U (k + 1) k d = wa_S U k k d := by
  show (wa_S U k k d || (wa_S U k k k && wa_S U k k d)) = _
  cases wa_S U k k d
  · rw [Bool.and_false]; rfl
  · rfl
/-- the rows while cell k is gone through: those below i are done -/
def xr_I (N : Nat) (U : Nat → Nat → Bool) (k i : Nat) (re : Nat → Int32) : Prop := ∀ c d, c < N → d < N → bt (re c) d = if c < i then wa_S U (k + 1) c d else wa_S U k c d
theorem xr_in {N : Nat} {U : Nat → Nat → Bool} {k : Nat} {T dd ed : Int32} {tk ln sk sh os de le so od : Nat → Int32} {post : SX → Prop} {J : Int32 → (Nat → Int32) → (Nat → Int32) → (Nat → Int32) → (Nat → Int32) → (Nat → Int32) → (Nat → Int32) → (Nat → Int32) → (Nat → Int32) → (Nat → Int32) → (Nat → Int32) → Prop} (hN : N ≤ 12) (hk : k < N) (K : ∀ re : Nat → Int32, xr_I N U k N re → J (nI (k + 1)) tk ln sk sh os de re le so od) : ∀ (m i n : Nat) (re : Nat → Int32), i + m = N → m < n → xr_I N U k i re → wX_findReach_39 post J (nI k) (nI N) T dd ed n (nI i) tk ln sk sh os de re le so od := by
  intro m
  induction m with
  | zero =>
    intro i n re hi hn hv
    obtain ⟨n, rfl⟩ : ∃ k, n = k + 1 := ⟨n - 1, by omega⟩
    have e : i = N := by omega
    subst e
    exact br_t (nI_le (by omega) (by omega)) (nm_r (nI_1 k) (K re hv))
  | succ m ih =>
    intro i n re hi hn hv
    obtain ⟨n, rfl⟩ : ∃ k, n = k + 1 := ⟨n - 1, by omega⟩
    have hik := hv i k (by omega) hk
    rw [if_neg (Nat.lt_irrefl i)] at hik
    refine br_f (nI_ge (by omega) (by omega)) (xr_reaches (by omega) (by omega) (fun hb => ?_) (fun hb => ?_))
    · refine br_f (by decide) ⟨vp_in_nI (by omega) (by decide), vp_in_nI (by omega) (by decide), vp_in_nI (by omega) (by decide), nm_e (nm_r (nI_1 i) (ih (i + 1) n _ (by omega) (by omega) ?_))⟩
      intro c d hc hd
      rw [nI_clamp (by omega), nI_clamp (by omega)]
      by_cases e : c = i
      · rw [e, pk_us, b_or, hv i d (by omega) hd, hv k d hk hd, if_neg (Nat.lt_irrefl i), if_pos (Nat.lt_succ_self i)]
        show _ = (wa_S U k i d || (wa_S U k i k && wa_S U k k d))
        rw [← hik, hb, Bool.true_and]
        by_cases z : k < i
        · rw [if_pos z, xr_diag]
        · rw [if_neg z]
      · rw [pk_un e, hv c d hc hd]
        by_cases z : c < i
        · rw [if_pos z, if_pos (by omega)]
        · rw [if_neg z, if_neg (by omega)]
    · refine br_t rfl (nm_r (nI_1 i) (ih (i + 1) n _ (by omega) (by omega) ?_))
      intro c d hc hd
      by_cases e : c = i
      · rw [e, hv i d (by omega) hd, if_neg (Nat.lt_irrefl i), if_pos (Nat.lt_succ_self i)]
        show _ = (wa_S U k i d || (wa_S U k i k && wa_S U k k d))
        rw [← hik, hb, Bool.false_and, Bool.or_false]
      · rw [hv c d hc hd]
        by_cases z : c < i
        · rw [if_pos z, if_pos (by omega)]
        · rw [if_neg z, if_neg (by omega)]
theorem xr_out {N : Nat} {U : Nat → Nat → Bool} {T dd ed : Int32} {tk ln sk sh os de le so od : Nat → Int32} {post : SX → Prop} (hN : N ≤ 12) (hp : ∀ re : Nat → Int32, (∀ c d, c < N → d < N → bt (re c) d = wa_S U N c d) → post (nI N, T, dd, ed, tk, ln, sk, sh, os, de, re, le, so, od)) : ∀ (m k n : Nat) (re : Nat → Int32), k + m = N → m < n → (∀ c d, c < N → d < N → bt (re c) d = wa_S U k c d) → wX_findReach_29 post (nI N) T dd ed n (nI k) tk ln sk sh os de re le so od := by
  intro m
  induction m with
  | zero =>
    intro k n re hk hn hv
    obtain ⟨n, rfl⟩ : ∃ k, n = k + 1 := ⟨n - 1, by omega⟩
    have e : k = N := by omega
    subst e
    exact br_t (nI_le (by omega) (by omega)) (hp re hv)
  | succ m ih =>
    intro k n re hk hn hv
    obtain ⟨n, rfl⟩ : ∃ k, n = k + 1 := ⟨n - 1, by omega⟩
    refine br_f (nI_ge (by omega) (by omega)) ⟨N + 1, xr_in hN (U := U) (by omega) (fun re' h' => ih (k + 1) n re' (by omega) (by omega) (fun c d hc hd => ?_)) N 0 (N + 1) re (by omega) (by omega) (fun c d hc hd => ?_)⟩
    · rw [h' c d hc hd, if_pos hc]
    · rw [if_neg (Nat.not_lt_zero c)]; exact hv c d hc hd
theorem xr_first {N T : Nat} {t l : Nat → Nat} {T' dd ed : Int32} {sk sh os de le so od : Nat → Int32} {post : SX → Prop} (hN : N ≤ 12) (hT : T ≤ 15) (hw : ls_all N T t l) (hp : ∀ re : Nat → Int32, (∀ c d, c < N → d < N → bt (re c) d = wa_S (de_Ub N t l) N c d) → post (nI N, T', dd, ed, ls_I t, ls_I l, sk, sh, os, de, re, le, so, od)) : ∀ (m i n : Nat) (re : Nat → Int32), i + m = N → m < n → (∀ c d, c < i → d < N → bt (re c) d = de_Ub N t l c d) → wX_findReach_2 post (nI N) T' dd ed n (nI i) (ls_I t) (ls_I l) sk sh os de re le so od := by
  intro m
  induction m with
  | zero =>
    intro i n re hi hn hv
    obtain ⟨n, rfl⟩ : ∃ k, n = k + 1 := ⟨n - 1, by omega⟩
    exact br_t (nI_le (by omega) (by omega)) ⟨N + 1, xr_out hN hp N 0 (N + 1) re (by omega) (by omega) (fun c d hc hd => hv c d (by omega) hd)⟩
  | succ m ih =>
    intro i n re hi hn hv
    obtain ⟨n, rfl⟩ : ∃ k, n = k + 1 := ⟨n - 1, by omega⟩
    refine br_f (nI_ge (by omega) (by omega)) (xr_uses hN hT (hw i (by omega)).1 (by omega) (fun x hx => ⟨vp_in_nI (by omega) (by decide), nm_e (nm_r (nI_1 i) (ih (i + 1) n _ (by omega) (by omega) ?_))⟩))
    intro c d hc hd
    rw [nI_clamp (by omega)]
    by_cases e : c = i
    · rw [e, pk_us, hx d (by omega), de_Ub_at (by omega)]
    · rw [pk_un e]; exact hv c d (by omega) hd
theorem xr_reach {N T : Nat} {t l : Nat → Nat} {T' dd ed : Int32} {sk sh os de re le so od : Nat → Int32} {post : SX → Prop} (hN : N ≤ 12) (hT : T ≤ 15) (hw : ls_all N T t l) (hp : ∀ re : Nat → Int32, (∀ c d, c < N → d < N → bt (re c) d = wa_S (de_Ub N t l) N c d) → post (nI N, T', dd, ed, ls_I t, ls_I l, sk, sh, os, de, re, le, so, od)) : wpX_findReach post (nI N, T', dd, ed, ls_I t, ls_I l, sk, sh, os, de, re, le, so, od) :=
  ⟨N + 1, xr_first hN hT hw hp N 0 (N + 1) re (by omega) (by omega) (fun c _ hc _ => absurd hc (Nat.not_lt_zero c))⟩
end
section
/-! X: findLeader, findRank, findOrder, findStructure -/
theorem xo_lead {N c : Nat} {D : Nat → Nat → Bool} {T dd ed : Int32} {tk ln sk sh os de re le so od : Nat → Int32} {post : Int32 → Prop} (hN : N ≤ 12) (hc : c < N) (hD : ∀ c d, c < N → d < N → bt (re c) d = D c d) : ∀ (m d n : Nat), d + m = c → m < n → post (nI (or_ldf D c m d)) → wX_findLeader_2 post (nI c) (nI N) T dd ed tk ln sk sh os de re le so od n (nI d) := by
  intro m
  induction m with
  | zero =>
    intro d n hd hn hp
    obtain ⟨n, rfl⟩ : ∃ k, n = k + 1 := ⟨n - 1, by omega⟩
    have e : d = c := by omega
    subst e
    exact br_t (nI_le (by omega) (by omega)) hp
  | succ m ih =>
    intro d n hd hn hp
    obtain ⟨n, rfl⟩ : ∃ k, n = k + 1 := ⟨n - 1, by omega⟩
    have hp' : post (nI (if (D c d && D d c) = true then d else or_ldf D c m (d + 1))) := hp
    refine br_f (nI_ge (by omega) (by omega)) (xr_reaches (by omega) (by omega) (fun h1 => ?_) (fun h1 => ?_))
    · rw [hD c d hc (by omega)] at h1
      refine br_f (by decide) (xr_reaches (by omega) (by omega) (fun h2 => ?_) (fun h2 => ?_))
      · rw [hD d c (by omega) hc] at h2
        rw [h1, h2] at hp'
        exact br_f (by decide) hp'
      · rw [hD d c (by omega) hc] at h2
        rw [h1, h2] at hp'
        exact br_t rfl (nm_r (nI_1 d) (ih (d + 1) n (by omega) (by omega) hp'))
    · rw [hD c d hc (by omega)] at h1
      rw [h1] at hp'
      exact br_t rfl (nm_r (nI_1 d) (ih (d + 1) n (by omega) (by omega) hp'))
theorem xo_leader {N c : Nat} {D : Nat → Nat → Bool} {T dd ed : Int32} {tk ln sk sh os de re le so od : Nat → Int32} {post : Int32 → Prop} (hN : N ≤ 12) (hc : c < N) (hD : ∀ c d, c < N → d < N → bt (re c) d = D c d) (hp : post (nI (or_ld D c))) : wpX_findLeader post (nI N, T, dd, ed, tk, ln, sk, sh, os, de, re, le, so, od) (nI c) :=
  ⟨c + 1, xo_lead hN hc hD c 0 (c + 1) (by omega) (by omega) hp⟩
theorem xo_rk {N c : Nat} {D : Nat → Nat → Bool} {T dd ed : Int32} {tk ln sk sh os de re le so od : Nat → Int32} {post : Int32 → Prop} (hN : N ≤ 12) (hc : c < N) (hD : ∀ c d, c < N → d < N → bt (re c) d = D c d) (hp : post (nI (or_rk N D c))) : ∀ (m d n : Nat), d + m = N → m < n → wX_findRank_4 post (nI c) (nI N) T dd ed tk ln sk sh os de re le so od n (nI (or_cnt (or_rp D c) d)) (nI d) := by
  intro m
  induction m with
  | zero =>
    intro d n hd hn
    obtain ⟨n, rfl⟩ : ∃ k, n = k + 1 := ⟨n - 1, by omega⟩
    have e : d = N := by omega
    subst e
    exact br_t (nI_le (by omega) (by omega)) hp
  | succ m ih =>
    intro d n hd hn
    obtain ⟨n, rfl⟩ : ∃ k, n = k + 1 := ⟨n - 1, by omega⟩
    have ihd := ih (d + 1) n (by omega) (by omega)
    refine br_f (nI_ge (by omega) (by omega)) (xr_reaches (by omega) (by omega) (fun h1 => ?_) (fun h1 => ?_))
    · rw [hD c d hc (by omega)] at h1
      refine br_f (by decide) (xr_reaches (by omega) (by omega) (fun h2 => ?_) (fun h2 => ?_))
      · rw [hD d c (by omega) hc] at h2
        rw [or_cntF (by show (D c d && !D d c) = false; rw [h1, h2]; rfl)] at ihd
        exact br_f (by decide) (nm_r (nI_1 d) ihd)
      · rw [hD d c (by omega) hc] at h2
        rw [or_cnt1 (by show (D c d && !D d c) = true; rw [h1, h2]; rfl)] at ihd
        exact br_t rfl (nm_r (nI_1 _) (nm_r (nI_1 d) ihd))
    · rw [hD c d hc (by omega)] at h1
      rw [or_cntF (by show (D c d && !D d c) = false; rw [h1]; rfl)] at ihd
      exact br_t rfl (nm_r (nI_1 d) ihd)
theorem xo_rank {N c : Nat} {D : Nat → Nat → Bool} {T dd ed : Int32} {tk ln sk sh os de re le so od : Nat → Int32} {post : Int32 → Prop} (hN : N ≤ 12) (hc : c < N) (hD : ∀ c d, c < N → d < N → bt (re c) d = D c d) (hp : post (nI (or_rk N D c))) : wpX_findRank post (nI N, T, dd, ed, tk, ln, sk, sh, os, de, re, le, so, od) (nI c) :=
  ⟨N + 1, xo_rk hN hc hD hp N 0 (N + 1) (by omega) (by omega)⟩
theorem or_key_lt {N : Nat} (D : Nat → Nat → Bool) {c : Nat} (hN : N ≤ 12) (hc : c < N) : or_key N D c < 10000 := by
  have h1 := or_cnt_le (or_rp D c) N
  have h2 := or_ld_le D c
  unfold or_key or_rk
  omega
theorem xo_count {N c : Nat} {D : Nat → Nat → Bool} {T dd ed : Int32} {tk ln sk sh os de re le so od : Nat → Int32} {post : SX → Prop} {J : Int32 → (Nat → Int32) → (Nat → Int32) → (Nat → Int32) → (Nat → Int32) → (Nat → Int32) → (Nat → Int32) → (Nat → Int32) → (Nat → Int32) → (Nat → Int32) → (Nat → Int32) → Prop} (hN : N ≤ 12) (hc : c < N) (hs : ∀ c, c < N → so c = nI (or_key N D c)) (K : J (nI (c + 1)) tk ln sk sh os de re le so (upd od (or_pl N D c) (nI c))) : ∀ (m d n : Nat), d + m = N → m < n → wX_findOrder_58 post J (nI c) (nI N) T dd ed tk ln sk sh os de re le so od n (nI (or_cnt (or_pp N D c) d)) (nI d) := by
  intro m
  induction m with
  | zero =>
    intro d n hd hn
    obtain ⟨n, rfl⟩ : ∃ k, n = k + 1 := ⟨n - 1, by omega⟩
    have e : d = N := by omega
    subst e
    have hpl : or_cnt (or_pp d D c) d < d := or_pl_lt D hc
    refine br_t (nI_le (by omega) (by omega)) ⟨vp_in_nI (by omega) (by decide), nm_e (nm_r (nI_1 c) ?_)⟩
    rw [nI_clamp (by omega)]
    exact K
  | succ m ih =>
    intro d n hd hn
    obtain ⟨n, rfl⟩ : ∃ k, n = k + 1 := ⟨n - 1, by omega⟩
    have ihd := ih (d + 1) n (by omega) (by omega)
    have k1 := or_key_lt D hN hc
    have k2 := or_key_lt D hN (show d < N by omega)
    refine br_f (nI_ge (by omega) (by omega)) ⟨vp_in_nI (by omega) (by decide), vp_in_nI (by omega) (by decide), ?_⟩
    rw [nI_clamp (by omega), nI_clamp (by omega), hs c hc, hs d (by omega)]
    refine pk_le _ _ (fun z => nm_r (nI_1 d) ?_) (fun z => nm_r (nI_1 _) (nm_r (nI_1 d) ?_))
    · rw [or_cntF (decide_eq_false (by omega))] at ihd
      exact ihd
    · rw [or_cnt1 (decide_eq_true z)] at ihd
      exact ihd
theorem xo_place {N : Nat} {D : Nat → Nat → Bool} {T dd ed : Int32} {tk ln sk sh os de re le so : Nat → Int32} {post : SX → Prop} (hN : N ≤ 12) (hs : ∀ c, c < N → so c = nI (or_key N D c)) (hp : ∀ od : Nat → Int32, (∀ c, c < N → od (or_pl N D c) = nI c) → post (nI N, T, dd, ed, tk, ln, sk, sh, os, de, re, le, so, od)) : ∀ (m i n : Nat) (od : Nat → Int32), i + m = N → m < n → (∀ c, c < i → od (or_pl N D c) = nI c) → wX_findOrder_46 post (nI N) T dd ed n (nI i) tk ln sk sh os de re le so od := by
  intro m
  induction m with
  | zero =>
    intro i n od hi hn hv
    obtain ⟨n, rfl⟩ : ∃ k, n = k + 1 := ⟨n - 1, by omega⟩
    have e : i = N := by omega
    subst e
    exact br_t (nI_le (by omega) (by omega)) (hp od hv)
  | succ m ih =>
    intro i n od hi hn hv
    obtain ⟨n, rfl⟩ : ∃ k, n = k + 1 := ⟨n - 1, by omega⟩
    refine br_f (nI_ge (by omega) (by omega)) ⟨N + 1, xo_count (D := D) hN (by omega) hs (ih (i + 1) n _ (by omega) (by omega) (fun c hc => ?_)) N 0 (N + 1) (by omega) (by omega)⟩
    by_cases e : c = i
    · rw [e, pk_us]
    · rw [pk_un (fun z => e (or_pl_inj hN (by omega) (by omega) z))]
      exact hv c (by omega)
theorem xo_keys {N : Nat} {D : Nat → Nat → Bool} {T dd ed : Int32} {tk ln sk sh os de re le od : Nat → Int32} {post : SX → Prop} (hN : N ≤ 12) (hD : ∀ c d, c < N → d < N → bt (re c) d = D c d) (hl : ∀ c, c < N → le c = nI (or_ld D c)) (hp : ∀ so od : Nat → Int32, (∀ c, c < N → od (or_pl N D c) = nI c) → post (nI N, T, dd, ed, tk, ln, sk, sh, os, de, re, le, so, od)) : ∀ (m i n : Nat) (so : Nat → Int32), i + m = N → m < n → (∀ c, c < i → so c = nI (or_key N D c)) → wX_findOrder_2 post (nI N) T dd ed n (nI i) tk ln sk sh os de re le so od := by
  intro m
  induction m with
  | zero =>
    intro i n so hi hn hv
    obtain ⟨n, rfl⟩ : ∃ k, n = k + 1 := ⟨n - 1, by omega⟩
    have e : i = N := by omega
    subst e
    exact br_t (nI_le (by omega) (by omega)) ⟨i + 1, xo_place hN hv (fun od h => hp so od h) i 0 (i + 1) od (by omega) (by omega) (fun c hc => absurd hc (Nat.not_lt_zero c))⟩
  | succ m ih =>
    intro i n so hi hn hv
    obtain ⟨n, rfl⟩ : ∃ k, n = k + 1 := ⟨n - 1, by omega⟩
    refine br_f (nI_ge (by omega) (by omega)) (xo_rank hN (by omega) hD ⟨vp_in_nI (by omega) (by decide), vp_in_nI (by omega) (by decide), nm_e (nm_r (nI_1 i) (ih (i + 1) n _ (by omega) (by omega) (fun c hc => ?_)))⟩)
    rw [nI_clamp (by omega)]
    by_cases e : c = i
    · rw [e, pk_us, hl i (by omega)]
      have e1 : nI (or_rk N D i) * 12 = nI (or_rk N D i * 12) := pk_mul _ 12
      have e2 : nI (or_rk N D i * 12 + or_ld D i) * 12 = nI ((or_rk N D i * 12 + or_ld D i) * 12) := pk_mul _ 12
      rw [e1, nI_add, e2, nI_add]
      rfl
    · rw [pk_un e]; exact hv c (by omega)
theorem xo_order {N : Nat} {D : Nat → Nat → Bool} {T dd ed : Int32} {tk ln sk sh os de re le so od : Nat → Int32} {post : SX → Prop} (hN : N ≤ 12) (hD : ∀ c d, c < N → d < N → bt (re c) d = D c d) (hl : ∀ c, c < N → le c = nI (or_ld D c)) (hp : ∀ so od : Nat → Int32, (∀ c, c < N → od (or_pl N D c) = nI c) → post (nI N, T, dd, ed, tk, ln, sk, sh, os, de, re, le, so, od)) : wpX_findOrder post (nI N, T, dd, ed, tk, ln, sk, sh, os, de, re, le, so, od) :=
  ⟨N + 1, xo_keys hN hD hl hp N 0 (N + 1) so (by omega) (by omega) (fun c hc => absurd hc (Nat.not_lt_zero c))⟩
/-- what the class keeps of a dependence D -/
def xs_ok (N : Nat) (D : Nat → Nat → Bool) (re le od : Nat → Int32) : Prop := (∀ c d, c < N → d < N → bt (re c) d = D c d) ∧ (∀ c, c < N → le c = nI (or_ld D c)) ∧ (∀ c, c < N → od (or_pl N D c) = nI c)
theorem xs_lead {N : Nat} {D : Nat → Nat → Bool} {T dd ed : Int32} {tk ln sk sh os de re so od : Nat → Int32} {post : SX → Prop} (hN : N ≤ 12) (hD : ∀ c d, c < N → d < N → bt (re c) d = D c d) (hp : ∀ le so od : Nat → Int32, xs_ok N D re le od → post (nI N, T, dd, ed, tk, ln, sk, sh, os, de, re, le, so, od)) : ∀ (m i n : Nat) (le : Nat → Int32), i + m = N → m < n → (∀ c, c < i → le c = nI (or_ld D c)) → wX_findStructure_6 post (nI N) T dd ed n (nI i) tk ln sk sh os de re le so od := by
  intro m
  induction m with
  | zero =>
    intro i n le hi hn hv
    obtain ⟨n, rfl⟩ : ∃ k, n = k + 1 := ⟨n - 1, by omega⟩
    have e : i = N := by omega
    subst e
    exact br_t (nI_le (by omega) (by omega)) (xo_order hN hD hv (fun so od h => hp le so od ⟨hD, hv, h⟩))
  | succ m ih =>
    intro i n le hi hn hv
    obtain ⟨n, rfl⟩ : ∃ k, n = k + 1 := ⟨n - 1, by omega⟩
    refine br_f (nI_ge (by omega) (by omega)) (xo_leader hN (by omega) hD ⟨vp_in_nI (by omega) (by decide), nm_e (nm_r (nI_1 i) (ih (i + 1) n _ (by omega) (by omega) (fun c hc => ?_)))⟩)
    rw [nI_clamp (by omega)]
    by_cases e : c = i
    · rw [e, pk_us]
    · rw [pk_un e]; exact hv c (by omega)
theorem xs_struct {N T : Nat} {t l : Nat → Nat} {T' dd ed : Int32} {sk sh os de re le so od : Nat → Int32} {post : SX → Prop} (hN : N ≤ 12) (hT : T ≤ 15) (hw : ls_all N T t l) (hp : ∀ re le so od : Nat → Int32, xs_ok N (wa_S (de_Ub N t l) N) re le od → post (nI N, T', dd, ed, ls_I t, ls_I l, sk, sh, os, de, re, le, so, od)) : wpX_findStructure post (nI N, T', dd, ed, ls_I t, ls_I l, sk, sh, os, de, re, le, so, od) := by
  unfold wpX_findStructure
  refine xr_reach hN hT hw (fun re' hD => ⟨N + 1, ?_⟩)
  exact xs_lead hN hD (fun le so od h => hp re' le so od h) N 0 (N + 1) le (by omega) (by omega) (fun c hc => absurd hc (Nat.not_lt_zero c))
end
section
/-! X: settle -/
theorem xt_delta {N T : Nat} {t l : Nat → Nat} {e dd ed : Int32} {sk sh os re le so od : Nat → Int32} {post : SX → Prop} (hN : N ≤ 12) (hT : T ≤ 15) (hw : ls_all N T t l) (hp : ∀ de re le so od : Nat → Int32, (∀ d, d < N → de d = sh d - os d) → xs_ok N (wa_S (de_Ub N t l) N) re le od → post (nI N, nI T, dd, e, ls_I t, ls_I l, sk, sh, os, de, re, le, so, od)) : ∀ (m i n : Nat) (de : Nat → Int32), i + m = N → m < n → (∀ d, d < i → de d = sh d - os d) → wX_settle_34 post e (nI N) (nI T) dd ed n (nI i) (ls_I t) (ls_I l) sk sh os de re le so od := by
  intro m
  induction m with
  | zero =>
    intro i n de hi hn hv
    obtain ⟨n, rfl⟩ : ∃ k, n = k + 1 := ⟨n - 1, by omega⟩
    have z : i = N := by omega
    subst z
    exact br_t (nI_le (by omega) (by omega)) (xs_struct hN hT hw (fun re le so od h => hp de re le so od hv h))
  | succ m ih =>
    intro i n de hi hn hv
    obtain ⟨n, rfl⟩ : ∃ k, n = k + 1 := ⟨n - 1, by omega⟩
    have hin : vp_in (nI i) 12 := vp_in_nI (by omega) (by decide)
    refine br_f (nI_ge (by omega) (by omega)) ⟨hin, hin, hin, nm_e (nm_r (nI_1 i) (ih (i + 1) n _ (by omega) (by omega) (fun d hd => ?_)))⟩
    rw [nI_clamp (by omega)]
    by_cases z : d = i
    · rw [z, pk_us]
    · rw [pk_un z]; exact hv d (by omega)
theorem xt_old {N T : Nat} {t l : Nat → Nat} {e dd ed : Int32} {sk sh de re le so od : Nat → Int32} {post : SX → Prop} (hN : N ≤ 12) (hT : T ≤ 15) (hw : ls_all N T t l) (hp : ∀ (sk sh' os de re le so od : Nat → Int32) (w : Nat → Nat), (∀ d, d < N → sh' d = nI (w d)) → lf_least N T (ls_F T t l) w → (∀ d, d < N → de d = sh' d - sh d) → xs_ok N (wa_S (de_Ub N t l) N) re le od → post (nI N, nI T, dd, e, ls_I t, ls_I l, sk, sh', os, de, re, le, so, od)) : ∀ (m i n : Nat) (os : Nat → Int32), i + m = N → m < n → (∀ d, d < i → os d = sh d) → wX_settle_2 post e (nI N) (nI T) dd ed n (nI i) (ls_I t) (ls_I l) sk sh os de re le so od := by
  intro m
  induction m with
  | zero =>
    intro i n os hi hn hv
    obtain ⟨n, rfl⟩ : ∃ k, n = k + 1 := ⟨n - 1, by omega⟩
    have z : i = N := by omega
    subst z
    refine br_t (nI_le (by omega) (by omega)) (xv_values hN hT hw (fun sk' sh' w h1 h2 => ⟨i + 1, ?_⟩))
    exact xt_delta hN hT hw (fun de re le so od h3 h4 => hp sk' sh' os de re le so od w h1 h2 (fun d hd => by rw [h3 d hd, hv d hd]) h4) i 0 (i + 1) de (by omega) (by omega) (fun d hd => absurd hd (Nat.not_lt_zero d))
  | succ m ih =>
    intro i n os hi hn hv
    obtain ⟨n, rfl⟩ : ∃ k, n = k + 1 := ⟨n - 1, by omega⟩
    have hin : vp_in (nI i) 12 := vp_in_nI (by omega) (by decide)
    refine br_f (nI_ge (by omega) (by omega)) ⟨hin, hin, nm_e (nm_r (nI_1 i) (ih (i + 1) n _ (by omega) (by omega) (fun d hd => ?_)))⟩
    rw [nI_clamp (by omega)]
    by_cases z : d = i
    · rw [z, pk_us]
    · rw [pk_un z]; exact hv d (by omega)
theorem xt_settle {N T : Nat} {t l : Nat → Nat} {e dd ed : Int32} {sk sh os de re le so od : Nat → Int32} {post : SX → Prop} (hN : N ≤ 12) (hT : T ≤ 15) (hw : ls_all N T t l) (hp : ∀ (sk sh' os de re le so od : Nat → Int32) (w : Nat → Nat), (∀ d, d < N → sh' d = nI (w d)) → lf_least N T (ls_F T t l) w → (∀ d, d < N → de d = sh' d - sh d) → xs_ok N (wa_S (de_Ub N t l) N) re le od → post (nI N, nI T, dd, e, ls_I t, ls_I l, sk, sh', os, de, re, le, so, od)) : wpX_settle post (nI N, nI T, dd, ed, ls_I t, ls_I l, sk, sh, os, de, re, le, so, od) e :=
  ⟨N + 1, xt_old hN hT hw hp N 0 (N + 1) os (by omega) (by omega) (fun d hd => absurd hd (Nat.not_lt_zero d))⟩
end
section
/-! Y: evaluate, solve -/
theorem ye_loop {N T : Nat} {t l w : Nat → Nat} {c : Nat} {ed : Int32} {sh ol dp nx : Nat → Int32} {post : Int32 → SY → Prop} (hN : N ≤ 12) (hT : T ≤ 15) (hw : ls_wf N T (l c) (ls_kd t c) (ls_ar t c)) (hc : c < N) (hs : ∀ d, d < N → sh d = nI (w d)) (hb : ∀ d, d < N → w d ≤ T) (hp : ∀ sk' : Nat → Int32, post (nI (ls_F T t l w c)) (nI N, nI T, ed, ls_I t, ls_I l, sh, ol, dp, nx, sk')) : ∀ (m i n : Nat) (sk : Nat → Int32), i + m = l c → m < n → (∀ j, j < ls_dp (ls_kd t c) i → sk j = nI (ls_st T w (ls_kd t c) (ls_ar t c) i j)) → wY_evaluate_4 post (nI c) (nI N) (nI T) ed n (nI (ls_dp (ls_kd t c) i)) (nI i) (ls_I t) (ls_I l) sh ol dp nx sk := by
  have h8 := hw.1.1
  have el : ls_I l (nI c).toNatClampNeg = nI (l c) := ls_Iat (by omega)
  have hc13 : vp_in (nI c) 13 := vp_in_nI (by omega) (by decide)
  intro m
  induction m with
  | zero =>
    intro i n sk hi hn hv
    obtain ⟨n, rfl⟩ : ∃ k, n = k + 1 := ⟨n - 1, by omega⟩
    refine ⟨hc13, br_t (by rw [el]; exact nI_le (by omega) (by omega)) ?_⟩
    have e := hv 0 (by rw [show i = l c by omega, hw.2]; exact Nat.one_pos)
    rw [e, show i = l c by omega]
    exact hp sk
  | succ m ih =>
    intro i n sk hi hn hv
    obtain ⟨n, rfl⟩ : ∃ k, n = k + 1 := ⟨n - 1, by omega⟩
    have ⟨h5, ha, h6, hi8, hsh, href⟩ := xe_tok hN hT hw.1 (i := i) (by omega)
    have hd := ls_dp_le (ls_kd t c) i
    have ei : nI c * 8 + nI i = nI (8 * c + i) := by rw [Nat.mul_comm, show nI c * 8 = nI (c * 8) from pk_mul c 8, nI_add]
    have hin : vp_in (nI c * 8 + nI i) 104 := by rw [ei]; exact vp_in_nI (by omega) (by decide)
    have e6 : (ls_I t (nI c * 8 + nI i).toNatClampNeg) / 100 = nI (ls_kd t c i) := by rw [ei]; exact xe_div h6 (by omega) hi8
    have e7 : (ls_I t (nI c * 8 + nI i).toNatClampNeg) - (ls_I t (nI c * 8 + nI i).toNatClampNeg) / 100 * 100 = nI (ls_ar t c i) := by rw [ei]; exact xe_rem h6 (by omega) hi8
    refine ⟨hc13, br_f (by rw [el]; exact nI_ge (by omega) (by omega)) ⟨hin, by decide, nm_r e6 ⟨hin, by decide, nm_r e7 ?_⟩⟩⟩
    have opd : ls_kd t c i < 2 → ∀ v : Int32, v = nI (if ls_kd t c i = 1 then w (ls_ar t c i) else ls_ar t c i) → wY_evaluate_4 post (nI c) (nI N) (nI T) ed n (nI (ls_dp (ls_kd t c) i) + 1) (nI i + 1) (ls_I t) (ls_I l) sh ol dp nx (upd sk (nI (ls_dp (ls_kd t c) i)).toNatClampNeg v) := by
      intro hk v ev
      rw [nI_1, nI_1, nI_clamp (by omega), ← ls_dp_a hk]
      exact ih (i + 1) n _ (by omega) (by omega) (xe_invA hv hk ev)
    refine pk_eq _ 0 (fun h0 => ?_) (fun h0 => pk_eq _ 1 (fun h1 => ?_) (fun h1 => ?_))
    · exact ⟨vp_in_nI (by omega) (by decide), nm_e (nm_e (nm_e (opd (by omega) _ (by rw [if_neg (by omega)]))))⟩
    · have hr := href h1
      refine ⟨vp_in_nI (by omega) (by decide), vp_in_nI (by omega) (by decide), nm_e (nm_e (nm_e (opd (by omega) _ ?_)))⟩
      rw [if_pos h1, nI_clamp (by omega)]
      exact hs _ hr
    · have hk : ¬ ls_kd t c i < 2 := by omega
      have h2 := hsh (by omega)
      have e1 : nI (ls_dp (ls_kd t c) i) + (-1) = nI (ls_dp (ls_kd t c) i - 1) := by
        rw [show ls_dp (ls_kd t c) i = (ls_dp (ls_kd t c) i - 1) + 1 by omega]
        exact pk_m1 _
      have e2 : nI (ls_dp (ls_kd t c) i - 1) - 1 = nI (ls_dp (ls_kd t c) i - 2) := by
        rw [show ls_dp (ls_kd t c) i - 2 = ls_dp (ls_kd t c) i - 1 - 1 by omega]
        exact pk_sub (b := 1) (by omega)
      have e3 : nI (ls_dp (ls_kd t c) i) - 1 = nI (ls_dp (ls_kd t c) i - 1) := pk_sub (b := 1) (by omega)
      have e4 : nI (ls_dp (ls_kd t c) i) - 2 = nI (ls_dp (ls_kd t c) i - 2) := pk_sub (b := 2) (by omega)
      have hst := ls_st_le hw.1 hb i (by omega)
      have hx := hst (ls_dp (ls_kd t c) i - 2) (by omega)
      have hy := hst (ls_dp (ls_kd t c) i - 1) (by omega)
      have fin : ∀ r : Nat, ls_cmb T (ls_kd t c i) (ls_ar t c i) (ls_st T w (ls_kd t c) (ls_ar t c) i (ls_dp (ls_kd t c) i - 2)) (ls_st T w (ls_kd t c) (ls_ar t c) i (ls_dp (ls_kd t c) i - 1)) = r → wY_evaluate_215 post (wY_evaluate_4 post (nI c) (nI N) (nI T) ed n) (nI c) (nI (ls_dp (ls_kd t c) i)) (nI i) (nI r) (nI N) (nI T) ed (ls_I t) (ls_I l) sh ol dp nx sk := by
        intro r er
        refine nm_r e1 ?_
        rw [e2]
        refine ⟨vp_in_nI (by omega) (by decide), nm_e (nm_r (nI_1 i) ?_)⟩
        rw [nI_clamp (by omega), ← ls_dp_b hk]
        exact ih (i + 1) n _ (by omega) (by omega) (xe_invB hv hk (by rw [er]))
      refine br_f (nI_nlt (b := 2) (by omega) (by omega)) ?_
      rw [e3, e4]
      refine ⟨vp_in_nI (by omega) (by decide), nm_r (e' := nI (ls_st T w (ls_kd t c) (ls_ar t c) i (ls_dp (ls_kd t c) i - 1))) (by rw [nI_clamp (by omega)]; exact hv _ (by omega)) ⟨vp_in_nI (by omega) (by decide), nm_r (e' := nI (ls_st T w (ls_kd t c) (ls_ar t c) i (ls_dp (ls_kd t c) i - 2))) (by rw [nI_clamp (by omega)]; exact hv _ (by omega)) ?_⟩⟩
      generalize ls_st T w (ls_kd t c) (ls_ar t c) i (ls_dp (ls_kd t c) i - 2) = x at *
      generalize ls_st T w (ls_kd t c) (ls_ar t c) i (ls_dp (ls_kd t c) i - 1) = y at *
      generalize ls_ar t c i = a at *
      refine pk_eq _ 2 (fun k2 => ?_) (fun k2 => pk_eq _ 3 (fun k3 => ?_) (fun k3 => pk_eq _ 4 (fun k4 => ?_) (fun k4 => ?_)))
      · refine pk_le y x (fun z => fin y ?_) (fun z => fin x ?_)
        all_goals (unfold ls_cmb; repeat' split)
        all_goals omega
      · refine pk_le x y (fun z => fin y ?_) (fun z => fin x ?_)
        all_goals (unfold ls_cmb; repeat' split)
        all_goals omega
      · rw [nI_add]
        refine pk_le (x + y) T (fun z => fin (x + y) ?_) (fun z => fin T ?_)
        all_goals (unfold ls_cmb; repeat' split)
        all_goals omega
      · refine pk_lt x a (fun z => fin 0 ?_) (fun z => fin y ?_)
        all_goals (unfold ls_cmb; repeat' split)
        all_goals omega
theorem ye_eval {N T : Nat} {t l w : Nat → Nat} {c : Nat} {ed : Int32} {sh ol dp nx sk : Nat → Int32} {post : Int32 → SY → Prop} (hN : N ≤ 12) (hT : T ≤ 15) (hw : ls_wf N T (l c) (ls_kd t c) (ls_ar t c)) (hc : c < N) (hs : ∀ d, d < N → sh d = nI (w d)) (hb : ∀ d, d < N → w d ≤ T) (hp : ∀ sk' : Nat → Int32, post (nI (ls_F T t l w c)) (nI N, nI T, ed, ls_I t, ls_I l, sh, ol, dp, nx, sk')) : wpY_evaluate post (nI N, nI T, ed, ls_I t, ls_I l, sh, ol, dp, nx, sk) (nI c) :=
  ⟨l c + 1, ye_loop hN hT hw hc hs hb hp (l c) 0 (l c + 1) sk (by omega) (by omega) (fun j hj => absurd hj (Nat.not_lt_zero j))⟩
end
section
/-! Y: solve -/
theorem ys_copy {N : Nat} {T ed x1 : Int32} {tk ln ol dp nx sk : Nat → Int32} {post : SY → Prop} {J : Int32 → Int32 → Int32 → Int32 → (Nat → Int32) → (Nat → Int32) → (Nat → Int32) → (Nat → Int32) → (Nat → Int32) → (Nat → Int32) → (Nat → Int32) → Prop} (hN : N ≤ 12) (K : ∀ sh : Nat → Int32, (∀ d, d < N → sh d = nx d) → J (x1 + 1) (nI N) T ed tk ln sh ol dp nx sk) : ∀ (m i n : Nat) (sh : Nat → Int32), i + m = N → m < n → (∀ d, d < i → sh d = nx d) → wY_solve_67 post J x1 (nI N) T ed n (nI i) tk ln sh ol dp nx sk := by
  intro m
  induction m with
  | zero =>
    intro i n sh hi hn hv
    obtain ⟨n, rfl⟩ : ∃ k, n = k + 1 := ⟨n - 1, by omega⟩
    exact br_t (nI_le (by omega) (by omega)) (nm_e (K sh (fun d hd => hv d (by omega))))
  | succ m ih =>
    intro i n sh hi hn hv
    obtain ⟨n, rfl⟩ : ∃ k, n = k + 1 := ⟨n - 1, by omega⟩
    have hin : vp_in (nI i) 12 := vp_in_nI (by omega) (by decide)
    refine br_f (nI_ge (by omega) (by omega)) ⟨hin, hin, nm_e (nm_r (nI_1 i) (ih (i + 1) n _ (by omega) (by omega) (fun d hd => ?_)))⟩
    rw [nI_clamp (by omega)]
    by_cases z : d = i
    · rw [z, pk_us]
    · rw [pk_un z]; exact hv d (by omega)
theorem ys_next {N T : Nat} {t l w : Nat → Nat} {ed x1 : Int32} {sh ol dp : Nat → Int32} {post : SY → Prop} {J : Int32 → Int32 → Int32 → Int32 → (Nat → Int32) → (Nat → Int32) → (Nat → Int32) → (Nat → Int32) → (Nat → Int32) → (Nat → Int32) → (Nat → Int32) → Prop} (hN : N ≤ 12) (hT : T ≤ 15) (hw : ls_all N T t l) (hs : ∀ d, d < N → sh d = nI (w d)) (hb : ∀ d, d < N → w d ≤ T) (K : ∀ nx sk : Nat → Int32, (∀ d, d < N → nx d = nI (ls_F T t l w d)) → ∃ n, wY_solve_67 post J x1 (nI N) (nI T) ed n 0 (ls_I t) (ls_I l) sh ol dp nx sk) : ∀ (m i n : Nat) (nx sk : Nat → Int32), i + m = N → m < n → (∀ d, d < i → nx d = nI (ls_F T t l w d)) → wY_solve_40 post J x1 n (nI i) (nI N) (nI T) ed (ls_I t) (ls_I l) sh ol dp nx sk := by
  intro m
  induction m with
  | zero =>
    intro i n nx sk hi hn hv
    obtain ⟨n, rfl⟩ : ∃ k, n = k + 1 := ⟨n - 1, by omega⟩
    exact br_t (nI_le (by omega) (by omega)) (K nx sk (fun d hd => hv d (by omega)))
  | succ m ih =>
    intro i n nx sk hi hn hv
    obtain ⟨n, rfl⟩ : ∃ k, n = k + 1 := ⟨n - 1, by omega⟩
    refine br_f (nI_ge (by omega) (by omega)) (ye_eval hN hT (hw i (by omega)) (by omega) hs hb (fun sk' => ⟨vp_in_nI (by omega) (by decide), nm_e (nm_r (nI_1 i) (ih (i + 1) n _ _ (by omega) (by omega) (fun d hd => ?_)))⟩))
    rw [nI_clamp (by omega)]
    by_cases z : d = i
    · rw [z, pk_us]
    · rw [pk_un z]; exact hv d (by omega)
theorem ys_out {N T : Nat} {t l : Nat → Nat} {ed : Int32} {ol dp : Nat → Int32} {post : SY → Prop} (hN : N ≤ 12) (hT : T ≤ 15) (hw : ls_all N T t l) (hp : ∀ (sh nx sk : Nat → Int32) (w : Nat → Nat), (∀ d, d < N → sh d = nI (w d)) → lf_least N T (ls_F T t l) w → post (nI N, nI T, ed, ls_I t, ls_I l, sh, ol, dp, nx, sk)) : ∀ (m r n : Nat) (sh nx sk : Nat → Int32) (w : Nat → Nat), r + m = N * T → m < n → (∀ d, d < N → sh d = nI (w d)) → lf_R N T (ls_F T t l) r w → wY_solve_25 post n (nI r) (nI N) (nI T) ed (ls_I t) (ls_I l) sh ol dp nx sk := by
  have ok := ls_F_ok hw
  have hNT := Nat.mul_le_mul hN hT
  have eNT : nI N * nI T = nI (N * T) := pk_mul N T
  intro m
  induction m with
  | zero =>
    intro r n sh nx sk w hr hn hs hv
    obtain ⟨n, rfl⟩ : ∃ k, n = k + 1 := ⟨n - 1, by omega⟩
    exact br_t (by rw [eNT]; exact nI_le (by omega) (by omega)) (hp sh nx sk w hs (lf_done ok hv (by omega)))
  | succ m ih =>
    intro r n sh nx sk w hr hn hs hv
    obtain ⟨n, rfl⟩ : ∃ k, n = k + 1 := ⟨n - 1, by omega⟩
    refine br_f (by rw [eNT]; exact nI_ge (by omega) (by omega)) ⟨N + 1, ys_next hN hT hw hs hv.1.1 (fun nx' sk' hx => ⟨N + 1, ?_⟩) N 0 (N + 1) nx sk (by omega) (by omega) (fun d hd => absurd hd (Nat.not_lt_zero d))⟩
    refine ys_copy hN (fun sh' hx' => ?_) N 0 (N + 1) sh (by omega) (by omega) (fun d hd => absurd hd (Nat.not_lt_zero d))
    rw [nI_1]
    exact ih (r + 1) n sh' nx' sk' (ls_F T t l w) (by omega) (by omega) (fun d hd => by rw [hx' d hd, hx d hd]) (lf_round ok hv (lf_jac ok hv.1 (fun _ _ => rfl)) (fun _ _ => Nat.le_refl _))
theorem ys_zero {N : Nat} {T ed : Int32} {tk ln ol dp nx sk : Nat → Int32} {post : SY → Prop} (hN : N ≤ 12) (K : ∀ sh : Nat → Int32, (∀ d, d < N → sh d = 0) → ∃ n, wY_solve_25 post n 0 (nI N) T ed tk ln sh ol dp nx sk) : ∀ (m i n : Nat) (sh : Nat → Int32), i + m = N → m < n → (∀ d, d < i → sh d = 0) → wY_solve_2 post (nI N) T ed n (nI i) tk ln sh ol dp nx sk := by
  intro m
  induction m with
  | zero =>
    intro i n sh hi hn hv
    obtain ⟨n, rfl⟩ : ∃ k, n = k + 1 := ⟨n - 1, by omega⟩
    exact br_t (nI_le (by omega) (by omega)) (K sh (fun d hd => hv d (by omega)))
  | succ m ih =>
    intro i n sh hi hn hv
    obtain ⟨n, rfl⟩ : ∃ k, n = k + 1 := ⟨n - 1, by omega⟩
    refine br_f (nI_ge (by omega) (by omega)) ⟨vp_in_nI (by omega) (by decide), nm_e (nm_r (nI_1 i) (ih (i + 1) n _ (by omega) (by omega) (fun d hd => ?_)))⟩
    rw [nI_clamp (by omega)]
    by_cases z : d = i
    · rw [z, pk_us]
    · rw [pk_un z]; exact hv d (by omega)
theorem ys_solve {N T : Nat} {t l : Nat → Nat} {ed : Int32} {sh ol dp nx sk : Nat → Int32} {post : SY → Prop} (hN : N ≤ 12) (hT : T ≤ 15) (hw : ls_all N T t l) (hp : ∀ (sh nx sk : Nat → Int32) (w : Nat → Nat), (∀ d, d < N → sh d = nI (w d)) → lf_least N T (ls_F T t l) w → post (nI N, nI T, ed, ls_I t, ls_I l, sh, ol, dp, nx, sk)) : wpY_solve post (nI N, nI T, ed, ls_I t, ls_I l, sh, ol, dp, nx, sk) := by
  refine ⟨N + 1, ys_zero hN (fun sh' h0 => ⟨N * T + 1, ?_⟩) N 0 (N + 1) sh (by omega) (by omega) (fun d hd => absurd hd (Nat.not_lt_zero d))⟩
  exact ys_out hN hT hw hp (N * T) 0 (N * T + 1) sh' nx sk (fun _ => 0) (by omega) (by omega) (fun d hd => by rw [h0 d hd]; rfl) (lf_R0 (lf_inv0 (fun _ _ => rfl)))
end
section
/-! Y: findDependence -/
theorem yd_n1 : vp_nar .boolean 1 = 1 := by first | rfl | decide
theorem yd_n0 : vp_nar .boolean 0 = 0 := by first | rfl | decide
def yd_v (dep : Nat → Int32) (d : Nat) : Nat → Nat := fun c => if dep (12 * c + d) = 0 then 0 else 1
theorem yd_v1 {dep : Nat → Int32} {d c : Nat} : 1 ≤ yd_v dep d c ↔ ¬ dep (12 * c + d) = 0 := by
  unfold yd_v
  by_cases h : dep (12 * c + d) = 0
  · rw [if_pos h]; exact ⟨fun z => absurd z (by omega), fun z => absurd h z⟩
  · rw [if_neg h]; exact ⟨fun _ => h, fun _ => Nat.le_refl 1⟩
theorem yd_up_s {dep : Nat → Int32} {d c : Nat} : yd_v (upd dep (12 * c + d) 1) d = ls_up (yd_v dep d) c 1 := by
  funext c'
  show (if upd dep (12 * c + d) 1 (12 * c' + d) = 0 then 0 else 1) = ls_up (yd_v dep d) c 1 c'
  by_cases e : c' = c
  · rw [e, pk_us, ls_us, if_neg (by decide)]
  · rw [pk_un (by omega), ls_un e]; rfl
theorem yd_up_n {dep : Nat → Int32} {d d' c : Nat} (h : d' ≠ d) (hd : d < 12) (hd' : d' < 12) : yd_v (upd dep (12 * c + d) 1) d' = yd_v dep d' := by
  funext c'
  show (if upd dep (12 * c + d) 1 (12 * c' + d') = 0 then 0 else 1) = (if dep (12 * c' + d') = 0 then 0 else 1)
  rw [pk_un (by omega)]
def yd_G (N : Nat) (U : Nat → Nat → Bool) (dep0 dep : Nat → Int32) : Prop := ∀ d, d < N → lf_inv N 1 (de_F N U d) (yd_v dep d) ∧ ∀ c, c < N → yd_v dep0 d c ≤ yd_v dep d c
def yd_T (t : Nat → Nat) (dep0 : Nat → Int32) (c i d : Nat) : Prop := ls_kd t c i = 1 ∧ (ls_ar t c i = d ∨ 1 ≤ yd_v dep0 d (ls_ar t c i))
def yd_Q (N : Nat) (t l : Nat → Nat) (dep0 dep : Nat → Int32) (c i x : Nat) : Prop := ∀ c' i' d, c' < N → i' < l c' → d < N → (c' < c ∨ (c' = c ∧ (i' < i ∨ (i' = i ∧ d < x)))) → yd_T t dep0 c' i' d → 1 ≤ yd_v dep d c'
theorem yd_skip {N : Nat} {t l : Nat → Nat} {dep0 dep : Nat → Int32} {c i d : Nat} (Q : yd_Q N t l dep0 dep c i d) (hT : ¬ yd_T t dep0 c i d) : yd_Q N t l dep0 dep c i (d + 1) := by
  intro c' i' d' h1 h2 h3 h4 h5
  by_cases e : c' = c ∧ i' = i ∧ d' = d
  · obtain ⟨rfl, rfl, rfl⟩ := e
    exact absurd h5 hT
  · exact Q c' i' d' h1 h2 h3 (by omega) h5
theorem yd_set {N T : Nat} {t l : Nat → Nat} {dep0 dep : Nat → Int32} {c i d : Nat} (hN : N ≤ 12) (hw : ls_all N T t l) (hc : c < N) (hi : i < l c) (hd : d < N) (hk : ls_kd t c i = 1) (hz : ls_ar t c i = d ∨ ¬ dep (12 * ls_ar t c i + d) = 0) (G : yd_G N (de_Ub N t l) dep0 dep) (Q : yd_Q N t l dep0 dep c i d) : yd_G N (de_Ub N t l) dep0 (upd dep (12 * c + d) 1) ∧ yd_Q N t l dep0 (upd dep (12 * c + d) 1) c i (d + 1) := by
  have hu : de_Ub N t l c (ls_ar t c i) = true := by rw [de_Ub_at hc, de_u_iff]; exact ⟨i, hi, hk, rfl⟩
  have ha : ls_ar t c i < N := de_Ub_lt hw _ _ hu
  have hP : de_P N (de_Ub N t l) d (yd_v dep d) c := by
    rcases hz with z | z
    · exact Or.inl (by rw [← z]; exact hu)
    · exact Or.inr ⟨_, ha, hu, yd_v1.mpr z⟩
  have hle : ∀ d', d' < N → ∀ c', yd_v dep d' c' ≤ yd_v (upd dep (12 * c + d) 1) d' c' := by
    intro d' hd' c'
    by_cases e : d' = d
    · rw [e, yd_up_s]
      by_cases e2 : c' = c
      · rw [e2, ls_us]
        unfold yd_v
        split <;> omega
      · rw [ls_un e2]; exact Nat.le_refl _
    · rw [yd_up_n e (by omega) (by omega)]; exact Nat.le_refl _
  refine ⟨fun d' hd' => ⟨?_, fun c' hc' => Nat.le_trans ((G d' hd').2 c' hc') (hle d' hd' c')⟩, ?_⟩
  · by_cases e : d' = d
    · subst e
      have s := lf_step (de_ok N (de_Ub N t l) d') (G d' hd').1 hc
      rw [de_F1 hP] at s
      rw [yd_up_s]
      exact s
    · rw [yd_up_n e (by omega) (by omega)]; exact (G d' hd').1
  · intro c' i' d' h1 h2 h3 h4 h5
    by_cases e : c' = c ∧ i' = i ∧ d' = d
    · obtain ⟨rfl, rfl, rfl⟩ := e
      rw [yd_up_s, ls_us]; exact Nat.le_refl 1
    · exact Nat.le_trans (Q c' i' d' h1 h2 h3 (by omega) h5) (hle d' h3 c')
theorem yd_ix {c d : Nat} : nI c * 12 + nI d = nI (12 * c + d) := by
  rw [Nat.mul_comm, show nI c * 12 = nI (c * 12) from pk_mul c 12, nI_add]
theorem yd_89 {N T : Nat} {t l : Nat → Nat} {c i : Nat} {T' ed x1 : Int32} {sh ol nx sk dep0 : Nat → Int32} {post : SY → Prop} {J24 J34 J44 : Int32 → (Nat → Int32) → (Nat → Int32) → (Nat → Int32) → (Nat → Int32) → (Nat → Int32) → (Nat → Int32) → (Nat → Int32) → Prop} (hN : N ≤ 12) (hT : T ≤ 15) (hw : ls_all N T t l) (hc : c < N) (hi : i < l c) (K : ∀ dep : Nat → Int32, yd_G N (de_Ub N t l) dep0 dep → yd_Q N t l dep0 dep c (i + 1) 0 → J44 (nI (i + 1)) (ls_I t) (ls_I l) sh ol dep nx sk) : ∀ (m d n : Nat) (dep : Nat → Int32), d + m = N → m < n → yd_G N (de_Ub N t l) dep0 dep → yd_Q N t l dep0 dep c i d → wY_findDependence_89 post J24 J34 J44 x1 (nI c) (nI i) (nI (ls_kd t c i)) (nI (ls_ar t c i)) (nI N) T' ed n (nI d) (ls_I t) (ls_I l) sh ol dep nx sk := by
  have ⟨h5, ha, h6, hi8, hsh, href⟩ := xe_tok hN hT (hw c hc).1 hi
  intro m
  induction m with
  | zero =>
    intro d n dep hd hn G Q
    obtain ⟨n, rfl⟩ : ∃ k, n = k + 1 := ⟨n - 1, by omega⟩
    refine br_t (nI_le (by omega) (by omega)) (nm_r (nI_1 i) (K dep G ?_))
    intro c' i' d' h1 h2 h3 h4
    exact Q c' i' d' h1 h2 h3 (by omega)
  | succ m ih =>
    intro d n dep hd hn G Q
    obtain ⟨n, rfl⟩ : ∃ k, n = k + 1 := ⟨n - 1, by omega⟩
    have hset : ls_kd t c i = 1 → (ls_ar t c i = d ∨ ¬ dep (12 * ls_ar t c i + d) = 0) → wY_findDependence_127 post J24 J34 J44 (wY_findDependence_89 post J24 J34 J44 x1 (nI c) (nI i) (nI (ls_kd t c i)) (nI (ls_ar t c i)) (nI N) T' ed n) x1 (nI c) (nI i) (nI (ls_kd t c i)) (nI (ls_ar t c i)) (nI d) (nI N) T' ed (ls_I t) (ls_I l) sh ol dep nx sk := by
      intro hk hz
      have ⟨G', Q'⟩ := yd_set hN hw hc hi (by omega) hk hz G Q
      refine ⟨by rw [yd_ix]; exact vp_in_nI (by omega) (by decide), nm_e (nm_r (nI_1 d) ?_)⟩
      rw [yd_ix, nI_clamp (by omega), yd_n1]
      exact ih (d + 1) n _ (by omega) (by omega) G' Q'
    refine br_f (nI_ge (by omega) (by omega)) (pk_eq _ 1 (fun hk => pk_eq _ _ (fun hz => hset hk (Or.inl hz)) (fun hz => ?_)) (fun hk => ?_))
    · have hr := href hk
      refine ⟨by rw [yd_ix]; exact vp_in_nI (by omega) (by decide), ?_⟩
      rw [yd_ix, nI_clamp (by omega)]
      refine br_c (fun z => nm_r (nI_1 d) (ih (d + 1) n dep (by omega) (by omega) G (yd_skip Q ?_))) (fun z => hset hk (Or.inr z))
      rintro ⟨_, y | y⟩
      · exact hz y
      · have := (G d (by omega)).2 _ hr
        exact yd_v1.mp (Nat.le_trans y this) z
    · exact nm_r (nI_1 d) (ih (d + 1) n dep (by omega) (by omega) G (yd_skip Q (fun z => hk z.1)))
theorem yd_44 {N T : Nat} {t l : Nat → Nat} {c : Nat} {T' ed x1 : Int32} {sh ol nx sk dep0 : Nat → Int32} {post : SY → Prop} {J24 J34 : Int32 → (Nat → Int32) → (Nat → Int32) → (Nat → Int32) → (Nat → Int32) → (Nat → Int32) → (Nat → Int32) → (Nat → Int32) → Prop} (hN : N ≤ 12) (hT : T ≤ 15) (hw : ls_all N T t l) (hc : c < N) (K : ∀ dep : Nat → Int32, yd_G N (de_Ub N t l) dep0 dep → yd_Q N t l dep0 dep (c + 1) 0 0 → J34 (nI (c + 1)) (ls_I t) (ls_I l) sh ol dep nx sk) : ∀ (m i n : Nat) (dep : Nat → Int32), i + m = l c → m < n → yd_G N (de_Ub N t l) dep0 dep → yd_Q N t l dep0 dep c i 0 → wY_findDependence_44 post J24 J34 x1 (nI c) (nI N) T' ed n (nI i) (ls_I t) (ls_I l) sh ol dep nx sk := by
  have h8 := (hw c hc).1.1
  have el : ls_I l (nI c).toNatClampNeg = nI (l c) := ls_Iat (by omega)
  have hc13 : vp_in (nI c) 13 := vp_in_nI (by omega) (by decide)
  intro m
  induction m with
  | zero =>
    intro i n dep hi hn G Q
    obtain ⟨n, rfl⟩ : ∃ k, n = k + 1 := ⟨n - 1, by omega⟩
    refine ⟨hc13, br_t (by rw [el]; exact nI_le (by omega) (by omega)) (nm_r (nI_1 c) (K dep G ?_))⟩
    intro c' i' d' h1 h2 h3 h4
    refine Q c' i' d' h1 h2 h3 ?_
    by_cases e : c' = c
    · subst e; omega
    · omega
  | succ m ih =>
    intro i n dep hi hn G Q
    obtain ⟨n, rfl⟩ : ∃ k, n = k + 1 := ⟨n - 1, by omega⟩
    have ⟨h5, ha, h6, hi8, hsh, href⟩ := xe_tok hN hT (hw c hc).1 (i := i) (by omega)
    have ei : nI c * 8 + nI i = nI (8 * c + i) := by rw [Nat.mul_comm, show nI c * 8 = nI (c * 8) from pk_mul c 8, nI_add]
    have hin : vp_in (nI c * 8 + nI i) 104 := by rw [ei]; exact vp_in_nI (by omega) (by decide)
    have e6 : (ls_I t (nI c * 8 + nI i).toNatClampNeg) / 100 = nI (ls_kd t c i) := by rw [ei]; exact xe_div h6 (by omega) hi8
    have e7 : (ls_I t (nI c * 8 + nI i).toNatClampNeg) - (ls_I t (nI c * 8 + nI i).toNatClampNeg) / 100 * 100 = nI (ls_ar t c i) := by rw [ei]; exact xe_rem h6 (by omega) hi8
    refine ⟨hc13, br_f (by rw [el]; exact nI_ge (by omega) (by omega)) ⟨hin, by decide, nm_r e6 ⟨hin, by decide, nm_r e7 ⟨N + 1, ?_⟩⟩⟩⟩
    exact yd_89 hN hT hw hc (by omega) (fun dep' G' Q' => ih (i + 1) n dep' (by omega) (by omega) G' Q') N 0 (N + 1) dep (by omega) (by omega) G Q
theorem yd_34 {N T : Nat} {t l : Nat → Nat} {T' ed x1 : Int32} {sh ol nx sk dep0 : Nat → Int32} {post : SY → Prop} {J24 : Int32 → (Nat → Int32) → (Nat → Int32) → (Nat → Int32) → (Nat → Int32) → (Nat → Int32) → (Nat → Int32) → (Nat → Int32) → Prop} (hN : N ≤ 12) (hT : T ≤ 15) (hw : ls_all N T t l) (K : ∀ dep : Nat → Int32, yd_G N (de_Ub N t l) dep0 dep → yd_Q N t l dep0 dep N 0 0 → J24 (x1 + 1) (ls_I t) (ls_I l) sh ol dep nx sk) : ∀ (m c n : Nat) (dep : Nat → Int32), c + m = N → m < n → yd_G N (de_Ub N t l) dep0 dep → yd_Q N t l dep0 dep c 0 0 → wY_findDependence_34 post J24 x1 (nI N) T' ed n (nI c) (ls_I t) (ls_I l) sh ol dep nx sk := by
  intro m
  induction m with
  | zero =>
    intro c n dep hc hn G Q
    obtain ⟨n, rfl⟩ : ∃ k, n = k + 1 := ⟨n - 1, by omega⟩
    have e : c = N := by omega
    subst e
    exact br_t (nI_le (by omega) (by omega)) (nm_e (K dep G Q))
  | succ m ih =>
    intro c n dep hc hn G Q
    obtain ⟨n, rfl⟩ : ∃ k, n = k + 1 := ⟨n - 1, by omega⟩
    have h8 := (hw c (by omega)).1.1
    exact br_f (nI_ge (by omega) (by omega)) ⟨l c + 1, yd_44 hN hT hw (by omega) (fun dep' G' Q' => ih (c + 1) n dep' (by omega) (by omega) G' Q') (l c) 0 (l c + 1) dep (by omega) (by omega) G Q⟩
theorem yd_24 {N T : Nat} {t l : Nat → Nat} {T' ed : Int32} {sh ol nx sk : Nat → Int32} {post : SY → Prop} (hN : N ≤ 12) (hT : T ≤ 15) (hw : ls_all N T t l) (hp : ∀ dep : Nat → Int32, (∀ d, d < N → lf_least N 1 (de_F N (de_Ub N t l) d) (yd_v dep d)) → post (nI N, T', ed, ls_I t, ls_I l, sh, ol, dep, nx, sk)) : ∀ (m r n : Nat) (dep : Nat → Int32), r + m = N → m < n → (∀ d, d < N → lf_R N 1 (de_F N (de_Ub N t l) d) r (yd_v dep d)) → wY_findDependence_24 post (nI N) T' ed n (nI r) (ls_I t) (ls_I l) sh ol dep nx sk := by
  intro m
  induction m with
  | zero =>
    intro r n dep hr hn hv
    obtain ⟨n, rfl⟩ : ∃ k, n = k + 1 := ⟨n - 1, by omega⟩
    exact br_t (nI_le (by omega) (by omega)) (hp dep (fun d hd => lf_done (de_ok N _ d) (hv d hd) (by omega)))
  | succ m ih =>
    intro r n dep hr hn hv
    obtain ⟨n, rfl⟩ : ∃ k, n = k + 1 := ⟨n - 1, by omega⟩
    refine br_f (nI_ge (by omega) (by omega)) ⟨N + 1, yd_34 (dep0 := dep) hN hT hw (fun dep' G' Q' => ?_) N 0 (N + 1) dep (by omega) (by omega) (fun d hd => ⟨(hv d hd).1, fun _ _ => Nat.le_refl _⟩) (fun c' i' d h1 h2 h3 h4 => by omega)⟩
    rw [nI_1]
    refine ih (r + 1) n dep' (by omega) (by omega) (fun d hd => lf_round (de_ok N _ d) (hv d hd) (G' d hd).1 (fun c hc => ?_))
    by_cases hP : de_P N (de_Ub N t l) d (yd_v dep d) c
    · rw [de_F1 hP]
      have hU : ∀ e, de_Ub N t l c e = true → ∃ i, i < l c ∧ ls_kd t c i = 1 ∧ ls_ar t c i = e := fun e he => by rw [de_Ub_at hc, de_u_iff] at he; exact he
      rcases hP with h | ⟨e, he, hu, hx⟩
      · obtain ⟨i, hi, h1, h2⟩ := hU d h
        exact Q' c i d hc hi hd (Or.inl hc) ⟨h1, Or.inl h2⟩
      · obtain ⟨i, hi, h1, h2⟩ := hU e hu
        exact Q' c i d hc hi hd (Or.inl hc) ⟨h1, Or.inr (by rw [h2]; exact hx)⟩
    · rw [de_F0 hP]; exact Nat.zero_le _
theorem yd_clear {N T ed : Int32} {tk ln sh ol nx sk : Nat → Int32} {post : SY → Prop} (K : ∀ dep : Nat → Int32, (∀ j, j < 144 → dep j = 0) → ∃ n, wY_findDependence_24 post N T ed n 0 tk ln sh ol dep nx sk) : ∀ (m i n : Nat) (dep : Nat → Int32), i + m = 144 → m < n → (∀ j, j < i → dep j = 0) → wY_findDependence_2 post N T ed n (nI i) tk ln sh ol dep nx sk := by
  intro m
  induction m with
  | zero =>
    intro i n dep hi hn hv
    obtain ⟨n, rfl⟩ : ∃ k, n = k + 1 := ⟨n - 1, by omega⟩
    exact br_t (nI_le (a := 144) (by omega) (by omega)) (K dep (fun j hj => hv j (by omega)))
  | succ m ih =>
    intro i n dep hi hn hv
    obtain ⟨n, rfl⟩ : ∃ k, n = k + 1 := ⟨n - 1, by omega⟩
    refine br_f (nI_ge (b := 144) (by omega) (by decide)) ⟨vp_in_nI (by omega) (by decide), nm_e (nm_r (nI_1 i) (ih (i + 1) n _ (by omega) (by omega) (fun j hj => ?_)))⟩
    rw [nI_clamp (by omega), yd_n0]
    by_cases z : j = i
    · rw [z, pk_us]
    · rw [pk_un z]; exact hv j (by omega)
/-- what the reference keeps of a dependence D -/
def yd_ok (N : Nat) (D : Nat → Nat → Bool) (dep : Nat → Int32) : Prop := ∀ c d, c < N → d < N → (dep (12 * c + d) = 0 ↔ D c d = false)
theorem yd_dep {N T : Nat} {t l : Nat → Nat} {T' ed : Int32} {sh ol dep nx sk : Nat → Int32} {post : SY → Prop} (hN : N ≤ 12) (hT : T ≤ 15) (hw : ls_all N T t l) (hp : ∀ dep : Nat → Int32, yd_ok N (wa_S (de_Ub N t l) N) dep → post (nI N, T', ed, ls_I t, ls_I l, sh, ol, dep, nx, sk)) : wpY_findDependence post (nI N, T', ed, ls_I t, ls_I l, sh, ol, dep, nx, sk) := by
  refine ⟨145, yd_clear (fun dep' h0 => ⟨N + 1, ?_⟩) 144 0 145 dep (by omega) (by omega) (fun j hj => absurd hj (Nat.not_lt_zero j))⟩
  refine yd_24 hN hT hw (fun dep2 hl => hp dep2 (fun c d hc hd => ?_)) N 0 (N + 1) dep' (by omega) (by omega) (fun d hd => lf_R0 (lf_inv0 (fun c hc => ?_)))
  · have e := lf_uniq (hl d hd) (de_war (de_Ub_lt hw) d) c hc
    unfold yd_v at e
    have e' : (if dep2 (12 * c + d) = 0 then 0 else 1) = (if wa_S (de_Ub N t l) N c d = true then 1 else 0) := e
    by_cases z : dep2 (12 * c + d) = 0
    · rw [if_pos z] at e'
      cases y : wa_S (de_Ub N t l) N c d
      · exact ⟨fun _ => rfl, fun _ => z⟩
      · rw [y, if_pos rfl] at e'; omega
    · rw [if_neg z] at e'
      cases y : wa_S (de_Ub N t l) N c d
      · rw [y, if_neg (by decide)] at e'; omega
      · exact ⟨fun q => absurd q z, fun q => absurd q (by decide)⟩
  · show (if dep' (12 * c + d) = 0 then 0 else 1) = 0
    rw [if_pos (h0 _ (by omega))]
end
section
/-! Y: leader, rank, before, orderAt, draftDepth, finishEdit -/
theorem ye_cell {N c : Nat} {post : Int32 → Prop} {T ed : Int32} {tk ln sh ol dep nx sk : Nat → Int32} (hN : N ≤ 12) (hc : c < N) (h : post 1) : wpY_isCell post (nI N, T, ed, tk, ln, sh, ol, dep, nx, sk) (nI c) :=
  br_f (nI_pos (by omega)) (br_f (nI_ge hc (by omega)) h)
theorem ye_ncell {N : Nat} {x : Int32} {post : Int32 → Prop} {T ed : Int32} {tk ln sh ol dep nx sk : Nat → Int32} (hx : x < 0 ∨ nI N ≤ x) (h : post 0) : wpY_isCell post (nI N, T, ed, tk, ln, sh, ol, dep, nx, sk) x := by
  by_cases z : x < 0
  · exact br_t z h
  · exact br_f z (br_t (hx.resolve_left z) h)
theorem yo_lead {N c : Nat} {D : Nat → Nat → Bool} {T ed : Int32} {tk ln sh ol dep nx sk : Nat → Int32} {post : Int32 → Prop} (hN : N ≤ 12) (hc : c < N) (hD : yd_ok N D dep) : ∀ (m d n : Nat), d + m = c → m < n → post (nI (or_ldf D c m d)) → wY_leader_13 post (nI c) (nI N) T ed tk ln sh ol dep nx sk n (nI d) := by
  intro m
  induction m with
  | zero =>
    intro d n hd hn hp
    obtain ⟨n, rfl⟩ : ∃ k, n = k + 1 := ⟨n - 1, by omega⟩
    have e : d = c := by omega
    subst e
    exact br_t (nI_le (by omega) (by omega)) hp
  | succ m ih =>
    intro d n hd hn hp
    obtain ⟨n, rfl⟩ : ∃ k, n = k + 1 := ⟨n - 1, by omega⟩
    have hp' : post (nI (if (D c d && D d c) = true then d else or_ldf D c m (d + 1))) := hp
    have d1 := hD c d hc (by omega)
    have d2 := hD d c (by omega) hc
    refine br_f (nI_ge (by omega) (by omega)) ⟨by rw [yd_ix]; exact vp_in_nI (by omega) (by decide), ?_⟩
    rw [yd_ix, nI_clamp (by omega), yd_ix, nI_clamp (by omega)]
    refine br_c (fun z => ?_) (fun z => ⟨vp_in_nI (by omega) (by decide), br_c (fun y => ?_) (fun y => ?_)⟩)
    · rw [d1.mp z] at hp'
      exact nm_r (nI_1 d) (ih (d + 1) n (by omega) (by omega) hp')
    · rw [d2.mp y, Bool.and_false] at hp'
      exact nm_r (nI_1 d) (ih (d + 1) n (by omega) (by omega) hp')
    · have c1 : D c d = true := by
        cases q : D c d
        · exact absurd (d1.mpr q) z
        · rfl
      have c2 : D d c = true := by
        cases q : D d c
        · exact absurd (d2.mpr q) y
        · rfl
      rw [c1, c2] at hp'
      exact hp'
theorem yo_leader {N c : Nat} {D : Nat → Nat → Bool} {T ed : Int32} {tk ln sh ol dep nx sk : Nat → Int32} {post : Int32 → Prop} (hN : N ≤ 12) (hc : c < N) (hD : yd_ok N D dep) (hp : post (nI (or_ld D c))) : wpY_leader post (nI N, T, ed, tk, ln, sh, ol, dep, nx, sk) (nI c) := by
  unfold wpY_leader
  refine ye_cell hN hc (br_f (by decide) ⟨c + 1, ?_⟩)
  exact yo_lead hN hc hD c 0 (c + 1) (by omega) (by omega) hp
theorem yo_rk {N c : Nat} {D : Nat → Nat → Bool} {T ed : Int32} {tk ln sh ol dep nx sk : Nat → Int32} {post : Int32 → Prop} (hN : N ≤ 12) (hc : c < N) (hD : yd_ok N D dep) (hp : post (nI (or_rk N D c))) : ∀ (m d n : Nat), d + m = N → m < n → wY_rank_4 post (nI c) (nI N) T ed tk ln sh ol dep nx sk n (nI (or_cnt (or_rp D c) d)) (nI d) := by
  intro m
  induction m with
  | zero =>
    intro d n hd hn
    obtain ⟨n, rfl⟩ : ∃ k, n = k + 1 := ⟨n - 1, by omega⟩
    have e : d = N := by omega
    subst e
    exact br_t (nI_le (by omega) (by omega)) hp
  | succ m ih =>
    intro d n hd hn
    obtain ⟨n, rfl⟩ : ∃ k, n = k + 1 := ⟨n - 1, by omega⟩
    have ihd := ih (d + 1) n (by omega) (by omega)
    have d1 := hD c d hc (by omega)
    have d2 := hD d c (by omega) hc
    refine br_f (nI_ge (by omega) (by omega)) (pk_eq d c (fun e => ?_) (fun e => ⟨by rw [yd_ix]; exact vp_in_nI (by omega) (by decide), ?_⟩))
    · subst e
      rw [or_cntF (by show (D d d && !D d d) = false; cases D d d <;> rfl)] at ihd
      exact nm_r (nI_1 d) ihd
    · rw [yd_ix, nI_clamp (by omega), yd_ix, nI_clamp (by omega)]
      refine br_c (fun z => ?_) (fun z => ⟨vp_in_nI (by omega) (by decide), br_c (fun y => ?_) (fun y => ?_)⟩)
      · rw [or_cntF (by show (D c d && !D d c) = false; rw [d1.mp z]; rfl)] at ihd
        exact nm_r (nI_1 d) ihd
      · have c1 : D c d = true := by
          cases q : D c d
          · exact absurd (d1.mpr q) z
          · rfl
        rw [or_cnt1 (by show (D c d && !D d c) = true; rw [c1, d2.mp y]; rfl)] at ihd
        exact nm_r (nI_1 _) (nm_r (nI_1 d) ihd)
      · have c2 : D d c = true := by
          cases q : D d c
          · exact absurd (d2.mpr q) y
          · rfl
        rw [or_cntF (by show (D c d && !D d c) = false; rw [c2, Bool.not_true, Bool.and_false])] at ihd
        exact nm_r (nI_1 d) ihd
theorem yo_rank {N c : Nat} {D : Nat → Nat → Bool} {T ed : Int32} {tk ln sh ol dep nx sk : Nat → Int32} {post : Int32 → Prop} (hN : N ≤ 12) (hc : c < N) (hD : yd_ok N D dep) (hp : post (nI (or_rk N D c))) : wpY_rank post (nI N, T, ed, tk, ln, sh, ol, dep, nx, sk) (nI c) :=
  ⟨N + 1, yo_rk hN hc hD hp N 0 (N + 1) (by omega) (by omega)⟩
theorem yo_before {N a b : Nat} {D : Nat → Nat → Bool} {T ed : Int32} {tk ln sh ol dep nx sk : Nat → Int32} {post : Int32 → Prop} (hN : N ≤ 12) (ha : a < N) (hb : b < N) (hD : yd_ok N D dep) (h1 : or_key N D a < or_key N D b → post 1) (h0 : ¬ or_key N D a < or_key N D b → post 0) : wpY_before post (nI N, T, ed, tk, ln, sh, ol, dep, nx, sk) (nI a) (nI b) := by
  have ra : or_rk N D a ≤ N := or_cnt_le _ N
  have rb : or_rk N D b ≤ N := or_cnt_le _ N
  have la := or_ld_le D a
  have lb := or_ld_le D b
  unfold or_key at h1 h0
  unfold wpY_before
  refine yo_rank hN ha hD (yo_rank hN hb hD (pk_eq (or_rk N D a) (or_rk N D b) (fun e => ?_) (fun e => pk_le (or_rk N D b) (or_rk N D a) (fun z => h0 (by omega)) (fun z => h1 (by omega)))))
  refine yo_leader hN ha hD (yo_leader hN hb hD (pk_eq (or_ld D a) (or_ld D b) (fun e2 => pk_le b a (fun z => h0 (by omega)) (fun z => h1 (by omega))) (fun e2 => pk_le (or_ld D b) (or_ld D a) (fun z => h0 (by omega)) (fun z => h1 (by omega)))))
theorem yo_15 {N c : Nat} {D : Nat → Nat → Bool} {T ed x1 : Int32} {tk ln sh ol dep nx sk : Nat → Int32} {post : Int32 → Prop} {J : Int32 → Prop} (hN : N ≤ 12) (hc : c < N) (hD : yd_ok N D dep) (h1 : nI (or_pl N D c) = x1 → post (nI c)) (h0 : ¬ nI (or_pl N D c) = x1 → J (nI (c + 1))) : ∀ (m d n : Nat), d + m = N → m < n → wY_orderAt_15 post J x1 (nI c) (nI N) T ed tk ln sh ol dep nx sk n (nI (or_cnt (or_pp N D c) d)) (nI d) := by
  intro m
  induction m with
  | zero =>
    intro d n hd hn
    obtain ⟨n, rfl⟩ : ∃ k, n = k + 1 := ⟨n - 1, by omega⟩
    have e : d = N := by omega
    subst e
    exact br_t (nI_le (by omega) (by omega)) (br_c h1 (fun z => nm_r (nI_1 c) (h0 z)))
  | succ m ih =>
    intro d n hd hn
    obtain ⟨n, rfl⟩ : ∃ k, n = k + 1 := ⟨n - 1, by omega⟩
    have ihd := ih (d + 1) n (by omega) (by omega)
    refine br_f (nI_ge (by omega) (by omega)) (yo_before hN (by omega) hc hD (fun z => ?_) (fun z => ?_))
    · rw [or_cnt1 (decide_eq_true z)] at ihd
      exact br_f (by decide) (nm_r (nI_1 _) (nm_r (nI_1 d) ihd))
    · rw [or_cntF (decide_eq_false z)] at ihd
      exact br_t rfl (nm_r (nI_1 d) ihd)
theorem yo_2 {N : Nat} {D : Nat → Nat → Bool} {T ed x1 : Int32} {tk ln sh ol dep nx sk : Nat → Int32} {post : Int32 → Prop} (hN : N ≤ 12) (hD : yd_ok N D dep) (h1 : ∀ c, c < N → nI (or_pl N D c) = x1 → post (nI c)) (h0 : (∀ c, c < N → ¬ nI (or_pl N D c) = x1) → post (-99)) : ∀ (m c n : Nat), c + m = N → m < n → (∀ d, d < c → ¬ nI (or_pl N D d) = x1) → wY_orderAt_2 post x1 (nI N) T ed tk ln sh ol dep nx sk n (nI c) := by
  intro m
  induction m with
  | zero =>
    intro c n hc hn hv
    obtain ⟨n, rfl⟩ : ∃ k, n = k + 1 := ⟨n - 1, by omega⟩
    exact br_t (nI_le (by omega) (by omega)) (h0 (fun d hd => hv d (by omega)))
  | succ m ih =>
    intro c n hc hn hv
    obtain ⟨n, rfl⟩ : ∃ k, n = k + 1 := ⟨n - 1, by omega⟩
    refine br_f (nI_ge (by omega) (by omega)) ⟨N + 1, yo_15 hN (by omega) hD (h1 c (by omega)) (fun z => ih (c + 1) n (by omega) (by omega) (fun d hd => ?_)) N 0 (N + 1) (by omega) (by omega)⟩
    by_cases e : d = c
    · rw [e]; exact z
    · exact hv d (by omega)
theorem yo_order {N : Nat} {D : Nat → Nat → Bool} {T ed x1 : Int32} {tk ln sh ol dep nx sk : Nat → Int32} {post : Int32 → Prop} (hN : N ≤ 12) (hD : yd_ok N D dep) (h1 : ∀ c, c < N → nI (or_pl N D c) = x1 → post (nI c)) (h0 : (∀ c, c < N → ¬ nI (or_pl N D c) = x1) → post (-99)) : wpY_orderAt post (nI N, T, ed, tk, ln, sh, ol, dep, nx, sk) x1 :=
  ⟨N + 1, yo_2 hN hD h1 h0 N 0 (N + 1) (by omega) (by omega) (fun d hd => absurd hd (Nat.not_lt_zero d))⟩
theorem yp_dloop {N T : Nat} {t l : Nat → Nat} {T' ed N' : Int32} {sh ol dep nx sk : Nat → Int32} {post : Int32 → Prop} (hN : N ≤ 12) (hT : T ≤ 15) (hw : ls_dr N T (l 12) (ls_kd t 12) (ls_ar t 12)) (hp : post (nI (ls_dp (ls_kd t 12) (l 12)))) : ∀ (m i n : Nat), i + m = l 12 → m < n → wY_draftDepth_4 post N' T' ed (ls_I t) (ls_I l) sh ol dep nx sk n (nI (ls_dp (ls_kd t 12) i)) (nI i) := by
  have h8 := hw.1
  have el : ls_I l 12 = nI (l 12) := rfl
  intro m
  induction m with
  | zero =>
    intro i n hi hn
    obtain ⟨n, rfl⟩ : ∃ k, n = k + 1 := ⟨n - 1, by omega⟩
    have e : i = l 12 := by omega
    refine br_t (by rw [el]; exact nI_le (by omega) (by omega)) ?_
    rw [e]
    exact hp
  | succ m ih =>
    intro i n hi hn
    obtain ⟨n, rfl⟩ : ∃ k, n = k + 1 := ⟨n - 1, by omega⟩
    have ⟨h5, ha, h6, hi8, hsh, href⟩ := xe_tok hN hT hw (i := i) (by omega)
    have ihd := ih (i + 1) n (by omega) (by omega)
    have ei : 96 + nI i = nI (8 * 12 + i) := nI_add 96 i
    refine br_f (by rw [el]; exact nI_ge (by omega) (by omega)) ?_
    rw [ei]
    refine ⟨vp_in_nI (by omega) (by decide), by decide, nm_r (xe_div h6 (by omega) hi8) (pk_eq _ 0 (fun k0 => ?_) (fun k0 => pk_eq _ 1 (fun k1 => ?_) (fun k1 => ?_)))⟩
    · rw [ls_dp_a (by omega)] at ihd
      exact nm_r (nI_1 _) (nm_r (nI_1 i) ihd)
    · rw [ls_dp_a (by omega)] at ihd
      exact nm_r (nI_1 _) (nm_r (nI_1 i) ihd)
    · have h2 := hsh (by omega)
      rw [ls_dp_b (by omega)] at ihd
      refine nm_r (e' := nI (ls_dp (ls_kd t 12) i - 1)) ?_ (nm_r (nI_1 i) ihd)
      rw [show ls_dp (ls_kd t 12) i = (ls_dp (ls_kd t 12) i - 1) + 1 by omega]
      exact pk_m1 _
theorem yp_depth {N T : Nat} {t l : Nat → Nat} {T' ed N' : Int32} {sh ol dep nx sk : Nat → Int32} {post : Int32 → Prop} (hN : N ≤ 12) (hT : T ≤ 15) (hw : ls_dr N T (l 12) (ls_kd t 12) (ls_ar t 12)) (hp : post (nI (ls_dp (ls_kd t 12) (l 12)))) : wpY_draftDepth post (N', T', ed, ls_I t, ls_I l, sh, ol, dep, nx, sk) :=
  ⟨l 12 + 1, yp_dloop hN hT hw hp (l 12) 0 (l 12 + 1) (by omega) (by omega)⟩
theorem yt_old {N T : Nat} {t l : Nat → Nat} {e ed : Int32} {sh dep nx sk : Nat → Int32} {post : SY → Prop} (hN : N ≤ 12) (hT : T ≤ 15) (hw : ls_all N T t l) (hp : ∀ (sh' ol dep nx sk : Nat → Int32) (w : Nat → Nat), (∀ d, d < N → sh' d = nI (w d)) → lf_least N T (ls_F T t l) w → (∀ d, d < N → ol d = sh d) → yd_ok N (wa_S (de_Ub N t l) N) dep → post (nI N, nI T, e, ls_I t, ls_I l, sh', ol, dep, nx, sk)) : ∀ (m i n : Nat) (ol : Nat → Int32), i + m = N → m < n → (∀ d, d < i → ol d = sh d) → wY_finishEdit_2 post e (nI N) (nI T) ed n (nI i) (ls_I t) (ls_I l) sh ol dep nx sk := by
  intro m
  induction m with
  | zero =>
    intro i n ol hi hn hv
    obtain ⟨n, rfl⟩ : ∃ k, n = k + 1 := ⟨n - 1, by omega⟩
    have z : i = N := by omega
    subst z
    exact br_t (nI_le (by omega) (by omega)) (ys_solve hN hT hw (fun sh' nx' sk' w h1 h2 => yd_dep hN hT hw (fun dep' h3 => hp sh' ol dep' nx' sk' w h1 h2 hv h3)))
  | succ m ih =>
    intro i n ol hi hn hv
    obtain ⟨n, rfl⟩ : ∃ k, n = k + 1 := ⟨n - 1, by omega⟩
    have hin : vp_in (nI i) 12 := vp_in_nI (by omega) (by decide)
    refine br_f (nI_ge (by omega) (by omega)) ⟨hin, hin, nm_e (nm_r (nI_1 i) (ih (i + 1) n _ (by omega) (by omega) (fun d hd => ?_)))⟩
    rw [nI_clamp (by omega)]
    by_cases z : d = i
    · rw [z, pk_us]
    · rw [pk_un z]; exact hv d (by omega)
theorem yt_finish {N T : Nat} {t l : Nat → Nat} {e ed : Int32} {sh ol dep nx sk : Nat → Int32} {post : SY → Prop} (hN : N ≤ 12) (hT : T ≤ 15) (hw : ls_all N T t l) (hp : ∀ (sh' ol dep nx sk : Nat → Int32) (w : Nat → Nat), (∀ d, d < N → sh' d = nI (w d)) → lf_least N T (ls_F T t l) w → (∀ d, d < N → ol d = sh d) → yd_ok N (wa_S (de_Ub N t l) N) dep → post (nI N, nI T, e, ls_I t, ls_I l, sh', ol, dep, nx, sk)) : wpY_finishEdit post (nI N, nI T, ed, ls_I t, ls_I l, sh, ol, dep, nx, sk) e :=
  ⟨N + 1, yt_old hN hT hw hp N 0 (N + 1) ol (by omega) (by omega) (fun d hd => absurd hd (Nat.not_lt_zero d))⟩
end
section
/-! the relation, and the calls that only ask -/
def i_Rel (_ : Nat) (u : SX) (v : SY) : Prop := ∃ (N T : Nat) (t l : Nat → Nat) (ed : Int32) (sk sh os de re le so od : Nat → Int32) (D : Nat → Nat → Bool) (ysh yol ydep ynx ysk : Nat → Int32), u = (nI N, nI T, nI (ls_dp (ls_kd t 12) (l 12)), ed, ls_I t, ls_I l, sk, sh, os, de, re, le, so, od) ∧ v = (nI N, nI T, ed, ls_I t, ls_I l, ysh, yol, ydep, ynx, ysk) ∧ N ≤ 12 ∧ T ≤ 15 ∧ ls_all N T t l ∧ ls_dr N T (l 12) (ls_kd t 12) (ls_ar t 12) ∧ (∀ c, c < N → sh c = ysh c) ∧ (∀ c, c < N → de c = ysh c - yol c) ∧ xs_ok N D re le od ∧ yd_ok N D ydep
theorem i_up {k : Nat} {u : SX} {v : SY} (h : i_Rel k u v) : i_Rel (k + 3) u v := h
theorem xe_ncell {N : Nat} {x : Int32} {post : Int32 → Prop} {T dd ed : Int32} {tk ln sk sh os de re le so od : Nat → Int32} (hx : x < 0 ∨ nI N ≤ x) (h : post 0) : wpX_isCell post (nI N, T, dd, ed, tk, ln, sk, sh, os, de, re, le, so, od) x := by
  by_cases z : x < 0
  · exact br_t z h
  · exact br_f z (br_t (hx.resolve_left z) h)
theorem rl_ix (x : Int32) {N : Nat} (hN : N ≤ 12) : (x < 0 ∨ nI N ≤ x) ∨ ∃ j : Nat, j < N ∧ x = nI j := by
  rcases pk_ix x (n := N) (by omega) with h | h | h
  · exact Or.inl (Or.inl h)
  · exact Or.inl (Or.inr h)
  · exact Or.inr h
theorem rl_n99 {c : Nat} (h : c < 13) : ¬ nI c = (-99) := by
  intro z
  have := nI_pos (n := c) (by omega)
  rw [z] at this
  exact this (by decide)
theorem rl_n1 {c : Nat} (h : c < 13) : ¬ nI c = (-1) := by
  intro z
  have := nI_pos (n := c) (by omega)
  rw [z] at this
  exact this (by decide)
theorem i_vc_value {k : Nat} {u : SX} {v : SY} (I : i_Rel k u v) (hk : k + 3 ≤ 1538) (v1 : Int32) : wpX_value (fun r => wpY_value (fun r' => r' = r ∧ i_Rel (k + 3) u v) v v1) u v1 := by
  have I2 : i_Rel (k + 3) u v := I
  obtain ⟨N, T, t, l, ed, sk, sh, os, de, re, le, so, od, D, ysh, yol, ydep, ynx, ysk, rfl, rfl, hN, hT, ha, hd, hs, hdl, hX, hY⟩ := I
  unfold wpX_value wpY_value
  rcases rl_ix v1 hN with h | ⟨c, hc, rfl⟩
  · exact xe_ncell h (br_t rfl (ye_ncell h (br_t rfl ⟨rfl, I2⟩)))
  · have hin : vp_in (nI c) 12 := vp_in_nI (by omega) (by decide)
    refine xe_cell hN hc (br_f (by decide) ⟨hin, ye_cell hN hc (br_f (by decide) ⟨hin, ?_, I2⟩)⟩)
    rw [nI_clamp (by omega)]
    exact (hs c hc).symm
theorem i_vc_delta {k : Nat} {u : SX} {v : SY} (I : i_Rel k u v) (hk : k + 3 ≤ 1538) (v1 : Int32) : wpX_delta (fun r => wpY_delta (fun r' => r' = r ∧ i_Rel (k + 3) u v) v v1) u v1 := by
  have I2 : i_Rel (k + 3) u v := I
  obtain ⟨N, T, t, l, ed, sk, sh, os, de, re, le, so, od, D, ysh, yol, ydep, ynx, ysk, rfl, rfl, hN, hT, ha, hd, hs, hdl, hX, hY⟩ := I
  unfold wpX_delta wpY_delta
  rcases rl_ix v1 hN with h | ⟨c, hc, rfl⟩
  · exact xe_ncell h (br_t rfl (ye_ncell h (br_t rfl ⟨rfl, I2⟩)))
  · have hin : vp_in (nI c) 12 := vp_in_nI (by omega) (by decide)
    refine xe_cell hN hc (br_f (by decide) ⟨hin, ye_cell hN hc (br_f (by decide) ⟨hin, hin, ?_, I2⟩)⟩)
    rw [nI_clamp (by omega)]
    exact (hdl c hc).symm
theorem i_vc_edited {k : Nat} {u : SX} {v : SY} (I : i_Rel k u v) (hk : k + 3 ≤ 1538) : wpX_edited (fun r => wpY_edited (fun r' => r' = r ∧ i_Rel (k + 3) u v) v) u := by
  have I2 : i_Rel (k + 3) u v := I
  obtain ⟨N, T, t, l, ed, sk, sh, os, de, re, le, so, od, D, ysh, yol, ydep, ynx, ysk, rfl, rfl, hN, hT, ha, hd, hs, hdl, hX, hY⟩ := I
  exact ⟨rfl, I2⟩
theorem i_vc_depends {k : Nat} {u : SX} {v : SY} (I : i_Rel k u v) (hk : k + 3 ≤ 1538) (v1 : Int32) (v2 : Int32) : wpX_depends (fun r => wpY_depends (fun r' => r' = r ∧ i_Rel (k + 3) u v) v v1 v2) u v1 v2 := by
  have I2 : i_Rel (k + 3) u v := I
  obtain ⟨N, T, t, l, ed, sk, sh, os, de, re, le, so, od, D, ysh, yol, ydep, ynx, ysk, rfl, rfl, hN, hT, ha, hd, hs, hdl, hX, hY⟩ := I
  unfold wpX_depends wpY_depends
  rcases rl_ix v1 hN with h | ⟨c, hc, rfl⟩
  · exact xe_ncell h (br_t rfl (ye_ncell h (br_t rfl ⟨rfl, I2⟩)))
  · rcases rl_ix v2 hN with h | ⟨d, hdN, rfl⟩
    · exact xe_cell hN hc (br_f (by decide) (xe_ncell h (br_t rfl (ye_cell hN hc (br_f (by decide) (ye_ncell h (br_t rfl ⟨rfl, I2⟩)))))))
    · have hin : vp_in (nI c * 12 + nI d) 144 := by rw [yd_ix]; exact vp_in_nI (by omega) (by decide)
      have e : ydep (nI c * 12 + nI d).toNatClampNeg = ydep (12 * c + d) := by rw [yd_ix, nI_clamp (by omega)]
      refine xe_cell hN hc (br_f (by decide) (xe_cell hN hdN (br_f (by decide) (xr_reaches (by omega) (by omega) (fun h1 => ?_) (fun h1 => ?_)))))
      · rw [hX.1 c d hc hdN] at h1
        have h2 : ¬ ydep (12 * c + d) = 0 := fun z => by rw [(hY c d hc hdN).mp z] at h1; exact Bool.false_ne_true h1
        exact br_f (by decide) (ye_cell hN hc (br_f (by decide) (ye_cell hN hdN (br_f (by decide) ⟨hin, br_f (by rw [e]; exact h2) ⟨rfl, I2⟩⟩))))
      · rw [hX.1 c d hc hdN] at h1
        have h2 : ydep (12 * c + d) = 0 := (hY c d hc hdN).mpr h1
        exact br_t rfl (ye_cell hN hc (br_f (by decide) (ye_cell hN hdN (br_f (by decide) ⟨hin, br_t (by rw [e]; exact h2) ⟨rfl, I2⟩⟩))))
theorem i_vc_leader {k : Nat} {u : SX} {v : SY} (I : i_Rel k u v) (hk : k + 3 ≤ 1538) (v1 : Int32) : wpX_leader (fun r => wpY_leader (fun r' => r' = r ∧ i_Rel (k + 3) u v) v v1) u v1 := by
  have I2 : i_Rel (k + 3) u v := I
  obtain ⟨N, T, t, l, ed, sk, sh, os, de, re, le, so, od, D, ysh, yol, ydep, ynx, ysk, rfl, rfl, hN, hT, ha, hd, hs, hdl, hX, hY⟩ := I
  unfold wpX_leader
  rcases rl_ix v1 hN with h | ⟨c, hc, rfl⟩
  · refine xe_ncell h (br_t rfl ?_)
    unfold wpY_leader
    exact ye_ncell h (br_t rfl ⟨rfl, I2⟩)
  · refine xe_cell hN hc (br_f (by decide) ⟨vp_in_nI (by omega) (by decide), yo_leader hN hc hY ⟨?_, I2⟩⟩)
    rw [nI_clamp (by omega)]
    exact (hX.2.1 c hc).symm
theorem i_vc_orderAt {k : Nat} {u : SX} {v : SY} (I : i_Rel k u v) (hk : k + 3 ≤ 1538) (v1 : Int32) : wpX_orderAt (fun r => wpY_orderAt (fun r' => r' = r ∧ i_Rel (k + 3) u v) v v1) u v1 := by
  have I2 : i_Rel (k + 3) u v := I
  obtain ⟨N, T, t, l, ed, sk, sh, os, de, re, le, so, od, D, ysh, yol, ydep, ynx, ysk, rfl, rfl, hN, hT, ha, hd, hs, hdl, hX, hY⟩ := I
  unfold wpX_orderAt
  rcases rl_ix v1 hN with h | ⟨p, hp, rfl⟩
  · refine xe_ncell h (br_t rfl (yo_order hN hY (fun c hc z => ?_) (fun _ => ⟨rfl, I2⟩)))
    have h1 := or_pl_lt D hc
    rw [← z] at h
    rcases h with h | h
    · exact absurd h (nI_pos (by omega))
    · exact absurd h (nI_ge h1 (by omega))
  · refine xe_cell hN hp (br_f (by decide) ⟨vp_in_nI (by omega) (by decide), yo_order hN hY (fun c hc z => ⟨?_, I2⟩) (fun z => ?_)⟩)
    · have h1 := or_pl_lt D hc
      rw [nI_eq (by omega) (by omega)] at z
      rw [nI_clamp (by omega), ← z]
      exact (hX.2.2 c hc).symm
    · obtain ⟨c, hc, e⟩ := or_pl_sur (D := D) hN hp
      exact absurd (by rw [e]) (z c hc)
theorem i_vc_length {k : Nat} {u : SX} {v : SY} (I : i_Rel k u v) (hk : k + 3 ≤ 1538) (v1 : Int32) : wpX_length (fun r => wpY_length (fun r' => r' = r ∧ i_Rel (k + 3) u v) v v1) u v1 := by
  have I2 : i_Rel (k + 3) u v := I
  obtain ⟨N, T, t, l, ed, sk, sh, os, de, re, le, so, od, D, ysh, yol, ydep, ynx, ysk, rfl, rfl, hN, hT, ha, hd, hs, hdl, hX, hY⟩ := I
  unfold wpX_length wpX_rowOf wpY_length
  by_cases e : v1 = (-1)
  · refine br_t e (br_f (by decide) ⟨vp_in_iff.mpr (by decide), br_t e ⟨?_, I2⟩⟩)
    exact congrArg (ls_I l) (show (12 : Nat) = (12 : Int32).toNatClampNeg by decide)
  · refine br_f e ?_
    rcases rl_ix v1 hN with h | ⟨c, hc, rfl⟩
    · exact xe_ncell h (br_t rfl (br_t rfl (br_f e (ye_ncell h (br_t rfl ⟨rfl, I2⟩)))))
    · have hin : vp_in (nI c) 13 := vp_in_nI (by omega) (by decide)
      exact xe_cell hN hc (br_f (by decide) (br_f (rl_n99 (by omega)) ⟨hin, br_f e (ye_cell hN hc (br_f (by decide) ⟨hin, rfl, I2⟩))⟩))
theorem rl_tok {r : Nat} {A : Prop} {v1 z : Int32} {t l : Nat → Nat} {N T ed : Int32} {ysh yol ydep ynx ysk : Nat → Int32} (hr : r < 13) (h8 : l r ≤ 8) (hz : z = nI r) (hA : A) : ((v1 < 0 → wY_tokenAt_27 (fun r' => r' = (-99) ∧ A) v1 z N T ed (ls_I t) (ls_I l) ysh yol ydep ynx ysk) ∧ (¬ v1 < 0 → (vp_in z 13 ∧ (((v1 < (ls_I l z.toNatClampNeg) → (vp_in ((z * 8) + v1) 104 ∧ (wY_tokenAt_27 (fun r' => r' = (ls_I t ((z * 8) + v1).toNatClampNeg) ∧ A) v1 z N T ed (ls_I t) (ls_I l) ysh yol ydep ynx ysk))) ∧ (¬ v1 < (ls_I l z.toNatClampNeg) → (wY_tokenAt_27 (fun r' => r' = (-99) ∧ A) v1 z N T ed (ls_I t) (ls_I l) ysh yol ydep ynx ysk))))))) := by
  subst hz
  have hin : vp_in (nI r) 13 := vp_in_nI hr (by decide)
  by_cases h0 : v1 < 0
  · exact br_t h0 (br_t h0 ⟨rfl, hA⟩)
  · obtain ⟨i, hi, rfl⟩ := nI_of h0
    have el : ls_I l (nI r).toNatClampNeg = nI (l r) := ls_Iat (by omega)
    by_cases h1 : i < l r
    · have h1' : nI i < ls_I l (nI r).toNatClampNeg := by rw [el]; exact nI_lt h1 (by omega)
      have hix : vp_in (nI r * 8 + nI i) 104 := by
        rw [show nI r * 8 = nI (r * 8) from pk_mul r 8, nI_add]
        exact vp_in_nI (by omega) (by decide)
      exact br_f h0 ⟨hin, br_t h1' ⟨hix, br_f h0 ⟨hin, br_t h1' ⟨hix, rfl, hA⟩⟩⟩⟩
    · have h1' : ¬ nI i < ls_I l (nI r).toNatClampNeg := by rw [el]; exact nI_nlt (by omega) (by omega)
      exact br_f h0 ⟨hin, br_f h1' (br_f h0 ⟨hin, br_f h1' ⟨rfl, hA⟩⟩)⟩
theorem i_vc_tokenAt {k : Nat} {u : SX} {v : SY} (I : i_Rel k u v) (hk : k + 3 ≤ 1538) (v1 : Int32) (v2 : Int32) : wpX_tokenAt (fun r => wpY_tokenAt (fun r' => r' = r ∧ i_Rel (k + 3) u v) v v1 v2) u v1 v2 := by
  have I2 : i_Rel (k + 3) u v := I
  obtain ⟨N, T, t, l, ed, sk, sh, os, de, re, le, so, od, D, ysh, yol, ydep, ynx, ysk, rfl, rfl, hN, hT, ha, hd, hs, hdl, hX, hY⟩ := I
  unfold wpX_tokenAt wpX_rowOf wpY_tokenAt
  by_cases e : v1 = (-1)
  · have h := rl_tok (v1 := v2) (z := 12) (t := t) (N := nI N) (T := nI T) (ed := ed) (ysh := ysh) (yol := yol) (ydep := ydep) (ynx := ynx) (ysk := ysk) (r := 12) (by omega) hd.1 rfl I2
    refine br_t e (br_f (by decide) ⟨fun z => br_t e (br_t e (h.1 z)), fun z => ⟨(h.2 z).1, fun y => ⟨((h.2 z).2.1 y).1, br_t e (br_t e ((h.2 z).2.1 y).2)⟩, fun y => br_t e (br_t e ((h.2 z).2.2 y))⟩⟩)
  · refine br_f e ?_
    rcases rl_ix v1 hN with h | ⟨c, hc, rfl⟩
    · exact xe_ncell h (br_t rfl (br_t rfl (br_f e (ye_ncell h (br_t rfl ⟨rfl, I2⟩)))))
    · have h := rl_tok (v1 := v2) (z := nI c) (t := t) (N := nI N) (T := nI T) (ed := ed) (ysh := ysh) (yol := yol) (ydep := ydep) (ynx := ynx) (ysk := ysk) (r := c) (by omega) (ha c hc).1.1 rfl I2
      exact xe_cell hN hc (br_f (by decide) (br_f (rl_n99 (by omega)) ⟨fun z => br_f e (ye_cell hN hc (br_f (by decide) (br_f e (h.1 z)))), fun z => ⟨(h.2 z).1, fun y => ⟨((h.2 z).2.1 y).1, br_f e (ye_cell hN hc (br_f (by decide) (br_f e ((h.2 z).2.1 y).2)))⟩, fun y => br_f e (ye_cell hN hc (br_f (by decide) (br_f e ((h.2 z).2.2 y))))⟩⟩))
end
section
/-! push, dropDraft -/
theorem ls_dr_congr {N T n : Nat} {kd kd' ar ar' : Nat → Nat} (hk : ∀ i, i < n → kd i = kd' i) (ha : ∀ i, i < n → ar i = ar' i) (h : ls_dr N T n kd ar) : ls_dr N T n kd' ar' := by
  refine ⟨h.1, fun i hi => ?_⟩
  have := h.2 i hi
  rw [← hk i hi, ← ha i hi, ← ls_dp_congr i (fun j hj => hk j (by omega))]
  exact this
theorem ls_wf_congr {N T n : Nat} {kd kd' ar ar' : Nat → Nat} (hk : ∀ i, i < n → kd i = kd' i) (ha : ∀ i, i < n → ar i = ar' i) (h : ls_wf N T n kd ar) : ls_wf N T n kd' ar' := ⟨ls_dr_congr hk ha h.1, by rw [← ls_dp_congr n hk]; exact h.2⟩
/-- a row that holds the same tokens -/
theorem ls_row {t t' : Nat → Nat} {c c' n : Nat} (h : ∀ i, i < n → t (8 * c + i) = t' (8 * c' + i)) : (∀ i, i < n → ls_kd t c i = ls_kd t' c' i) ∧ ∀ i, i < n → ls_ar t c i = ls_ar t' c' i := by
  refine ⟨fun i hi => ?_, fun i hi => ?_⟩
  · unfold ls_kd; rw [h i hi]
  · unfold ls_ar; rw [h i hi]
theorem ls_all_low {N T : Nat} {t t' l l' : Nat → Nat} (hN : N ≤ 12) (ht : ∀ j, j < 96 → t j = t' j) (hl : ∀ c, c < N → l c = l' c) (h : ls_all N T t l) : ls_all N T t' l' := by
  intro c hc
  have h8 := (h c hc).1.1
  rw [← hl c hc]
  have r := ls_row (t := t) (t' := t') (c := c) (c' := c) (n := l c) (fun i hi => ht _ (by omega))
  exact ls_wf_congr r.1 r.2 (h c hc)
theorem rl_push {N T k a : Nat} {t l : Nat → Nat} (hd : ls_dr N T (l 12) (ls_kd t 12) (ls_ar t 12)) (h8 : l 12 < 8) (htok : ls_tok N T k a) (ha : a < 100) (hs : 2 ≤ k → 2 ≤ ls_dp (ls_kd t 12) (l 12)) : ls_dr N T (ls_up l 12 (l 12 + 1) 12) (ls_kd (ls_up t (96 + l 12) (100 * k + a)) 12) (ls_ar (ls_up t (96 + l 12) (100 * k + a)) 12) ∧ ls_dp (ls_kd (ls_up t (96 + l 12) (100 * k + a)) 12) (ls_up l 12 (l 12 + 1) 12) = (if k < 2 then ls_dp (ls_kd t 12) (l 12) + 1 else ls_dp (ls_kd t 12) (l 12) - 1) := by
  rw [ls_us]
  have r := ls_row (t := t) (t' := ls_up t (96 + l 12) (100 * k + a)) (c := 12) (c' := 12) (n := l 12) (fun i hi => (ls_un (by omega)).symm)
  have ek : ls_kd (ls_up t (96 + l 12) (100 * k + a)) 12 (l 12) = k := by
    show ls_up t (96 + l 12) (100 * k + a) (96 + l 12) / 100 = k
    rw [ls_us]; omega
  have ea : ls_ar (ls_up t (96 + l 12) (100 * k + a)) 12 (l 12) = a := by
    show ls_up t (96 + l 12) (100 * k + a) (96 + l 12) % 100 = a
    rw [ls_us]; omega
  have ed := ls_dp_congr (l 12) r.1
  have d2 := ls_dr_congr r.1 r.2 hd
  refine ⟨⟨by omega, fun i hi => ?_⟩, ?_⟩
  · by_cases e : i = l 12
    · rw [e, ek, ea, ← ed]; exact ⟨htok, hs⟩
    · exact d2.2 i (by omega)
  · by_cases h2 : k < 2
    · rw [if_pos h2, ls_dp_a (by rw [ek]; exact h2), ed]
    · rw [if_neg h2, ls_dp_b (by rw [ek]; exact h2), ed]
theorem xp_91 {N T k a : Nat} {x4 dd' : Int32} {t l : Nat → Nat} {post : Int32 → SX → Prop} {dd ed : Int32} {sk sh os de re le so od : Nat → Int32} (h8 : l 12 < 8) (h4 : (x4 = 0 → dd' = dd + (-1)) ∧ (¬ x4 = 0 → dd' = dd + 1)) (h : post 0 (nI N, nI T, dd', ed, ls_I (ls_up t (96 + l 12) (100 * k + a)), ls_I (ls_up l 12 (l 12 + 1)), sk, sh, os, de, re, le, so, od)) : wX_push_91 post (nI k) (nI (l 12)) x4 (nI a) (nI N) (nI T) dd ed (ls_I t) (ls_I l) sk sh os de re le so od := by
  have e1 : 96 + nI (l 12) = nI (96 + l 12) := nI_add 96 (l 12)
  have e2 : 100 * nI k + nI a = nI (100 * k + a) := by rw [show 100 * nI k = nI (100 * k) from pk_mul 100 k, nI_add]
  unfold wX_push_91
  rw [e1, e2, nI_clamp (by omega), ls_Iup, nI_1, ls_Iup]
  refine ⟨vp_in_nI (by omega) (by decide), nm_e (nm_e (br_c (fun z => nm_r (h4.1 z).symm h) (fun z => nm_r (h4.2 z).symm h)))⟩
theorem xp_59 {k : Nat} {x2 x3 x4 : Int32} {post : Int32 → SX → Prop} {N T dd ed : Int32} {tk ln sk sh os de re le so od : Nat → Int32} (hk : k ≤ 5) (h : wX_push_91 post (nI k) x3 x4 (if 2 ≤ k ∧ k ≤ 4 then 0 else x2) N T dd ed tk ln sk sh os de re le so od) : wX_push_59 post (nI k) x2 x3 x4 N T dd ed tk ln sk sh os de re le so od := by
  unfold wX_push_59 wX_push_74 wX_push_79
  by_cases p : 2 ≤ k ∧ k ≤ 4
  · rw [if_pos p] at h
    have h' := br_f (c := (1 : Int32) = 0) (A := wX_push_91 post (nI k) x3 x4 x2 N T dd ed tk ln sk sh os de re le so od) (by decide) h
    exact pk_eq k 2 (fun _ => h') (fun _ => pk_eq k 3 (fun _ => h') (fun _ => pk_eq k 4 (fun _ => h') (fun _ => by omega)))
  · rw [if_neg p] at h
    exact pk_eq k 2 (fun _ => by omega) (fun _ => pk_eq k 3 (fun _ => by omega) (fun _ => pk_eq k 4 (fun _ => by omega) (fun _ => br_t rfl h)))
def rl_arg (N T k : Nat) (v : Int32) : Prop := (k = 0 → ¬ v < 0 ∧ ¬ nI T < v) ∧ (k = 1 → ¬ v < 0 ∧ ¬ nI N ≤ v) ∧ (k = 5 → ¬ v < 1 ∧ ¬ nI T < v)
theorem rl_arg_tok {N T k : Nat} {v : Int32} (hN : N ≤ 12) (hT : T ≤ 15) (hk : k ≤ 5) (h : rl_arg N T k v) : ∃ a : Nat, a < 100 ∧ ls_tok N T k a ∧ (if 2 ≤ k ∧ k ≤ 4 then 0 else v) = nI a := by
  have h1 : ¬ v < 1 → ¬ v < 0 := fun z y => z (Int32.lt_trans y (by decide))
  by_cases p : 2 ≤ k ∧ k ≤ 4
  · exact ⟨0, by omega, ⟨hk, fun _ => by omega, fun _ => by omega, fun _ _ => rfl, fun _ => by omega⟩, by rw [if_pos p]; rfl⟩
  · rw [if_neg p]
    by_cases k0 : k = 0
    · have ⟨a1, a2⟩ := h.1 k0
      obtain ⟨a, ha, rfl⟩ := nI_of a1
      rw [nI_ltI (by omega) ha] at a2
      exact ⟨a, by omega, ⟨hk, fun _ => by omega, fun _ => by omega, fun _ => by omega, fun _ => by omega⟩, rfl⟩
    · by_cases k1 : k = 1
      · have ⟨a1, a2⟩ := h.2.1 k1
        obtain ⟨a, ha, rfl⟩ := nI_of a1
        rw [nI_leI (by omega) ha] at a2
        exact ⟨a, by omega, ⟨hk, fun _ => by omega, fun _ => by omega, fun _ => by omega, fun _ => by omega⟩, rfl⟩
      · have ⟨a1, a2⟩ := h.2.2 (by omega)
        obtain ⟨a, ha, rfl⟩ := nI_of (h1 a1)
        rw [nI_ltI (by omega) ha] at a2
        have a3 : ¬ a < 1 := fun z => a1 (nI_lt (b := 1) z (by decide))
        exact ⟨a, by omega, ⟨hk, fun _ => by omega, fun _ => by omega, fun _ => by omega, fun _ => by omega⟩, rfl⟩
theorem xp_arg {N T k : Nat} {v : Int32} {post : Int32 → Prop} {dd ed : Int32} {tk ln sk sh os de re le so od : Nat → Int32} (hk : k ≤ 5) (h1 : rl_arg N T k v → post 1) (h0 : ¬ rl_arg N T k v → post 0) : wpX_isArgument post (nI N, nI T, dd, ed, tk, ln, sk, sh, os, de, re, le, so, od) (nI k) v := by
  unfold wpX_isArgument
  refine pk_eq k 0 (fun k0 => ?_) (fun k0 => pk_eq k 1 (fun k1 => ?_) (fun k1 => pk_eq k 5 (fun k5 => ?_) (fun k5 => h1 ⟨fun z => absurd z k0, fun z => absurd z k1, fun z => absurd z k5⟩)))
  · exact br_c (fun z => h0 (fun y => (y.1 k0).1 z)) (fun z => br_c (fun x => h0 (fun y => (y.1 k0).2 x)) (fun x => h1 ⟨fun _ => ⟨z, x⟩, fun _ => by omega, fun _ => by omega⟩))
  · exact br_c (fun z => ⟨rfl, h0 (fun y => (y.2.1 k1).1 z)⟩) (fun z => br_c (fun x => ⟨rfl, h0 (fun y => (y.2.1 k1).2 x)⟩) (fun x => ⟨rfl, h1 ⟨fun _ => by omega, fun _ => ⟨z, x⟩, fun _ => by omega⟩⟩))
  · exact br_c (fun z => h0 (fun y => (y.2.2 k5).1 z)) (fun z => br_c (fun x => h0 (fun y => (y.2.2 k5).2 x)) (fun x => h1 ⟨fun _ => by omega, fun _ => by omega, fun _ => ⟨z, x⟩⟩))
theorem yp_117 {N T k a : Nat} {t l : Nat → Nat} {post : Int32 → SY → Prop} {ed : Int32} {sh ol dep nx sk : Nat → Int32} (h8 : l 12 < 8) (h : post 0 (nI N, nI T, ed, ls_I (ls_up t (96 + l 12) (100 * k + a)), ls_I (ls_up l 12 (l 12 + 1)), sh, ol, dep, nx, sk)) : wY_push_117 post (nI k) (nI a) (nI N) (nI T) ed (ls_I t) (ls_I l) sh ol dep nx sk := by
  have e0 : ls_I l 12 = nI (l 12) := rfl
  have e1 : 96 + nI (l 12) = nI (96 + l 12) := nI_add 96 (l 12)
  have e2 : 100 * nI k + nI a = nI (100 * k + a) := by rw [show 100 * nI k = nI (100 * k) from pk_mul 100 k, nI_add]
  unfold wY_push_117
  rw [e0, e1, e2, nI_clamp (by omega), ls_Iup, nI_1, ls_Iup]
  exact ⟨vp_in_nI (by omega) (by decide), nm_e (nm_e h)⟩
theorem yp_97 {k : Nat} {x2 : Int32} {post : Int32 → SY → Prop} {N T ed : Int32} {tk ln sh ol dep nx sk : Nat → Int32} (hk : k ≤ 5) (h : wY_push_117 post (nI k) (if 2 ≤ k ∧ k ≤ 4 then 0 else x2) N T ed tk ln sh ol dep nx sk) : wY_push_97 post (nI k) x2 N T ed tk ln sh ol dep nx sk := by
  unfold wY_push_97 wY_push_112
  by_cases p : 2 ≤ k ∧ k ≤ 4
  · rw [if_pos p] at h
    exact pk_eq k 2 (fun _ => h) (fun _ => pk_eq k 3 (fun _ => h) (fun _ => pk_eq k 4 (fun _ => h) (fun _ => by omega)))
  · rw [if_neg p] at h
    exact pk_eq k 2 (fun _ => by omega) (fun _ => pk_eq k 3 (fun _ => by omega) (fun _ => pk_eq k 4 (fun _ => by omega) (fun _ => h)))
theorem rl_le {x y : Int32} : x ≤ y ↔ ¬ y < x := Int32.not_lt.symm
theorem yp_push {N T k : Nat} {v : Int32} {t l : Nat → Nat} {post : Int32 → SY → Prop} {ed : Int32} {sh ol dep nx sk : Nat → Int32} (hN : N ≤ 12) (hT : T ≤ 15) (hk : k ≤ 5) (h8 : l 12 < 8) (hd : ls_dr N T (l 12) (ls_kd t 12) (ls_ar t 12)) (h3 : ¬ rl_arg N T k v → post 3 (nI N, nI T, ed, ls_I t, ls_I l, sh, ol, dep, nx, sk)) (h4 : rl_arg N T k v → 2 ≤ k → ls_dp (ls_kd t 12) (l 12) < 2 → post 4 (nI N, nI T, ed, ls_I t, ls_I l, sh, ol, dep, nx, sk)) (h0 : rl_arg N T k v → (2 ≤ k → 2 ≤ ls_dp (ls_kd t 12) (l 12)) → wY_push_97 post (nI k) v (nI N) (nI T) ed (ls_I t) (ls_I l) sh ol dep nx sk) : wpY_push post (nI N, nI T, ed, ls_I t, ls_I l, sh, ol, dep, nx, sk) (nI k) v := by
  have hdp := ls_dp_le (ls_kd t 12) (l 12)
  have h82 : rl_arg N T k v → wY_push_82 post (nI k) v (nI N) (nI T) ed (ls_I t) (ls_I l) sh ol dep nx sk := by
    intro h
    unfold wY_push_82
    refine pk_lt k 2 (fun z => h0 h (by omega)) (fun z => yp_depth hN hT hd (pk_le 2 _ (fun y => h0 h (fun _ => y)) (fun y => h4 h z y)))
  have h62 : ((k = 0 → ¬ v < 0 ∧ ¬ nI T < v) ∧ (k = 1 → ¬ v < 0 ∧ ¬ nI N ≤ v)) → wY_push_62 post (nI k) v (nI N) (nI T) ed (ls_I t) (ls_I l) sh ol dep nx sk := by
    intro h
    unfold wY_push_62
    refine pk_eq k 5 (fun k5 => br_c (fun z => h3 (fun y => (y.2.2 k5).1 z)) (fun z => br_c (fun x => h82 ⟨h.1, h.2, fun _ => ⟨z, rl_le.mp x⟩⟩) (fun x => h3 (fun y => x (rl_le.mpr (y.2.2 k5).2))))) (fun k5 => h82 ⟨h.1, h.2, fun z => absurd z k5⟩)
  have h43 : (k = 0 → ¬ v < 0 ∧ ¬ nI T < v) → wY_push_43 post (nI k) v (nI N) (nI T) ed (ls_I t) (ls_I l) sh ol dep nx sk := by
    intro h
    unfold wY_push_43
    refine pk_eq k 1 (fun k1 => br_c (fun z => h3 (fun y => (y.2.1 k1).1 z)) (fun z => br_c (fun x => h62 ⟨h, fun _ => ⟨z, fun y => rl_le.mp y x⟩⟩) (fun x => h3 (fun y => (y.2.1 k1).2 (rl_le.mpr x))))) (fun k1 => h62 ⟨h, fun z => absurd z k1⟩)
  refine br_f (nI_pos (by omega)) (br_t (nI_le (b := 5) hk (by decide)) (br_t (nI_lt (b := 8) h8 (by decide)) ?_))
  exact pk_eq k 0 (fun k0 => br_c (fun z => h3 (fun y => (y.1 k0).1 z)) (fun z => br_c (fun x => h43 (fun _ => ⟨z, rl_le.mp x⟩)) (fun x => h3 (fun y => x (rl_le.mpr (y.1 k0).2))))) (fun k0 => h43 (fun z => absurd z k0))
theorem i_vc_push {k : Nat} {u : SX} {v : SY} (I : i_Rel k u v) (hk : k + 3 ≤ 1538) (v1 : Int32) (v2 : Int32) : wpX_push (fun r u' => wpY_push (fun r' v' => r' = r ∧ i_Rel (k + 3) u' v') v v1 v2) u v1 v2 := by
  have I2 : i_Rel (k + 3) u v := I
  obtain ⟨N, T, t, l, ed, sk, sh, os, de, re, le, so, od, D, ysh, yol, ydep, ynx, ysk, rfl, rfl, hN, hT, ha, hd, hs, hdl, hX, hY⟩ := I
  by_cases g0 : v1 < 0
  · exact br_t g0 (br_t g0 ⟨rfl, I2⟩)
  by_cases g5 : v1 ≤ 5
  rotate_left
  · exact br_f g0 (br_f g5 (br_f g0 (br_f g5 ⟨rfl, I2⟩)))
  obtain ⟨q, hq, rfl⟩ := nI_of2 (M := 5) (n := 5) (by decide) g0 g5
  by_cases h8 : l 12 < 8
  rotate_left
  · have n8 : ¬ ls_I l 12 < 8 := nI_nlt (b := 8) (by omega) (by have := hd.1; omega)
    exact br_f g0 (br_t g5 (nm_e (br_f n8 (br_f g0 (br_t g5 (br_f n8 ⟨rfl, I2⟩))))))
  have y8 : ls_I l 12 < 8 := nI_lt (b := 8) h8 (by decide)
  have hdp := ls_dp_le (ls_kd t 12) (l 12)
  refine br_f g0 (br_t g5 (nm_r (e' := nI (l 12)) rfl (br_t y8 (xp_arg hq (fun hg => ?_) (fun hg => ?_)))))
  · refine br_f (by decide) ?_
    obtain ⟨a, ha1, htok, hkept⟩ := rl_arg_tok hN hT hq hg
    have acc : ∀ (x4 : Int32) (dd' : Int32), (2 ≤ q → 2 ≤ ls_dp (ls_kd t 12) (l 12)) → dd' = nI (if q < 2 then ls_dp (ls_kd t 12) (l 12) + 1 else ls_dp (ls_kd t 12) (l 12) - 1) → ((x4 = 0 → dd' = nI (ls_dp (ls_kd t 12) (l 12)) + (-1)) ∧ (¬ x4 = 0 → dd' = nI (ls_dp (ls_kd t 12) (l 12)) + 1)) → wX_push_59 (fun r u' => wpY_push (fun r' v' => r' = r ∧ i_Rel (k + 3) u' v') (nI N, nI T, ed, ls_I t, ls_I l, ysh, yol, ydep, ynx, ysk) (nI q) v2) (nI q) v2 (nI (l 12)) x4 (nI N) (nI T) (nI (ls_dp (ls_kd t 12) (l 12))) ed (ls_I t) (ls_I l) sk sh os de re le so od := by
      intro x4 dd' hsh hdd h4
      have P := rl_push hd h8 htok ha1 hsh
      have A' : ls_all N T (ls_up t (96 + l 12) (100 * q + a)) (ls_up l 12 (l 12 + 1)) := ls_all_low hN (fun j hj => (ls_un (by omega)).symm) (fun c hc => (ls_un (by omega)).symm) ha
      refine xp_59 hq ?_
      rw [hkept]
      refine xp_91 h8 h4 (yp_push hN hT hq h8 hd (fun z => absurd hg z) (fun _ z y => by have := hsh z; omega) (fun _ _ => yp_97 hq ?_))
      rw [hkept]
      refine yp_117 h8 ⟨rfl, N, T, _, _, ed, sk, sh, os, de, re, le, so, od, D, ysh, yol, ydep, ynx, ysk, ?_, rfl, hN, hT, A', P.1, hs, hdl, hX, hY⟩
      rw [P.2, hdd]
    refine xe_op (by omega) (fun z => ?_) (fun z => ?_)
    · exact br_f (by decide) (acc 1 _ (by omega) rfl ⟨fun y => absurd y (by decide), fun _ => by rw [if_pos z, nI_1]⟩)
    · refine br_t rfl (pk_le 2 _ (fun y => acc 0 _ (fun _ => y) rfl ⟨fun _ => ?_, fun y => absurd rfl y⟩) (fun y => ?_))
      · rw [if_neg z]
        rw [show nI (ls_dp (ls_kd t 12) (l 12)) = nI ((ls_dp (ls_kd t 12) (l 12) - 1) + 1) by rw [show (ls_dp (ls_kd t 12) (l 12) - 1) + 1 = ls_dp (ls_kd t 12) (l 12) by omega]]
        exact (pk_m1 _).symm
      · exact yp_push hN hT hq h8 hd (fun z => absurd hg z) (fun _ _ _ => ⟨rfl, I2⟩) (fun _ z => by have := z (by omega); omega)
  · exact br_t rfl (yp_push hN hT hq h8 hd (fun _ => ⟨rfl, I2⟩) (fun z => absurd z hg) (fun z => absurd z hg))
theorem ls_dr0 {N T : Nat} (kd ar : Nat → Nat) : ls_dr N T 0 kd ar := ⟨by omega, fun i hi => absurd hi (Nat.not_lt_zero i)⟩
theorem i_vc_dropDraft {k : Nat} {u : SX} {v : SY} (I : i_Rel k u v) (hk : k + 3 ≤ 1538) : wpX_dropDraft (fun u' => wpY_dropDraft (fun v' => i_Rel (k + 3) u' v') v) u := by
  obtain ⟨N, T, t, l, ed, sk, sh, os, de, re, le, so, od, D, ysh, yol, ydep, ynx, ysk, rfl, rfl, hN, hT, ha, hd, hs, hdl, hX, hY⟩ := I
  refine nm_r (e' := ls_I (ls_up l 12 0)) ls_Iup (nm_r (e' := ls_I (ls_up l 12 0)) ls_Iup ?_)
  refine ⟨N, T, t, ls_up l 12 0, ed, sk, sh, os, de, re, le, so, od, D, ysh, yol, ydep, ynx, ysk, ?_, rfl, hN, hT, ls_all_low hN (fun _ _ => rfl) (fun c hc => (ls_un (by omega)).symm) ha, ?_, hs, hdl, hX, hY⟩
  · rw [ls_us]; rfl
  · rw [ls_us]; exact ls_dr0 _ _
end
section
/-! setInput, commit -/
theorem lf_FC {N T : Nat} {F F' : (Nat → Nat) → Nat → Nat} {w : Nat → Nat} (h : ∀ w c, c < N → F w c = F' w c) (l : lf_least N T F w) : lf_least N T F' w :=
  ⟨⟨l.1.1, fun c hc => by rw [← h w c hc]; exact l.1.2 c hc⟩, fun v hv c hc => l.2 v ⟨hv.1, fun c hc => by rw [h v c hc]; exact hv.2 c hc⟩ c hc⟩
theorem ed_U {N : Nat} {t l ly : Nat → Nat} (hl : ∀ c, c < N → l c = ly c) : de_Ub N t l = de_Ub N t ly := by
  funext c d
  unfold de_Ub
  by_cases h : c < N
  · rw [hl c h]
  · rw [decide_eq_false h, Bool.false_and, Bool.false_and]
theorem ed_rel {N T k : Nat} {t l ly w w' : Nat → Nat} {e : Int32} {sk sh sh' os de re le so od ysh ysh' yol ydep ynx ysk : Nat → Int32} (hN : N ≤ 12) (hT : T ≤ 15) (ha : ls_all N T t l) (hd : ls_dr N T (l 12) (ls_kd t 12) (ls_ar t 12)) (hl : ∀ c, c < N → l c = ly c) (x1 : ∀ d, d < N → sh' d = nI (w d)) (x2 : lf_least N T (ls_F T t l) w) (x3 : ∀ d, d < N → de d = sh' d - sh d) (x4 : xs_ok N (wa_S (de_Ub N t l) N) re le od) (y1 : ∀ d, d < N → ysh' d = nI (w' d)) (y2 : lf_least N T (ls_F T t ly) w') (y3 : ∀ d, d < N → yol d = ysh d) (y4 : yd_ok N (wa_S (de_Ub N t ly) N) ydep) (hs : ∀ c, c < N → sh c = ysh c) : i_Rel k (nI N, nI T, nI (ls_dp (ls_kd t 12) (l 12)), e, ls_I t, ls_I l, sk, sh', os, de, re, le, so, od) (nI N, nI T, e, ls_I t, ls_I l, ysh', yol, ydep, ynx, ysk) := by
  have x2' : lf_least N T (ls_F T t ly) w := lf_FC (fun w c hc => by unfold ls_F; rw [hl c hc]) x2
  have ew := lf_uniq x2' y2
  have es : ∀ c, c < N → sh' c = ysh' c := fun c hc => by rw [x1 c hc, y1 c hc, ew c hc]
  rw [← ed_U hl] at y4
  exact ⟨N, T, t, l, e, sk, sh', os, de, re, le, so, od, _, ysh', yol, ydep, ynx, ysk, rfl, rfl, hN, hT, ha, hd, es, fun c hc => by rw [x3 c hc, es c hc, hs c hc, y3 c hc], x4, y4⟩
theorem rl_set {N T c x : Nat} {t l : Nat → Nat} (hN : N ≤ 12) (hT : T ≤ 15) (hc : c < N) (hx : x ≤ T) (ha : ls_all N T t l) (hd : ls_dr N T (l 12) (ls_kd t 12) (ls_ar t 12)) : ls_all N T (ls_up t (8 * c) x) (ls_up l c 1) ∧ ls_dr N T (ls_up l c 1 12) (ls_kd (ls_up t (8 * c) x) 12) (ls_ar (ls_up t (8 * c) x) 12) ∧ ls_dp (ls_kd (ls_up t (8 * c) x) 12) (ls_up l c 1 12) = ls_dp (ls_kd t 12) (l 12) := by
  have h8 := hd.1
  have r := ls_row (t := t) (t' := ls_up t (8 * c) x) (c := 12) (c' := 12) (n := l 12) (fun i hi => (ls_un (by omega)).symm)
  have e12 : ls_up l c 1 12 = l 12 := ls_un (by omega)
  refine ⟨fun c' hc' => ?_, ?_, ?_⟩
  · by_cases e : c' = c
    · subst e
      have ek : ls_kd (ls_up t (8 * c') x) c' 0 = 0 := by
        show ls_up t (8 * c') x (8 * c' + 0) / 100 = 0
        rw [Nat.add_zero, ls_us]; omega
      have ea : ls_ar (ls_up t (8 * c') x) c' 0 = x := by
        show ls_up t (8 * c') x (8 * c' + 0) % 100 = x
        rw [Nat.add_zero, ls_us]; omega
      rw [ls_us]
      refine ⟨⟨by omega, fun i hi => ?_⟩, ?_⟩
      · have e0 : i = 0 := by omega
        subst e0
        rw [ek, ea]
        exact ⟨⟨by omega, fun _ => hx, fun _ => by omega, fun _ => by omega, fun _ => by omega⟩, fun _ => by omega⟩
      · rw [ls_dp_a (by rw [ek]; omega)]; rfl
    · have h8' := (ha c' hc').1.1
      rw [ls_un e]
      have r' := ls_row (t := t) (t' := ls_up t (8 * c) x) (c := c') (c' := c') (n := l c') (fun i hi => (ls_un (by omega)).symm)
      exact ls_wf_congr r'.1 r'.2 (ha c' hc')
  · rw [e12]; exact ls_dr_congr r.1 r.2 hd
  · rw [e12]; exact (ls_dp_congr (l 12) r.1).symm
theorem i_vc_setInput {k : Nat} {u : SX} {v : SY} (I : i_Rel k u v) (hk : k + 3 ≤ 1538) (v1 : Int32) (v2 : Int32) : wpX_setInput (fun r u' => wpY_setInput (fun r' v' => r' = r ∧ i_Rel (k + 3) u' v') v v1 v2) u v1 v2 := by
  have I2 : i_Rel (k + 3) u v := I
  obtain ⟨N, T, t, l, ed, sk, sh, os, de, re, le, so, od, D, ysh, yol, ydep, ynx, ysk, rfl, rfl, hN, hT, ha, hd, hs, hdl, hX, hY⟩ := I
  unfold wpX_setInput wpY_setInput
  rcases rl_ix v1 hN with h | ⟨c, hc, rfl⟩
  · exact xe_ncell h (br_t rfl (ye_ncell h (br_t rfl ⟨rfl, I2⟩)))
  refine xe_cell hN hc (br_f (by decide) (xp_arg (k := 0) (by omega) (fun hg => ?_) (fun hg => ?_)))
  rotate_left
  · refine br_t rfl (ye_cell hN hc (br_f (by decide) (br_c (fun _ => ⟨rfl, I2⟩) (fun z => br_c (fun y => ?_) (fun _ => ⟨rfl, I2⟩)))))
    exact absurd (show rl_arg N T 0 v2 from ⟨fun _ => ⟨z, rl_le.mp y⟩, fun z => absurd z (by decide), fun z => absurd z (by decide)⟩) hg
  have ⟨a1, a2⟩ := hg.1 rfl
  obtain ⟨x, hx, rfl⟩ := nI_of a1
  have hxT : x ≤ T := by rw [nI_ltI (by omega) hx] at a2; omega
  have ⟨A', d', p'⟩ := rl_set hN hT hc hxT ha hd
  have e1 : nI c * 8 = nI (8 * c) := by rw [Nat.mul_comm]; exact pk_mul c 8
  have i1 : vp_in (nI c * 8) 104 := by rw [e1]; exact vp_in_nI (by omega) (by decide)
  have i2 : vp_in (nI c) 13 := vp_in_nI (by omega) (by decide)
  have et : upd (ls_I t) (nI c * 8).toNatClampNeg (0 + nI x) = ls_I (ls_up t (8 * c) x) := by rw [e1, nI_clamp (by omega), Int32.zero_add, ls_Iup]
  have el : upd (ls_I l) (nI c).toNatClampNeg 1 = ls_I (ls_up l c 1) := by rw [nI_clamp (by omega)]; exact ls_Iup (x := 1)
  refine br_f (by decide) ⟨i1, nm_r et ⟨i2, nm_r el (xt_settle hN hT A' (fun sk' sh' os' de' re' le' so' od' w x1 x2 x3 x4 => ?_))⟩⟩
  refine ye_cell hN hc (br_f (by decide) (br_f a1 (br_t (rl_le.mpr a2) ⟨i1, nm_r et ⟨i2, nm_r el (yt_finish hN hT A' (fun ysh' yol' ydep' ynx' ysk' w' y1 y2 y3 y4 => ⟨rfl, ?_⟩))⟩⟩)))
  rw [← p']
  exact ed_rel hN hT A' d' (fun _ _ => rfl) x1 x2 x3 x4 y1 y2 y3 y4 hs
def cp_t (t : Nat → Nat) (c : Nat) : Nat → Nat → Nat
  | 0 => t
  | i + 1 => ls_up (cp_t t c i) (8 * c + i) (cp_t t c i (96 + i))
theorem cp_at {t : Nat → Nat} {c : Nat} (hc : c < 12) : ∀ n, n ≤ 8 → ∀ j, cp_t t c n j = if 8 * c ≤ j ∧ j < 8 * c + n then t (96 + (j - 8 * c)) else t j
  | 0, _, j => by
    rw [if_neg (by omega)]; rfl
  | n + 1, hn, j => by
    show ls_up (cp_t t c n) (8 * c + n) (cp_t t c n (96 + n)) j = _
    by_cases e : j = 8 * c + n
    · rw [e, ls_us, cp_at hc n (by omega), if_neg (by omega), if_pos (by omega)]
      exact congrArg t (by omega)
    · rw [ls_un e, cp_at hc n (by omega) j]
      by_cases z : 8 * c ≤ j ∧ j < 8 * c + n
      · rw [if_pos z, if_pos (by omega)]
      · rw [if_neg z, if_neg (by omega)]
theorem rl_copy {N T c : Nat} {t l : Nat → Nat} (hN : N ≤ 12) (hc : c < N) (ha : ls_all N T t l) (hd : ls_dr N T (l 12) (ls_kd t 12) (ls_ar t 12)) (h1 : ls_dp (ls_kd t 12) (l 12) = 1) : ls_all N T (cp_t t c (l 12)) (ls_up l c (l 12)) := by
  have h8 := hd.1
  intro c' hc'
  by_cases e : c' = c
  · subst e
    rw [ls_us]
    have r := ls_row (t := t) (t' := cp_t t c' (l 12)) (c := 12) (c' := c') (n := l 12) (fun i hi => by
      rw [cp_at (by omega) _ h8, if_pos (by omega)]
      exact congrArg t (by omega))
    exact ls_wf_congr r.1 r.2 ⟨hd, h1⟩
  · have h8' := (ha c' hc').1.1
    rw [ls_un e]
    have r := ls_row (t := t) (t' := cp_t t c (l 12)) (c := c') (c' := c') (n := l c') (fun i hi => by
      rw [cp_at (by omega) _ h8, if_neg (by omega)])
    exact ls_wf_congr r.1 r.2 (ha c' hc')
theorem cp_upd {t : Nat → Nat} {c i : Nat} (hc : c < 12) (hi : i < 8) : upd (ls_I (cp_t t c i)) (nI c * 8 + nI i).toNatClampNeg (ls_I (cp_t t c i) (96 + nI i).toNatClampNeg) = ls_I (cp_t t c (i + 1)) := by
  rw [show nI c * 8 + nI i = nI (8 * c + i) by rw [Nat.mul_comm, show nI c * 8 = nI (c * 8) from pk_mul c 8, nI_add], show 96 + nI i = nI (96 + i) from nI_add 96 i, nI_clamp (by omega), ls_Iat (by omega), ls_Iup]
  rfl
theorem cp_in {c i : Nat} (hc : c < 12) (hi : i < 8) : vp_in (96 + nI i) 104 ∧ vp_in (nI c * 8 + nI i) 104 := by
  rw [show nI c * 8 + nI i = nI (8 * c + i) by rw [Nat.mul_comm, show nI c * 8 = nI (c * 8) from pk_mul c 8, nI_add], show 96 + nI i = nI (96 + i) from nI_add 96 i]
  exact ⟨vp_in_nI (by omega) (by decide), vp_in_nI (by omega) (by decide)⟩
theorem xc_draft {c : Nat} {t l : Nat → Nat} {N T dd ed : Int32} {sk sh os de re le so od : Nat → Int32} {post : SX → Prop} (hc : c < 12) (h8 : l 12 ≤ 8) (hp : post (N, T, dd, ed, ls_I (cp_t t c (l 12)), ls_I (ls_up l c (l 12)), sk, sh, os, de, re, le, so, od)) : ∀ (m i n : Nat), i + m = l 12 → m < n → wX_writeDraft_10 post (nI c) (nI (l 12)) N T dd ed n (nI i) (ls_I (cp_t t c i)) (ls_I l) sk sh os de re le so od := by
  intro m
  induction m with
  | zero =>
    intro i n hi hn
    obtain ⟨n, rfl⟩ : ∃ k, n = k + 1 := ⟨n - 1, by omega⟩
    have e : i = l 12 := by omega
    refine br_t (nI_le (by omega) (by omega)) ⟨vp_in_nI (by omega) (by decide), nm_r (e' := ls_I (ls_up l c (l 12))) (by rw [nI_clamp (by omega), ls_Iup]) ?_⟩
    rw [e]
    exact hp
  | succ m ih =>
    intro i n hi hn
    obtain ⟨n, rfl⟩ : ∃ k, n = k + 1 := ⟨n - 1, by omega⟩
    have ⟨i1, i2⟩ := cp_in (i := i) hc (by omega)
    exact br_f (nI_ge (by omega) (by omega)) ⟨i1, i2, nm_r (cp_upd hc (by omega)) (nm_r (nI_1 i) (ih (i + 1) n (by omega) (by omega)))⟩
theorem yc_draft {c : Nat} {t l : Nat → Nat} {N T ed : Int32} {sh ol dep nx sk : Nat → Int32} {post : Int32 → SY → Prop} (hc : c < 12) (h8 : l 12 ≤ 8) (hp : wpY_finishEdit (fun u => match u with | (f_n, f_top, f_editedCell, a_tokens, a_lengths, a_shown, a_old, a_dep, a_next, a_stack) => ∀ ln' : Nat → Int32, ln' = upd a_lengths 12 0 → post 0 (f_n, f_top, f_editedCell, a_tokens, ln', a_shown, a_old, a_dep, a_next, a_stack)) (N, T, ed, ls_I (cp_t t c (l 12)), ls_I (ls_up l c (l 12)), sh, ol, dep, nx, sk) (nI c)) : ∀ (m i n : Nat), i + m = l 12 → m < n → wY_commit_23 post (nI c) N T ed n (nI i) (ls_I (cp_t t c i)) (ls_I l) sh ol dep nx sk := by
  have el : ls_I l 12 = nI (l 12) := rfl
  intro m
  induction m with
  | zero =>
    intro i n hi hn
    obtain ⟨n, rfl⟩ : ∃ k, n = k + 1 := ⟨n - 1, by omega⟩
    have e : i = l 12 := by omega
    refine br_t (by rw [el]; exact nI_le (by omega) (by omega)) ⟨vp_in_nI (by omega) (by decide), nm_r (e' := ls_I (ls_up l c (l 12))) (by rw [el, nI_clamp (by omega), ls_Iup]) ?_⟩
    rw [e]
    exact hp
  | succ m ih =>
    intro i n hi hn
    obtain ⟨n, rfl⟩ : ∃ k, n = k + 1 := ⟨n - 1, by omega⟩
    have ⟨i1, i2⟩ := cp_in (i := i) hc (by omega)
    exact br_f (by rw [el]; exact nI_ge (by omega) (by omega)) ⟨i1, i2, nm_r (cp_upd hc (by omega)) (nm_r (nI_1 i) (ih (i + 1) n (by omega) (by omega)))⟩
theorem i_vc_commit {k : Nat} {u : SX} {v : SY} (I : i_Rel k u v) (hk : k + 3 ≤ 1538) (v1 : Int32) : wpX_commit (fun r u' => wpY_commit (fun r' v' => r' = r ∧ i_Rel (k + 3) u' v') v v1) u v1 := by
  have I2 : i_Rel (k + 3) u v := I
  obtain ⟨N, T, t, l, ed, sk, sh, os, de, re, le, so, od, D, ysh, yol, ydep, ynx, ysk, rfl, rfl, hN, hT, ha, hd, hs, hdl, hX, hY⟩ := I
  have h8 := hd.1
  have hdp := ls_dp_le (ls_kd t 12) (l 12)
  unfold wpX_commit wpY_commit
  rcases rl_ix v1 hN with h | ⟨c, hc, rfl⟩
  · exact xe_ncell h (br_t rfl (ye_ncell h (br_t rfl ⟨rfl, I2⟩)))
  refine xe_cell hN hc (br_f (by decide) (pk_eq _ 1 (fun h1 => ?_) (fun h1 => ?_)))
  rotate_left
  · exact ye_cell hN hc (br_f (by decide) (yp_depth hN hT hd (pk_eq _ 1 (fun z => absurd z h1) (fun _ => ⟨rfl, I2⟩))))
  have A1 := rl_copy hN hc ha hd h1
  have A2 : ls_all N T (cp_t t c (l 12)) (ls_up (ls_up l c (l 12)) 12 0) := ls_all_low hN (fun _ _ => rfl) (fun c' hc' => (ls_un (by omega)).symm) A1
  refine nm_r (e' := nI (l 12)) rfl ⟨l 12 + 1, xc_draft (by omega) h8 ?_ (l 12) 0 (l 12 + 1) (by omega) (by omega)⟩
  refine nm_r (e' := ls_I (ls_up (ls_up l c (l 12)) 12 0)) ls_Iup (xt_settle hN hT A2 (fun sk' sh' os' de' re' le' so' od' w x1 x2 x3 x4 => ?_))
  refine ye_cell hN hc (br_f (by decide) (yp_depth hN hT hd (pk_eq _ 1 (fun _ => ⟨l 12 + 1, yc_draft (by omega) h8 ?_ (l 12) 0 (l 12 + 1) (by omega) (by omega)⟩) (fun z => absurd h1 z))))
  refine yt_finish hN hT A1 (fun ysh' yol' ydep' ynx' ysk' w' y1 y2 y3 y4 => nm_r (e' := ls_I (ls_up (ls_up l c (l 12)) 12 0)) ls_Iup ⟨rfl, ?_⟩)
  have R := ed_rel (k := k + 3) (e := nI c) (sk := sk') (os := os') (so := so') (ynx := ynx') (ysk := ysk') hN hT A2 (by rw [ls_us]; exact ls_dr0 _ _) (fun c' hc' => ls_un (by omega)) x1 x2 x3 x4 y1 y2 y3 y4 hs
  rw [ls_us] at R
  exact R
end
section
/-! the constructors -/
def in_l (i : Nat) : Nat → Nat := fun j => if j < i then 1 else 0
theorem in_lup {i : Nat} (hi : i < 12) : upd (ls_I (in_l i)) (nI i).toNatClampNeg 1 = ls_I (in_l (i + 1)) := by
  rw [nI_clamp (by omega), show (1 : Int32) = nI 1 from rfl, ls_Iup]
  congr 1
  funext j
  unfold ls_up in_l
  by_cases e : j = i
  · rw [if_pos e, if_pos (by omega)]
  · rw [if_neg e]
    by_cases z : j < i
    · rw [if_pos z, if_pos (by omega)]
    · rw [if_neg z, if_neg (by omega)]
theorem in_tup (k : Nat) : upd (ls_I (fun _ => 0)) k (0 + 0) = ls_I (fun _ => 0) := by
  funext j
  unfold upd
  split <;> rfl
theorem in_l0 : ls_I (in_l 0) = fun _ => 0 := by
  funext j
  show nI (if j < 0 then 1 else 0) = 0
  rw [if_neg (Nat.not_lt_zero j)]; rfl
theorem in_all {N T : Nat} (hN : N ≤ 12) : ls_all N T (fun _ => 0) (in_l 12) := by
  intro c hc
  have e : in_l 12 c = 1 := if_pos (by omega)
  rw [e]
  refine ⟨⟨by omega, fun i hi => ⟨⟨by show 0 / 100 ≤ 5; decide, fun _ => by show 0 % 100 ≤ T; exact Nat.zero_le _, fun z => absurd z (by show ¬ (0 / 100 = 1); decide), fun z => absurd z (by show ¬ (2 ≤ 0 / 100); decide), fun z => absurd z (by show ¬ (0 / 100 = 5); decide)⟩, fun z => absurd z (by show ¬ (2 ≤ 0 / 100); decide)⟩⟩, (ls_dp_a (i := 0) (by show 0 / 100 < 2; decide)).trans rfl⟩
theorem in_no {N : Nat} (c d : Nat) : wa_S (de_Ub N (fun _ => 0) (in_l 12)) N c d = false := by
  cases e : wa_S (de_Ub N (fun _ => 0) (in_l 12)) N c d
  · rfl
  · refine absurd (wa_min (R := fun _ _ => False) (fun c d h => ?_) (fun _ _ _ h _ => h) N c d e) id
    unfold de_Ub at h
    rw [Bool.and_eq_true, de_u_iff] at h
    obtain ⟨_, i, _, h1, _⟩ := h
    exact absurd h1 (by show ¬ (0 / 100 = 1); decide)
theorem in_clamp (x lo hi : Int32) {a b : Nat} (ea : lo = nI a) (eb : hi = nI b) (hab : a ≤ b) (hb : b < 2 ^ 31) : ∃ n : Nat, n ≤ b ∧ ∀ P : Int32 → Prop, P (nI n) → wpX_clamp P x lo hi := by
  subst ea eb
  by_cases h1 : nI a ≤ x
  · by_cases h2 : x ≤ nI b
    · have h0 : ¬ x < 0 := Int32.not_lt.mpr (Int32.le_trans (nI_pos' (by omega)) h1)
      obtain ⟨j, hj, rfl⟩ := nI_of h0
      rw [nI_leI hj hb] at h2
      exact ⟨j, h2, fun P hp => br_t h1 (br_t (by rw [nI_leI hj hb]; exact h2) hp)⟩
    · exact ⟨b, Nat.le_refl b, fun P hp => br_t h1 (br_f h2 hp)⟩
  · exact ⟨a, hab, fun P hp => br_f h1 hp⟩
theorem in_x {N T : Nat} {sk sh os de re le so od : Nat → Int32} {post : SX → Prop} (hN : N ≤ 12) (hT : T ≤ 15) (hp : ∀ re le so od : Nat → Int32, xs_ok N (wa_S (de_Ub N (fun _ => 0) (in_l 12)) N) re le od → post (nI N, nI T, 0, (-99), ls_I (fun _ => 0), ls_I (in_l 12), sk, sh, os, de, re, le, so, od)) : ∀ (m i n : Nat), i + m = 12 → m < n → wX_init_119 post n (nI i) (nI N) (nI T) 0 (-99) (ls_I (fun _ => 0)) (ls_I (in_l i)) sk sh os de re le so od := by
  intro m
  induction m with
  | zero =>
    intro i n hi hn
    obtain ⟨n, rfl⟩ : ∃ k, n = k + 1 := ⟨n - 1, by omega⟩
    have e : i = 12 := by omega
    subst e
    exact br_t (nI_le (a := 12) (by omega) (by omega)) (xs_struct hN hT (in_all hN) (fun re le so od h => hp re le so od h))
  | succ m ih =>
    intro i n hi hn
    obtain ⟨n, rfl⟩ : ∃ k, n = k + 1 := ⟨n - 1, by omega⟩
    have e1 : nI i * 8 = nI (8 * i) := by rw [Nat.mul_comm]; exact pk_mul i 8
    exact br_f (nI_ge (b := 12) (by omega) (by decide)) ⟨by rw [e1]; exact vp_in_nI (by omega) (by decide), nm_r (in_tup _) ⟨vp_in_nI (by omega) (by decide), nm_r (in_lup (by omega)) (nm_r (nI_1 i) (ih (i + 1) n (by omega) (by omega)))⟩⟩
theorem in_y {N T ed : Int32} {tk sh ol dep nx sk : Nat → Int32} {post : SY → Prop} (hp : post (N, T, ed, tk, ls_I (in_l 12), sh, ol, dep, nx, sk)) : ∀ (m i n : Nat), i + m = 12 → m < n → wY_init_119 post N T ed n (nI i) tk (ls_I (in_l i)) sh ol dep nx sk := by
  intro m
  induction m with
  | zero =>
    intro i n hi hn
    obtain ⟨n, rfl⟩ : ∃ k, n = k + 1 := ⟨n - 1, by omega⟩
    have e : i = 12 := by omega
    subst e
    exact br_t (nI_le (a := 12) (by omega) (by omega)) hp
  | succ m ih =>
    intro i n hi hn
    obtain ⟨n, rfl⟩ : ∃ k, n = k + 1 := ⟨n - 1, by omega⟩
    exact br_f (nI_ge (b := 12) (by omega) (by decide)) ⟨vp_in_nI (by omega) (by decide), nm_r (in_lup (by omega)) (nm_r (nI_1 i) (ih (i + 1) n (by omega) (by omega)))⟩
theorem i_vc0 (k0 : Int32) (k1 : Int32) : wpX_init (fun u => wpY_init (fun v => i_Rel 2 u v) k0 k1) k0 k1 := by
  obtain ⟨N, hN, cN⟩ := in_clamp k0 2 12 (a := 2) (b := 12) rfl rfl (by omega) (by omega)
  obtain ⟨T, hT, cT⟩ := in_clamp k1 1 15 (a := 1) (b := 15) rfl rfl (by omega) (by omega)
  unfold wpX_init
  refine cN _ (cT _ ⟨13, ?_⟩)
  rw [← in_l0]
  refine in_x hN hT (fun re le so od h => ?_) 12 0 13 (by omega) (by omega)
  unfold wpY_init
  refine cN (fun z => wY_init_89 _ k1 z 0 0 (-99) (fun _ => 0) (fun _ => 0) (fun _ => 0) (fun _ => 0) (fun _ => 0) (fun _ => 0) (fun _ => 0)) ?_
  refine cT (fun z => ∃ n119 : Nat, wY_init_119 _ (nI N) z (-99) n119 0 (fun _ => 0) (fun _ => 0) (fun _ => 0) (fun _ => 0) (fun _ => 0) (fun _ => 0) (fun _ => 0)) ⟨13, ?_⟩
  rw [← in_l0]
  refine in_y ?_ 12 0 13 (by omega) (by omega)
  refine ⟨N, T, fun _ => 0, in_l 12, (-99), _, _, _, _, re, le, so, od, _, _, _, _, _, _, rfl, rfl, hN, hT, in_all hN, ls_dr0 _ _, fun _ _ => rfl, fun c _ => ?_, h, fun c d _ _ => ?_⟩
  · rw [in_l0]; show (0 : Int32) = 0 - 0; decide
  · rw [in_l0, in_no c d]; exact ⟨fun _ => rfl, fun _ => rfl⟩
end
section
theorem i_vc_cellCount {k : Nat} {u : SX} {v : SY} (I : i_Rel k u v) (hk : k + 3 ≤ 1538) : wpX_cellCount (fun r => wpY_cellCount (fun r' => r' = r ∧ i_Rel (k + 3) u v) v) u := by
  have I2 : i_Rel (k + 3) u v := I
  obtain ⟨N, T, t, l, ed, sk, sh, os, de, re, le, so, od, D, ysh, yol, ydep, ynx, ysk, rfl, rfl, hN, hT, ha, hd, hs, hdl, hX, hY⟩ := I
  exact ⟨rfl, I2⟩
theorem i_vc_topValue {k : Nat} {u : SX} {v : SY} (I : i_Rel k u v) (hk : k + 3 ≤ 1538) : wpX_topValue (fun r => wpY_topValue (fun r' => r' = r ∧ i_Rel (k + 3) u v) v) u := by
  have I2 : i_Rel (k + 3) u v := I
  obtain ⟨N, T, t, l, ed, sk, sh, os, de, re, le, so, od, D, ysh, yol, ydep, ynx, ysk, rfl, rfl, hN, hT, ha, hd, hs, hdl, hX, hY⟩ := I
  exact ⟨rfl, I2⟩
end
