section
/-! rows of kit/laws/BITS, as given for pasting -/
def bt (x : Int32) (i : Nat) : Bool := x.toBitVec.getLsbD i
theorem b_ext {x y : Int32} (h : ∀ i, i < 32 → bt x i = bt y i) : x = y := Int32.toBitVec_inj.mp (BitVec.eq_of_getLsbD_eq (fun i hi => h i hi))
theorem b_or (x y : Int32) (i : Nat) : bt (x ||| y) i = (bt x i || bt y i) := by unfold bt; rw [Int32.toBitVec_or, BitVec.getLsbD_or]
theorem b_and (x y : Int32) (i : Nat) : bt (x &&& y) i = (bt x i && bt y i) := by unfold bt; rw [Int32.toBitVec_and, BitVec.getLsbD_and]
theorem b_big {x : Int32} {i : Nat} (h : 32 ≤ i) : bt x i = false := BitVec.getLsbD_of_ge _ _ h
theorem b_0 (i : Nat) : bt 0 i = false := BitVec.getLsbD_zero
theorem s_l : ∀ n, n < 32 → ((nI n &&& 31).toBitVec.smod 32).toNat = n := by decide +kernel
theorem b_shl (n : Nat) (hn : n < 32) (x : Int32) {i : Nat} (hi : i < 32) : bt (x <<< (nI n &&& 31)) i = (decide (n ≤ i) && bt x (i - n)) := by
  unfold bt
  rw [Int32.toBitVec_shiftLeft]
  show (x.toBitVec <<< ((nI n &&& 31).toBitVec.smod 32).toNat).getLsbD i = _
  rw [s_l n hn, BitVec.getLsbD_shiftLeft]
  rcases Nat.lt_or_ge i n with h | h
  · simp [h, Nat.not_le.mpr h]
  · simp [hi, h, Nat.not_lt.mpr h]
theorem b_sshr (n : Nat) (hn : n < 32) (x : Int32) {i : Nat} (hi : i < 32) : bt (x >>> (nI n &&& 31)) i = if n + i < 32 then bt x (n + i) else bt x 31 := by
  unfold bt
  rw [Int32.toBitVec_shiftRight]
  show (x.toBitVec.sshiftRight ((nI n &&& 31).toBitVec.smod 32).toNat).getLsbD i = _
  rw [s_l n hn, BitVec.getLsbD_sshiftRight, BitVec.msb_eq_getLsbD_last]
  simp [hi]
theorem nx_and (a b : Nat) : nI a &&& nI b = nI (a &&& b) := by
  apply Int32.toBitVec_inj.1
  show BitVec.ofNat 32 a &&& BitVec.ofNat 32 b = BitVec.ofNat 32 (a &&& b)
  apply BitVec.eq_of_getLsbD_eq
  intro i hi
  simp [hi]
theorem wb_tb (n : Nat) : (lN n).toBitVec = BitVec.ofNat 64 n := rfl
theorem wb_inj {a b : Int64} (h : a.toBitVec = b.toBitVec) : a = b := Int64.toBitVec_inj.mp h
theorem wb_tn {n : Nat} (h : n < 2 ^ 64) : (lN n).toBitVec.toNat = n := by rw [wb_tb, BitVec.toNat_ofNat, Nat.mod_eq_of_lt h]
theorem wb_c : ∀ k, k < 64 → ((nI k).toInt64 &&& 63) = lN k := by decide +kernel
theorem wb_sm : ∀ k, k < 64 → (BitVec.ofNat 64 k).smod 64 = BitVec.ofNat 64 k := by decide +kernel
theorem wb_pw {a b : Nat} (h : a ≤ b) : 2 ^ b = 2 ^ a * 2 ^ (b - a) := by rw [← Nat.pow_add]; congr 1; omega
theorem wb_lt2 {a b : Nat} (h : a < b) : 2 ^ a < 2 ^ b := Nat.pow_lt_pow_right (by decide) h
theorem wb_mod (n : Nat) : lN n = lN (n % 2 ^ 64) := wb_inj (by rw [wb_tb, wb_tb]; apply BitVec.eq_of_toNat_eq; rw [BitVec.toNat_ofNat, BitVec.toNat_ofNat, Nat.mod_mod])
theorem wb_shl (n : Nat) {k : Nat} (hk : k < 64) : lN n <<< ((nI k).toInt64 &&& 63) = lN (n * 2 ^ k) := by
  rw [wb_c k hk]
  apply wb_inj
  rw [Int64.toBitVec_shiftLeft, wb_tb, wb_tb, wb_tb, wb_sm k hk]
  apply BitVec.eq_of_toNat_eq
  rw [BitVec.shiftLeft_eq', BitVec.toNat_shiftLeft, BitVec.toNat_ofNat, BitVec.toNat_ofNat, BitVec.toNat_ofNat, Nat.mod_eq_of_lt (show k < 2 ^ 64 by omega), Nat.shiftLeft_eq, Nat.mul_mod, Nat.mod_mod, ← Nat.mul_mod]
theorem u_tn {n : Nat} (h : n < 2 ^ 64) : (UInt64.ofNat n).toNat = n := Nat.mod_eq_of_lt h
theorem g_or {k p a b : Nat} (hp : 2 ^ k = p) (ha : a < p) (h : b * p + a < 2 ^ 64) : lN (b * p) ||| lN a = lN (b * p + a) := by
  subst hp
  have h1 : b * 2 ^ k ||| a = b * 2 ^ k + a := by rw [← Nat.shiftLeft_eq, Nat.shiftLeft_add_eq_or_of_lt ha]
  have h3 : UInt64.ofNat (b * 2 ^ k) ||| UInt64.ofNat a = UInt64.ofNat (b * 2 ^ k + a) := UInt64.toNat_inj.mp (by rw [UInt64.toNat_or, u_tn (by omega), u_tn (by omega), u_tn h, h1])
  have h2 := congrArg UInt64.toInt64 h3
  exact h2
theorem pf_lI {a : Nat} (h : a < 2 ^ 63) : (lN a).toInt = (a : Int) := lg_ofNat_toInt h
theorem pf_shr {a d : Nat} {D : Int64} (hD : (D.toBitVec.smod 64).toNat = d) (h : a < 2 ^ 62) : lN a >>> D = lN (a / 2 ^ d) := by
  have hd : a / 2 ^ d ≤ a := Nat.div_le_self _ _
  apply Int64.toInt_inj.mp
  have e : (lN a >>> D).toInt = (lN a).toInt >>> d := by
    rw [← hD]
    exact BitVec.toInt_sshiftRight ..
  rw [e, Int.shiftRight_eq_div_pow, pf_lI (by omega), pf_lI (by omega)]
  rfl
end
section
/-! pure: a formula is kinds kd and arguments ar of n tokens; its depth, its stack, its result -/
def ls_up (f : Nat → Nat) (k x : Nat) : Nat → Nat := fun j => if j = k then x else f j
theorem ls_us {f : Nat → Nat} {k x : Nat} : ls_up f k x k = x := if_pos rfl
theorem ls_un {f : Nat → Nat} {k j x : Nat} (h : j ≠ k) : ls_up f k x j = f j := if_neg h
def ls_cmb (T k a x y : Nat) : Nat :=
  if k = 2 then (if x < y then x else y)
  else if k = 3 then (if y < x then x else y)
  else if k = 4 then (if T < x + y then T else x + y)
  else (if a ≤ x then y else 0)
theorem ls_cmb_le {T k a x y : Nat} (hx : x ≤ T) (hy : y ≤ T) : ls_cmb T k a x y ≤ T := by
  unfold ls_cmb
  repeat' split
  all_goals omega
theorem ls_cmb_mono {T k a x y x' y' : Nat} (hx : x ≤ x') (hy : y ≤ y') : ls_cmb T k a x y ≤ ls_cmb T k a x' y' := by
  unfold ls_cmb
  by_cases h2 : k = 2
  · rw [if_pos h2, if_pos h2]; split <;> split <;> omega
  rw [if_neg h2, if_neg h2]
  by_cases h3 : k = 3
  · rw [if_pos h3, if_pos h3]; split <;> split <;> omega
  rw [if_neg h3, if_neg h3]
  by_cases h4 : k = 4
  · rw [if_pos h4, if_pos h4]; split <;> split <;> omega
  rw [if_neg h4, if_neg h4]
  split <;> split <;> omega
def ls_dp (kd : Nat → Nat) : Nat → Nat
  | 0 => 0
  | i + 1 => if kd i < 2 then ls_dp kd i + 1 else ls_dp kd i - 1
theorem ls_dp_a {kd : Nat → Nat} {i : Nat} (h : kd i < 2) : ls_dp kd (i + 1) = ls_dp kd i + 1 := if_pos h
theorem ls_dp_b {kd : Nat → Nat} {i : Nat} (h : ¬ kd i < 2) : ls_dp kd (i + 1) = ls_dp kd i - 1 := if_neg h
theorem ls_dp_le (kd : Nat → Nat) : ∀ i, ls_dp kd i ≤ i
  | 0 => Nat.le_refl 0
  | i + 1 => by
    have := ls_dp_le kd i
    by_cases h : kd i < 2
    · rw [ls_dp_a h]; omega
    · rw [ls_dp_b h]; omega
theorem ls_dp_congr {kd kd' : Nat → Nat} : ∀ n, (∀ i, i < n → kd i = kd' i) → ls_dp kd n = ls_dp kd' n
  | 0, _ => rfl
  | n + 1, h => by
    have e := ls_dp_congr n (fun i hi => h i (by omega))
    have e2 := h n (by omega)
    by_cases hk : kd n < 2
    · rw [ls_dp_a hk, ls_dp_a (e2 ▸ hk), e]
    · rw [ls_dp_b hk, ls_dp_b (e2 ▸ hk), e]
def ls_st (T : Nat) (w kd ar : Nat → Nat) : Nat → Nat → Nat
  | 0 => fun _ => 0
  | i + 1 => if kd i < 2 then ls_up (ls_st T w kd ar i) (ls_dp kd i) (if kd i = 1 then w (ar i) else ar i)
    else ls_up (ls_st T w kd ar i) (ls_dp kd i - 2) (ls_cmb T (kd i) (ar i) (ls_st T w kd ar i (ls_dp kd i - 2)) (ls_st T w kd ar i (ls_dp kd i - 1)))
theorem ls_st_a {T : Nat} {w kd ar : Nat → Nat} {i : Nat} (h : kd i < 2) : ls_st T w kd ar (i + 1) = ls_up (ls_st T w kd ar i) (ls_dp kd i) (if kd i = 1 then w (ar i) else ar i) := if_pos h
theorem ls_st_b {T : Nat} {w kd ar : Nat → Nat} {i : Nat} (h : ¬ kd i < 2) : ls_st T w kd ar (i + 1) = ls_up (ls_st T w kd ar i) (ls_dp kd i - 2) (ls_cmb T (kd i) (ar i) (ls_st T w kd ar i (ls_dp kd i - 2)) (ls_st T w kd ar i (ls_dp kd i - 1))) := if_neg h
def ls_tok (N T k a : Nat) : Prop := k ≤ 5 ∧ (k = 0 → a ≤ T) ∧ (k = 1 → a < N) ∧ (2 ≤ k → k < 5 → a = 0) ∧ (k = 5 → 1 ≤ a ∧ a ≤ T)
/-- a list of tokens that never runs short -/
def ls_dr (N T n : Nat) (kd ar : Nat → Nat) : Prop := n ≤ 8 ∧ ∀ i, i < n → ls_tok N T (kd i) (ar i) ∧ (2 ≤ kd i → 2 ≤ ls_dp kd i)
/-- a formula -/
def ls_wf (N T n : Nat) (kd ar : Nat → Nat) : Prop := ls_dr N T n kd ar ∧ ls_dp kd n = 1
theorem ls_wf_pos {N T n : Nat} {kd ar : Nat → Nat} (h : ls_wf N T n kd ar) : 1 ≤ n := by
  have h1 := h.2
  have h2 := ls_dp_le kd n
  omega
theorem ls_st_le {N T n : Nat} {w kd ar : Nat → Nat} (h : ls_dr N T n kd ar) (hw : ∀ c, c < N → w c ≤ T) : ∀ i, i ≤ n → ∀ j, j < ls_dp kd i → ls_st T w kd ar i j ≤ T := by
  intro i
  induction i with
  | zero => intro _ j hj; exact absurd hj (Nat.not_lt_zero j)
  | succ i ih =>
    intro hi j hj
    have ih' := ih (by omega)
    have ⟨ht, hs⟩ := h.2 i (by omega)
    by_cases hk : kd i < 2
    · rw [ls_st_a hk]
      rw [ls_dp_a hk] at hj
      by_cases e : j = ls_dp kd i
      · rw [e, ls_us]
        by_cases h1 : kd i = 1
        · rw [if_pos h1]; exact hw _ (ht.2.2.1 h1)
        · rw [if_neg h1]; exact ht.2.1 (by omega)
      · rw [ls_un e]; exact ih' j (by omega)
    · rw [ls_st_b hk]
      rw [ls_dp_b hk] at hj
      have h2 := hs (by omega)
      by_cases e : j = ls_dp kd i - 2
      · rw [e, ls_us]; exact ls_cmb_le (ih' _ (by omega)) (ih' _ (by omega))
      · rw [ls_un e]; exact ih' j (by omega)
theorem ls_st_mono {N T n : Nat} {w w' kd ar : Nat → Nat} (h : ls_dr N T n kd ar) (hw : ∀ c, c < N → w c ≤ w' c) : ∀ i, i ≤ n → ∀ j, j < ls_dp kd i → ls_st T w kd ar i j ≤ ls_st T w' kd ar i j := by
  intro i
  induction i with
  | zero => intro _ j hj; exact absurd hj (Nat.not_lt_zero j)
  | succ i ih =>
    intro hi j hj
    have ih' := ih (by omega)
    have ⟨ht, hs⟩ := h.2 i (by omega)
    by_cases hk : kd i < 2
    · rw [ls_st_a hk, ls_st_a hk]
      rw [ls_dp_a hk] at hj
      by_cases e : j = ls_dp kd i
      · rw [e, ls_us, ls_us]
        by_cases h1 : kd i = 1
        · rw [if_pos h1, if_pos h1]; exact hw _ (ht.2.2.1 h1)
        · rw [if_neg h1, if_neg h1]; exact Nat.le_refl _
      · rw [ls_un e, ls_un e]; exact ih' j (by omega)
    · rw [ls_st_b hk, ls_st_b hk]
      rw [ls_dp_b hk] at hj
      have h2 := hs (by omega)
      by_cases e : j = ls_dp kd i - 2
      · rw [e, ls_us, ls_us]; exact ls_cmb_mono (ih' _ (by omega)) (ih' _ (by omega))
      · rw [ls_un e, ls_un e]; exact ih' j (by omega)
def ls_ev (T : Nat) (w kd ar : Nat → Nat) (n : Nat) : Nat := ls_st T w kd ar n 0
theorem ls_ev_le {N T n : Nat} {w kd ar : Nat → Nat} (h : ls_wf N T n kd ar) (hw : ∀ c, c < N → w c ≤ T) : ls_ev T w kd ar n ≤ T := ls_st_le h.1 hw n (Nat.le_refl n) 0 (by rw [h.2]; exact Nat.one_pos)
theorem ls_ev_mono {N T n : Nat} {w w' kd ar : Nat → Nat} (h : ls_wf N T n kd ar) (hw : ∀ c, c < N → w c ≤ w' c) : ls_ev T w kd ar n ≤ ls_ev T w' kd ar n := ls_st_mono h.1 hw n (Nat.le_refl n) 0 (by rw [h.2]; exact Nat.one_pos)
end
section
/-! pure: the least solution of a monotone bounded step, reached from zeros by rounds in place -/
def lf_ok (N T : Nat) (F : (Nat → Nat) → Nat → Nat) : Prop := (∀ w w', (∀ c, c < N → w c ≤ w' c) → ∀ c, c < N → F w c ≤ F w' c) ∧ (∀ w, (∀ c, c < N → w c ≤ T) → ∀ c, c < N → F w c ≤ T)
def lf_sol (N T : Nat) (F : (Nat → Nat) → Nat → Nat) (w : Nat → Nat) : Prop := (∀ c, c < N → w c ≤ T) ∧ ∀ c, c < N → F w c = w c
def lf_pre (N T : Nat) (F : (Nat → Nat) → Nat → Nat) (w : Nat → Nat) : Prop := (∀ c, c < N → w c ≤ T) ∧ ∀ c, c < N → F w c ≤ w c
theorem lf_sp {N T : Nat} {F : (Nat → Nat) → Nat → Nat} {w : Nat → Nat} (h : lf_sol N T F w) : lf_pre N T F w := ⟨h.1, fun c hc => Nat.le_of_eq (h.2 c hc)⟩
def lf_least (N T : Nat) (F : (Nat → Nat) → Nat → Nat) (w : Nat → Nat) : Prop := lf_sol N T F w ∧ ∀ w', lf_pre N T F w' → ∀ c, c < N → w c ≤ w' c
theorem lf_uniq {N T : Nat} {F : (Nat → Nat) → Nat → Nat} {w w' : Nat → Nat} (h : lf_least N T F w) (h' : lf_least N T F w') : ∀ c, c < N → w c = w' c := fun c hc => Nat.le_antisymm (h.2 w' (lf_sp h'.1) c hc) (h'.2 w (lf_sp h.1) c hc)
/-- within, rising, below every solution -/
def lf_inv (N T : Nat) (F : (Nat → Nat) → Nat → Nat) (w : Nat → Nat) : Prop := (∀ c, c < N → w c ≤ T) ∧ (∀ c, c < N → w c ≤ F w c) ∧ ∀ w', lf_pre N T F w' → ∀ c, c < N → w c ≤ w' c
theorem lf_inv0 {N T : Nat} {F : (Nat → Nat) → Nat → Nat} {w : Nat → Nat} (h : ∀ c, c < N → w c = 0) : lf_inv N T F w := ⟨fun c hc => by rw [h c hc]; exact Nat.zero_le _, fun c hc => by rw [h c hc]; exact Nat.zero_le _, fun _ _ c hc => by rw [h c hc]; exact Nat.zero_le _⟩
theorem lf_step {N T : Nat} {F : (Nat → Nat) → Nat → Nat} {w : Nat → Nat} (ok : lf_ok N T F) (h : lf_inv N T F w) {c : Nat} (hc : c < N) : lf_inv N T F (ls_up w c (F w c)) := by
  have hle : ∀ d, d < N → w d ≤ ls_up w c (F w c) d := by
    intro d hd
    by_cases e : d = c
    · rw [e, ls_us]; exact h.2.1 c hc
    · rw [ls_un e]; exact Nat.le_refl _
  refine ⟨fun d hd => ?_, fun d hd => ?_, fun w' hs d hd => ?_⟩
  · by_cases e : d = c
    · rw [e, ls_us]; exact ok.2 w h.1 c hc
    · rw [ls_un e]; exact h.1 d hd
  · by_cases e : d = c
    · subst e
      exact Nat.le_trans (Nat.le_of_eq ls_us) (ok.1 _ _ hle d hd)
    · exact Nat.le_trans (Nat.le_trans (Nat.le_of_eq (ls_un e)) (h.2.1 d hd)) (ok.1 _ _ hle d hd)
  · by_cases e : d = c
    · rw [e, ls_us]; exact Nat.le_trans (ok.1 _ _ (h.2.2 w' hs) c hc) (hs.2 c hc)
    · rw [ls_un e]; exact h.2.2 w' hs d hd
theorem lf_end {N T : Nat} {F : (Nat → Nat) → Nat → Nat} {w : Nat → Nat} (h : lf_inv N T F w) (e : ∀ c, c < N → F w c = w c) : lf_least N T F w := ⟨⟨h.1, e⟩, h.2.2⟩
def lf_sum (w : Nat → Nat) : Nat → Nat
  | 0 => 0
  | n + 1 => lf_sum w n + w n
theorem lf_sum_le {w w' : Nat → Nat} : ∀ n, (∀ c, c < n → w c ≤ w' c) → lf_sum w n ≤ lf_sum w' n
  | 0, _ => Nat.le_refl 0
  | n + 1, h => Nat.add_le_add (lf_sum_le n (fun c hc => h c (by omega))) (h n (by omega))
theorem lf_sum_lt {w w' : Nat → Nat} : ∀ n, (∀ c, c < n → w c ≤ w' c) → (∃ c, c < n ∧ w c < w' c) → lf_sum w n < lf_sum w' n
  | 0, _, h => by obtain ⟨c, hc, _⟩ := h; omega
  | n + 1, h, ⟨c, hc, hlt⟩ => by
    have h1 := lf_sum_le n (fun c hc => h c (by omega))
    have h2 := h n (by omega)
    show lf_sum w n + w n < lf_sum w' n + w' n
    by_cases e : c = n
    · subst e; omega
    · have := lf_sum_lt n (fun c hc => h c (by omega)) ⟨c, by omega, hlt⟩
      omega
theorem lf_sum_T {w : Nat → Nat} {T : Nat} : ∀ n, (∀ c, c < n → w c ≤ T) → lf_sum w n ≤ n * T
  | 0, _ => Nat.zero_le _
  | n + 1, h => by
    have h1 := lf_sum_T n (fun c hc => h c (by omega))
    have h2 := h n (by omega)
    show lf_sum w n + w n ≤ (n + 1) * T
    rw [Nat.succ_mul]
    omega
theorem lf_sum_top {w : Nat → Nat} {T : Nat} : ∀ n, (∀ c, c < n → w c ≤ T) → n * T ≤ lf_sum w n → ∀ c, c < n → w c = T
  | 0, _, _, c, hc => absurd hc (Nat.not_lt_zero c)
  | n + 1, h, hs, c, hc => by
    have h1 := lf_sum_T n (fun c hc => h c (by omega))
    have h2 := h n (by omega)
    have hs' : (n + 1) * T ≤ lf_sum w n + w n := hs
    rw [Nat.succ_mul] at hs'
    by_cases e : c = n
    · subst e; omega
    · exact lf_sum_top n (fun c hc => h c (by omega)) (by omega) c (by omega)
theorem lf_full {N T : Nat} {F : (Nat → Nat) → Nat → Nat} {w : Nat → Nat} (ok : lf_ok N T F) (h : lf_inv N T F w) (hs : N * T ≤ lf_sum w N) : lf_least N T F w := by
  have e := lf_sum_top N h.1 hs
  refine lf_end h (fun c hc => Nat.le_antisymm ?_ (h.2.1 c hc))
  rw [e c hc]
  exact ok.2 w h.1 c hc
end
section
/-! pure: Warshall by stages gives the least transitive relation above the uses -/
def wa_S (U : Nat → Nat → Bool) : Nat → Nat → Nat → Bool
  | 0 => U
  | k + 1 => fun c d => wa_S U k c d || (wa_S U k c k && wa_S U k k d)
theorem wa_s {U : Nat → Nat → Bool} {k c d : Nat} : wa_S U (k + 1) c d = true ↔ wa_S U k c d = true ∨ (wa_S U k c k = true ∧ wa_S U k k d = true) := by
  show (wa_S U k c d || (wa_S U k c k && wa_S U k k d)) = true ↔ _
  rw [Bool.or_eq_true, Bool.and_eq_true]
theorem wa_up {U : Nat → Nat → Bool} {c d : Nat} (h : U c d = true) : ∀ k, wa_S U k c d = true
  | 0 => h
  | k + 1 => wa_s.mpr (Or.inl (wa_up h k))
theorem wa_tr {U : Nat → Nat → Bool} : ∀ k c j d, j < k → wa_S U k c j = true → wa_S U k j d = true → wa_S U k c d = true
  | 0, _, j, _, h, _, _ => absurd h (Nat.not_lt_zero j)
  | k + 1, c, j, d, h, h1, h2 => by
    rw [wa_s] at h1 h2 ⊢
    by_cases e : j = k
    · subst e
      have a : wa_S U j c j = true := h1.elim id (fun z => z.1)
      have b : wa_S U j j d = true := h2.elim id (fun z => z.2)
      exact Or.inr ⟨a, b⟩
    · have hj : j < k := by omega
      rcases h1 with h1 | ⟨h1, h1'⟩
      · rcases h2 with h2 | ⟨h2, h2'⟩
        · exact Or.inl (wa_tr k c j d hj h1 h2)
        · exact Or.inr ⟨wa_tr k c j k hj h1 h2, h2'⟩
      · rcases h2 with h2 | ⟨h2, h2'⟩
        · exact Or.inr ⟨h1, wa_tr k k j d hj h1' h2⟩
        · exact Or.inr ⟨h1, h2'⟩
theorem wa_min {U : Nat → Nat → Bool} {R : Nat → Nat → Prop} (hU : ∀ c d, U c d = true → R c d) (hR : ∀ c j d, R c j → R j d → R c d) : ∀ k c d, wa_S U k c d = true → R c d
  | 0, c, d, h => hU c d h
  | k + 1, c, d, h => by
    rcases wa_s.mp h with h | ⟨h, h'⟩
    · exact wa_min hU hR k c d h
    · exact hR c k d (wa_min hU hR k c k h) (wa_min hU hR k k d h')
end
section
/-! pure: rounds of any kind reach the least solution -/
theorem lf_congr {N T : Nat} {F : (Nat → Nat) → Nat → Nat} (ok : lf_ok N T F) {w w' : Nat → Nat} (h : ∀ c, c < N → w c = w' c) : ∀ c, c < N → F w c = F w' c := fun c hc => Nat.le_antisymm (ok.1 w w' (fun d hd => Nat.le_of_eq (h d hd)) c hc) (ok.1 w' w (fun d hd => Nat.le_of_eq (h d hd).symm) c hc)
theorem lf_sol_congr {N T : Nat} {F : (Nat → Nat) → Nat → Nat} (ok : lf_ok N T F) {w w' : Nat → Nat} (h : ∀ c, c < N → w c = w' c) (s : ∀ c, c < N → F w c = w c) : ∀ c, c < N → F w' c = w' c := fun c hc => by rw [← lf_congr ok h c hc, s c hc, h c hc]
/-- after k rounds: the sum is k at least, or a solution is reached -/
def lf_R (N T : Nat) (F : (Nat → Nat) → Nat → Nat) (k : Nat) (w : Nat → Nat) : Prop := lf_inv N T F w ∧ (k ≤ lf_sum w N ∨ ∀ c, c < N → F w c = w c)
theorem lf_R0 {N T : Nat} {F : (Nat → Nat) → Nat → Nat} {w : Nat → Nat} (h : lf_inv N T F w) : lf_R N T F 0 w := ⟨h, Or.inl (Nat.zero_le _)⟩
theorem lf_round {N T : Nat} {F : (Nat → Nat) → Nat → Nat} (ok : lf_ok N T F) {k : Nat} {w w' : Nat → Nat} (h : lf_R N T F k w) (h' : lf_inv N T F w') (hF : ∀ c, c < N → F w c ≤ w' c) : lf_R N T F (k + 1) w' := by
  have hle : ∀ c, c < N → w c ≤ w' c := fun c hc => Nat.le_trans (h.1.2.1 c hc) (hF c hc)
  refine ⟨h', ?_⟩
  by_cases e : ∀ c, c < N → F w c = w c
  · exact Or.inr (lf_sol_congr ok (fun c hc => Nat.le_antisymm (hle c hc) (h'.2.2 w (lf_sp ⟨h.1.1, e⟩) c hc)) e)
  · refine Or.inl ?_
    have hs := h.2.resolve_right e
    have hx : ∃ c, c < N ∧ w c < w' c := by
      apply Classical.byContradiction
      intro hn
      apply e
      intro c hc
      have a := h.1.2.1 c hc
      have b := hF c hc
      by_cases l : w c < w' c
      · exact absurd ⟨c, hc, l⟩ hn
      · omega
    have := lf_sum_lt N hle hx
    omega
theorem lf_done {N T : Nat} {F : (Nat → Nat) → Nat → Nat} (ok : lf_ok N T F) {k : Nat} {w : Nat → Nat} (h : lf_R N T F k w) (hk : N * T ≤ k) : lf_least N T F w := h.2.elim (fun s => lf_full ok h.1 (Nat.le_trans hk s)) (fun e => lf_end h.1 e)
theorem lf_least_congr {N T : Nat} {F : (Nat → Nat) → Nat → Nat} (ok : lf_ok N T F) {w w' : Nat → Nat} (h : ∀ c, c < N → w c = w' c) (l : lf_least N T F w) : lf_least N T F w' := ⟨⟨fun c hc => by rw [← h c hc]; exact l.1.1 c hc, lf_sol_congr ok h l.1.2⟩, fun v hv c hc => by rw [← h c hc]; exact l.2 v hv c hc⟩
/-- a step of all cells at once -/
theorem lf_jac {N T : Nat} {F : (Nat → Nat) → Nat → Nat} (ok : lf_ok N T F) {w w' : Nat → Nat} (h : lf_inv N T F w) (e : ∀ c, c < N → w' c = F w c) : lf_inv N T F w' := by
  have hle : ∀ c, c < N → w c ≤ w' c := fun c hc => by rw [e c hc]; exact h.2.1 c hc
  refine ⟨fun c hc => ?_, fun c hc => ?_, fun v hv c hc => ?_⟩
  · rw [e c hc]; exact ok.2 w h.1 c hc
  · rw [e c hc]; exact ok.1 _ _ hle c hc
  · rw [e c hc]; exact Nat.le_trans (ok.1 _ _ (h.2.2 v hv) c hc) (hv.2 c hc)
/-! the formulas' step -/
def ls_kd (t : Nat → Nat) (c : Nat) : Nat → Nat := fun i => t (8 * c + i) / 100
def ls_ar (t : Nat → Nat) (c : Nat) : Nat → Nat := fun i => t (8 * c + i) % 100
def ls_F (T : Nat) (t l : Nat → Nat) (w : Nat → Nat) (c : Nat) : Nat := ls_ev T w (ls_kd t c) (ls_ar t c) (l c)
def ls_all (N T : Nat) (t l : Nat → Nat) : Prop := ∀ c, c < N → ls_wf N T (l c) (ls_kd t c) (ls_ar t c)
theorem ls_F_ok {N T : Nat} {t l : Nat → Nat} (h : ls_all N T t l) : lf_ok N T (ls_F T t l) := ⟨fun _ _ hw c hc => ls_ev_mono (h c hc) hw, fun _ hw c hc => ls_ev_le (h c hc) hw⟩
end
section
/-! pure: leader, rank, key, place -/
def or_b (b : Bool) : Nat := if b = true then 1 else 0
def or_cnt (p : Nat → Bool) : Nat → Nat := lf_sum (fun d => or_b (p d))
theorem or_cnt0 (p : Nat → Bool) : or_cnt p 0 = 0 := rfl
theorem or_cnt1 {p : Nat → Bool} {n : Nat} (h : p n = true) : or_cnt p (n + 1) = or_cnt p n + 1 := by
  show or_cnt p n + or_b (p n) = _
  rw [h]; rfl
theorem or_cntF {p : Nat → Bool} {n : Nat} (h : p n = false) : or_cnt p (n + 1) = or_cnt p n := by
  show or_cnt p n + or_b (p n) = _
  rw [h]; rfl
theorem or_b_le (b : Bool) : or_b b ≤ 1 := by cases b <;> decide
theorem or_cnt_le (p : Nat → Bool) (n : Nat) : or_cnt p n ≤ n := by
  have := lf_sum_T (w := fun d => or_b (p d)) (T := 1) n (fun c _ => or_b_le (p c))
  rw [Nat.mul_one] at this
  exact this
theorem or_cnt_mono {p q : Nat → Bool} {n : Nat} (h : ∀ d, d < n → p d = true → q d = true) {c : Nat} (hc : c < n) (h1 : p c = false) (h2 : q c = true) : or_cnt p n < or_cnt q n := by
  refine lf_sum_lt n (fun d hd => ?_) ⟨c, hc, ?_⟩
  · show or_b (p d) ≤ or_b (q d)
    cases e : p d
    · exact Nat.zero_le _
    · rw [h d hd e]; exact Nat.le_refl _
  · show or_b (p c) < or_b (q c)
    rw [h1, h2]; decide
theorem or_ones : ∀ n, or_cnt (fun _ => true) n = n
  | 0 => rfl
  | n + 1 => by rw [or_cnt1 rfl, or_ones n]
def or_ldf (D : Nat → Nat → Bool) (c : Nat) : Nat → Nat → Nat
  | 0, d => d
  | m + 1, d => if (D c d && D d c) = true then d else or_ldf D c m (d + 1)
def or_ld (D : Nat → Nat → Bool) (c : Nat) : Nat := or_ldf D c c 0
theorem or_ldf_le (D : Nat → Nat → Bool) (c : Nat) : ∀ m d, or_ldf D c m d ≤ d + m
  | 0, d => Nat.le_refl d
  | m + 1, d => by
    show (if (D c d && D d c) = true then d else or_ldf D c m (d + 1)) ≤ d + (m + 1)
    have := or_ldf_le D c m (d + 1)
    split <;> omega
theorem or_ld_le (D : Nat → Nat → Bool) (c : Nat) : or_ld D c ≤ c := by
  have := or_ldf_le D c c 0
  unfold or_ld
  omega
theorem or_ldf_congr {D D' : Nat → Nat → Bool} {c : Nat} : ∀ m d, (∀ e, e < d + m → D c e = D' c e ∧ D e c = D' e c) → or_ldf D c m d = or_ldf D' c m d
  | 0, _, _ => rfl
  | m + 1, d, h => by
    have ⟨a, b⟩ := h d (by omega)
    show (if (D c d && D d c) = true then d else or_ldf D c m (d + 1)) = (if (D' c d && D' d c) = true then d else or_ldf D' c m (d + 1))
    rw [a, b, or_ldf_congr m (d + 1) (fun e he => h e (by omega))]
def or_rp (D : Nat → Nat → Bool) (c : Nat) : Nat → Bool := fun d => D c d && !D d c
def or_rk (N : Nat) (D : Nat → Nat → Bool) (c : Nat) : Nat := or_cnt (or_rp D c) N
def or_key (N : Nat) (D : Nat → Nat → Bool) (c : Nat) : Nat := (or_rk N D c * 12 + or_ld D c) * 12 + c
def or_pp (N : Nat) (D : Nat → Nat → Bool) (c : Nat) : Nat → Bool := fun d => decide (or_key N D d < or_key N D c)
def or_pl (N : Nat) (D : Nat → Nat → Bool) (c : Nat) : Nat := or_cnt (or_pp N D c) N
theorem or_key_inj {N : Nat} {D : Nat → Nat → Bool} {c d : Nat} (hc : c < 12) (hd : d < 12) (h : or_key N D c = or_key N D d) : c = d := by
  unfold or_key at h
  omega
theorem or_pl_lt {N : Nat} (D : Nat → Nat → Bool) {c : Nat} (hc : c < N) : or_pl N D c < N := by
  have := or_cnt_mono (p := or_pp N D c) (q := fun _ => true) (n := N) (fun _ _ _ => rfl) hc (decide_eq_false (Nat.lt_irrefl _)) rfl
  rw [or_ones] at this
  exact this
theorem or_pl_mono {N : Nat} {D : Nat → Nat → Bool} {c d : Nat} (hc : c < N) (h : or_key N D c < or_key N D d) : or_pl N D c < or_pl N D d :=
  or_cnt_mono (fun e _ he => decide_eq_true (Nat.lt_trans (of_decide_eq_true he) h)) hc (decide_eq_false (Nat.lt_irrefl _)) (decide_eq_true h)
theorem or_pl_inj {N : Nat} {D : Nat → Nat → Bool} (hN : N ≤ 12) {c d : Nat} (hc : c < N) (hd : d < N) (h : or_pl N D c = or_pl N D d) : c = d := by
  rcases Nat.lt_trichotomy (or_key N D c) (or_key N D d) with k | k | k
  · have := or_pl_mono hc k; omega
  · exact or_key_inj (by omega) (by omega) k
  · have := or_pl_mono hd k; omega
/-- an injective map of the first n numbers into themselves takes every value -/
theorem or_pig : ∀ (n : Nat) (f : Nat → Nat), (∀ i, i < n → f i < n) → (∀ i j, i < n → j < n → f i = f j → i = j) → ∀ p, p < n → ∃ i, i < n ∧ f i = p
  | 0, _, _, _, p, hp => absurd hp (Nat.not_lt_zero p)
  | n + 1, f, hf, hi, p, hp => by
    by_cases e : f n = p
    · exact ⟨n, by omega, e⟩
    · have hg : ∀ i, i < n → (if f i = n then f n else f i) < n := by
        intro i h
        have a := hf i (by omega)
        have b := hf n (by omega)
        by_cases z : f i = n
        · rw [if_pos z]
          have : f n ≠ n := fun y => by have := hi i n (by omega) (by omega) (by omega); omega
          omega
        · rw [if_neg z]; omega
      have hj : ∀ i j, i < n → j < n → (if f i = n then f n else f i) = (if f j = n then f n else f j) → i = j := by
        intro i j h1 h2 h3
        by_cases z : f i = n
        · by_cases y : f j = n
          · exact hi i j (by omega) (by omega) (by omega)
          · rw [if_pos z, if_neg y] at h3
            have := hi n j (by omega) (by omega) h3
            omega
        · by_cases y : f j = n
          · rw [if_neg z, if_pos y] at h3
            have := hi i n (by omega) (by omega) h3
            omega
          · rw [if_neg z, if_neg y] at h3
            exact hi i j (by omega) (by omega) h3
      by_cases hpn : p = n
      · have hv : f n < n := by have := hf n (by omega); omega
        obtain ⟨i, h1, h2⟩ := or_pig n (fun i => if f i = n then f n else f i) hg hj (f n) hv
        have h2' : (if f i = n then f n else f i) = f n := h2
        by_cases z : f i = n
        · exact ⟨i, by omega, by omega⟩
        · rw [if_neg z] at h2'
          have := hi i n (by omega) (by omega) h2'
          omega
      · obtain ⟨i, h1, h2⟩ := or_pig n (fun i => if f i = n then f n else f i) hg hj p (by omega)
        have h2' : (if f i = n then f n else f i) = p := h2
        by_cases z : f i = n
        · rw [if_pos z] at h2'; exact absurd h2' e
        · rw [if_neg z] at h2'; exact ⟨i, by omega, h2'⟩
theorem or_pl_sur {N : Nat} {D : Nat → Nat → Bool} (hN : N ≤ 12) {p : Nat} (hp : p < N) : ∃ c, c < N ∧ or_pl N D c = p :=
  or_pig N (or_pl N D) (fun _ h => or_pl_lt D h) (fun _ _ h1 h2 h => or_pl_inj hN h1 h2 h) p hp
end
section
/-! X: evaluate -/
def ls_I (f : Nat → Nat) : Nat → Int32 := fun j => nI (f j)
theorem ls_Iup {f : Nat → Nat} {k x : Nat} : upd (ls_I f) k (nI x) = ls_I (ls_up f k x) := by
  funext j
  unfold upd ls_I ls_up
  split <;> rfl
theorem ls_Iat {f : Nat → Nat} {n : Nat} (h : n < 2 ^ 31) : ls_I f (nI n).toNatClampNeg = nI (f n) := by rw [nI_clamp h]; rfl
theorem xe_op {k : Nat} {post : Int32 → Prop} (hk : k < 100) (h1 : k < 2 → post 1) (h2 : ¬ k < 2 → post 0) : wpX_isOperand post () (nI k) := by
  unfold wpX_isOperand
  exact pk_eq k 0 (fun _ => h1 (by omega)) (fun _ => pk_eq k 1 (fun _ => h1 (by omega)) (fun _ => h2 (by omega)))
theorem xe_cell {N c : Nat} {post : Int32 → Prop} {T dd ed : Int32} {tk ln sk sh os de re le so od : Nat → Int32} (hN : N ≤ 12) (hc : c < N) (h : post 1) : wpX_isCell post (nI N, T, dd, ed, tk, ln, sk, sh, os, de, re, le, so, od) (nI c) :=
  br_f (nI_pos (by omega)) (br_f (nI_ge hc (by omega)) h)
theorem xe_val {N c : Nat} {post : Int32 → Prop} {T dd ed : Int32} {tk ln sk sh os de re le so od : Nat → Int32} (hN : N ≤ 12) (hc : c < N) (h : post (sh c)) : wpX_value post (nI N, T, dd, ed, tk, ln, sk, sh, os, de, re, le, so, od) (nI c) := by
  unfold wpX_value
  refine xe_cell hN hc (br_f (by decide) ⟨pk_in c 12 (by omega), ?_⟩)
  rw [nI_clamp (by omega)]
  exact h
theorem xe_cmb {N T k a x y : Nat} {post : Int32 → Prop} {dd ed : Int32} {tk ln sk sh os de re le so od : Nat → Int32} (hT : T ≤ 15) (ha : a < 100) (hx : x ≤ T) (hy : y ≤ T) (h2 : 2 ≤ k) (h5 : k ≤ 5) (h : post (nI (ls_cmb T k a x y))) : wpX_combine post (nI N, nI T, dd, ed, tk, ln, sk, sh, os, de, re, le, so, od) (nI k) (nI a) (nI x) (nI y) := by
  have hc : ∀ r, ls_cmb T k a x y = r → post (nI r) := fun r e => e ▸ h
  unfold wpX_combine
  refine pk_lt k 2 (fun _ => by omega) (fun _ => pk_lt 4 k (fun _ => pk_lt x a (fun _ => hc 0 ?_) (fun _ => hc y ?_)) (fun _ => pk_eq k 2 (fun _ => pk_le y x (fun _ => hc y ?_) (fun _ => hc x ?_)) (fun _ => pk_eq k 3 (fun _ => pk_le x y (fun _ => hc y ?_) (fun _ => hc x ?_)) (fun _ => pk_eq k 4 (fun _ => ?_) (fun _ => trivial)))))
  case refine_7 =>
    rw [nI_add]
    exact pk_le (x + y) T (fun _ => hc _ (by unfold ls_cmb; repeat' split
                                             all_goals omega)) (fun _ => hc _ (by unfold ls_cmb; repeat' split
                                                                                  all_goals omega))
  all_goals (unfold ls_cmb; repeat' split)
  all_goals omega
theorem xe_invA {T i : Nat} {w kd ar : Nat → Nat} {sk : Nat → Int32} {v : Int32} (hv : ∀ j, j < ls_dp kd i → sk j = nI (ls_st T w kd ar i j)) (hk : kd i < 2) (e : v = nI (if kd i = 1 then w (ar i) else ar i)) : ∀ j, j < ls_dp kd (i + 1) → upd sk (ls_dp kd i) v j = nI (ls_st T w kd ar (i + 1) j) := by
  intro j hj
  rw [ls_st_a hk]
  rw [ls_dp_a hk] at hj
  by_cases z : j = ls_dp kd i
  · rw [z, pk_us, ls_us, e]
  · rw [pk_un z, ls_un z]; exact hv j (by omega)
theorem xe_invB {T i : Nat} {w kd ar : Nat → Nat} {sk : Nat → Int32} {v : Int32} (hv : ∀ j, j < ls_dp kd i → sk j = nI (ls_st T w kd ar i j)) (hk : ¬ kd i < 2) (e : v = nI (ls_cmb T (kd i) (ar i) (ls_st T w kd ar i (ls_dp kd i - 2)) (ls_st T w kd ar i (ls_dp kd i - 1)))) : ∀ j, j < ls_dp kd (i + 1) → upd sk (ls_dp kd i - 2) v j = nI (ls_st T w kd ar (i + 1) j) := by
  intro j hj
  rw [ls_st_b hk]
  rw [ls_dp_b hk] at hj
  by_cases z : j = ls_dp kd i - 2
  · rw [z, pk_us, ls_us, e]
  · rw [pk_un z, ls_un z]; exact hv j (by omega)
/-- what one token of a formula is, as numbers -/
theorem xe_tok {N T c i : Nat} {t l : Nat → Nat} (hN : N ≤ 12) (hT : T ≤ 15) (hw : ls_dr N T (l c) (ls_kd t c) (ls_ar t c)) (hi : i < l c) : ls_kd t c i ≤ 5 ∧ ls_ar t c i < 100 ∧ t (8 * c + i) < 600 ∧ i < 8 ∧ (2 ≤ ls_kd t c i → 2 ≤ ls_dp (ls_kd t c) i) ∧ (ls_kd t c i = 1 → ls_ar t c i < N) := by
  have ⟨ht, hs⟩ := hw.2 i hi
  have h5 := ht.1
  have h8 := hw.1
  refine ⟨h5, Nat.mod_lt _ (by omega), ?_, by omega, hs, ht.2.2.1⟩
  unfold ls_kd at h5
  omega
theorem xe_div {t : Nat → Nat} {c i : Nat} (h6 : t (8 * c + i) < 600) (hc : c < 13) (h8 : i < 8) : (ls_I t (nI (8 * c + i)).toNatClampNeg) / 100 = nI (ls_kd t c i) := by
  rw [ls_Iat (by omega)]
  exact pk_div (d := 100) (by omega) (by omega) (by omega)
theorem xe_rem {t : Nat → Nat} {c i : Nat} (h6 : t (8 * c + i) < 600) (hc : c < 13) (h8 : i < 8) : (ls_I t (nI (8 * c + i)).toNatClampNeg) - (ls_I t (nI (8 * c + i)).toNatClampNeg) / 100 * 100 = nI (ls_ar t c i) := by
  rw [ls_Iat (by omega)]
  exact pk_rem (d := 100) (by omega) (by omega) (by omega)
theorem xe_loop {N T : Nat} {t l w : Nat → Nat} {c : Nat} {dd ed : Int32} {sh os de re le so od : Nat → Int32} {post : Int32 → St2 → Prop} (hN : N ≤ 12) (hT : T ≤ 15) (hw : ls_wf N T (l c) (ls_kd t c) (ls_ar t c)) (hc : c < N) (hs : ∀ d, d < N → sh d = nI (w d)) (hb : ∀ d, d < N → w d ≤ T) (hp : ∀ sk' : Nat → Int32, post (nI (ls_F T t l w c)) (nI N, nI T, dd, ed, ls_I t, ls_I l, sk', sh, os, de, re, le, so, od)) : ∀ (m i n : Nat) (sk : Nat → Int32), i + m = l c → m < n → (∀ j, j < ls_dp (ls_kd t c) i → sk j = nI (ls_st T w (ls_kd t c) (ls_ar t c) i j)) → wX_evaluate_20 post (nI (8 * c + l c)) (nI N) (nI T) dd ed n (nI (ls_dp (ls_kd t c) i)) (nI (8 * c + i)) (ls_I t) (ls_I l) sk sh os de re le so od := by
  have h8 := hw.1.1
  intro m
  induction m with
  | zero =>
    intro i n sk hi hn hv
    obtain ⟨n, rfl⟩ : ∃ k, n = k + 1 := ⟨n - 1, by omega⟩
    refine br_t (nI_le (by omega) (by omega)) ?_
    have e := hv 0 (by rw [show i = l c by omega, hw.2]; exact Nat.one_pos)
    rw [e, show i = l c by omega]
    exact hp sk
  | succ m ih =>
    intro i n sk hi hn hv
    obtain ⟨n, rfl⟩ : ∃ k, n = k + 1 := ⟨n - 1, by omega⟩
    have ⟨h5, ha, h6, hi8, hsh, href⟩ := xe_tok hN hT hw.1 (i := i) (by omega)
    have hd := ls_dp_le (ls_kd t c) i
    have hin : vp_in (nI (8 * c + i)) 104 := vp_in_nI (by omega) (by decide)
    refine br_f (nI_ge (by omega) (by omega)) ⟨hin, by decide, nm_r (xe_div h6 (by omega) hi8) ⟨hin, by decide, nm_r (xe_rem h6 (by omega) hi8) ?_⟩⟩
    refine xe_op (by omega) (fun hk => ?_) (fun hk => ?_)
    · refine br_f (by decide) (br_f (nI_ge (b := 8) (by omega) (by decide)) (pk_eq _ 1 (fun h1 => ?_) (fun h1 => ?_)))
      · refine xe_val hN (href h1) ⟨vp_in_nI (by omega) (by decide), nm_e (nm_r (e' := nI (ls_dp (ls_kd t c) (i + 1))) (by rw [nI_1, ls_dp_a hk]) (nm_r (e' := nI (8 * c + (i + 1))) (nI_1 _) (ih (i + 1) n _ (by omega) (by omega) ?_)))⟩
        rw [nI_clamp (by omega)]
        exact xe_invA hv hk (by rw [if_pos h1]; exact hs _ (href h1))
      · refine ⟨vp_in_nI (by omega) (by decide), nm_e (nm_r (e' := nI (ls_dp (ls_kd t c) (i + 1))) (by rw [nI_1, ls_dp_a hk]) (nm_r (e' := nI (8 * c + (i + 1))) (nI_1 _) (ih (i + 1) n _ (by omega) (by omega) ?_)))⟩
        rw [nI_clamp (by omega)]
        exact xe_invA hv hk (by rw [if_neg h1])
    · have h2 := hsh (by omega)
      have e1 : nI (ls_dp (ls_kd t c) i) + (-1) = nI (ls_dp (ls_kd t c) i - 1) := by
        rw [show ls_dp (ls_kd t c) i = (ls_dp (ls_kd t c) i - 1) + 1 by omega]
        exact pk_m1 _
      have e2 : nI (ls_dp (ls_kd t c) i - 1) - 1 = nI (ls_dp (ls_kd t c) i - 2) := by
        rw [show ls_dp (ls_kd t c) i - 2 = ls_dp (ls_kd t c) i - 1 - 1 by omega]
        exact pk_sub (b := 1) (by omega)
      refine br_t rfl (br_t rfl (br_f (nI_nlt (b := 2) (by omega) (by omega)) (nm_r e1 ?_)))
      rw [e2]
      refine ⟨vp_in_nI (by omega) (by decide), vp_in_nI (by omega) (by decide), ?_⟩
      rw [nI_clamp (by omega), nI_clamp (by omega), hv _ (by omega), hv _ (by omega)]
      have hst := ls_st_le hw.1 hb i (by omega)
      refine xe_cmb hT ha (hst _ (by omega)) (hst _ (by omega)) (by omega) h5 ⟨vp_in_nI (by omega) (by decide), nm_e (nm_r (e' := nI (8 * c + (i + 1))) (nI_1 _) ?_)⟩
      have e3 := ih (i + 1) n _ (by omega) (by omega) (xe_invB hv hk rfl)
      rw [ls_dp_b hk] at e3
      exact e3
theorem xe_eval {N T : Nat} {t l w : Nat → Nat} {c : Nat} {dd ed : Int32} {sk sh os de re le so od : Nat → Int32} {post : Int32 → St2 → Prop} (hN : N ≤ 12) (hT : T ≤ 15) (hw : ls_wf N T (l c) (ls_kd t c) (ls_ar t c)) (hc : c < N) (hs : ∀ d, d < N → sh d = nI (w d)) (hb : ∀ d, d < N → w d ≤ T) (hp : ∀ sk' : Nat → Int32, post (nI (ls_F T t l w c)) (nI N, nI T, dd, ed, ls_I t, ls_I l, sk', sh, os, de, re, le, so, od)) : wpX_evaluate post (nI N, nI T, dd, ed, ls_I t, ls_I l, sk, sh, os, de, re, le, so, od) (nI c) := by
  have h8 := hw.1.1
  have e1 : nI c * 8 = nI (8 * c) := by rw [Nat.mul_comm]; exact pk_mul c 8
  have e2 : nI (8 * c) + ls_I l (nI c).toNatClampNeg = nI (8 * c + l c) := by rw [ls_Iat (by omega), nI_add]
  refine nm_r e1 ⟨vp_in_nI (by omega) (by decide), nm_r e2 ⟨l c + 1, ?_⟩⟩
  exact xe_loop hN hT hw hc hs hb hp (l c) 0 (l c + 1) sk (by omega) (by omega) (fun j hj => absurd hj (Nat.not_lt_zero j))
end
section
/-! X: findValues -/
def xv_I (N T : Nat) (F : (Nat → Nat) → Nat → Nat) (w0 : Nat → Nat) (i : Nat) (w : Nat → Nat) (mv : Int32) : Prop := lf_inv N T F w ∧ (∀ d, d < N → w0 d ≤ w d) ∧ (∀ d, d < i → F w0 d ≤ w d) ∧ (mv = 0 → (∀ d, d < N → w d = w0 d) ∧ ∀ d, d < i → F w0 d = w0 d)
theorem xv_I0 {N T : Nat} {F : (Nat → Nat) → Nat → Nat} {w : Nat → Nat} (h : lf_inv N T F w) : xv_I N T F w 0 w 0 := ⟨h, fun _ _ => Nat.le_refl _, fun d hd => absurd hd (Nat.not_lt_zero d), fun _ => ⟨fun _ _ => rfl, fun d hd => absurd hd (Nat.not_lt_zero d)⟩⟩
theorem xv_step {N T : Nat} {F : (Nat → Nat) → Nat → Nat} (ok : lf_ok N T F) {w0 w : Nat → Nat} {i : Nat} {mv mv' : Int32} (h : xv_I N T F w0 i w mv) (hi : i < N) (hm : mv' = 0 → mv = 0 ∧ F w i = w i) : xv_I N T F w0 (i + 1) (ls_up w i (F w i)) mv' := by
  have hF : F w0 i ≤ F w i := ok.1 _ _ h.2.1 i hi
  refine ⟨lf_step ok h.1 hi, fun d hd => ?_, fun d hd => ?_, fun z => ?_⟩
  · by_cases e : d = i
    · rw [e, ls_us]; exact Nat.le_trans (h.2.1 i hi) (h.1.2.1 i hi)
    · rw [ls_un e]; exact h.2.1 d hd
  · by_cases e : d = i
    · rw [e, ls_us]; exact hF
    · rw [ls_un e]; exact h.2.2.1 d (by omega)
  · have ⟨z1, z2⟩ := hm z
    have ⟨a, b⟩ := h.2.2.2 z1
    refine ⟨fun d hd => ?_, fun d hd => ?_⟩
    · by_cases e : d = i
      · rw [e, ls_us, z2]; exact a i hi
      · rw [ls_un e]; exact a d hd
    · by_cases e : d = i
      · rw [e, ← lf_congr ok a i hi, z2]; exact a i hi
      · exact b d (by omega)
theorem xv_zero {N : Nat} {T dd ed : Int32} {tk ln sk os de re le so od : Nat → Int32} {post : St2 → Prop} (hN : N ≤ 12) (K : ∀ sh : Nat → Int32, (∀ d, d < N → sh d = 0) → ∃ n, wX_findValues_27 post n 1 0 (nI N) T dd ed tk ln sk sh os de re le so od) : ∀ (m i n : Nat) (sh : Nat → Int32), i + m = N → m < n → (∀ d, d < i → sh d = 0) → wX_findValues_2 post (nI N) T dd ed n (nI i) tk ln sk sh os de re le so od := by
  intro m
  induction m with
  | zero =>
    intro i n sh hi hn hv
    obtain ⟨n, rfl⟩ : ∃ k, n = k + 1 := ⟨n - 1, by omega⟩
    exact br_t (nI_le (by omega) (by omega)) (K sh (fun d hd => hv d (by omega)))
  | succ m ih =>
    intro i n sh hi hn hv
    obtain ⟨n, rfl⟩ : ∃ k, n = k + 1 := ⟨n - 1, by omega⟩
    refine br_f (nI_ge (by omega) (by omega)) ⟨vp_in_nI (by omega) (by decide), nm_e (nm_r (nI_1 i) (ih (i + 1) n _ (by omega) (by omega) ?_))⟩
    intro d hd
    rw [nI_clamp (by omega)]
    by_cases e : d = i
    · rw [e, pk_us]
    · rw [pk_un e]; exact hv d (by omega)
theorem xv_in {N T : Nat} {t l w0 : Nat → Nat} {dd ed x2 : Int32} {os de re le so od : Nat → Int32} {post : St2 → Prop} {J : Int32 → Int32 → Int32 → Int32 → Int32 → Int32 → (Nat → Int32) → (Nat → Int32) → (Nat → Int32) → (Nat → Int32) → (Nat → Int32) → (Nat → Int32) → (Nat → Int32) → (Nat → Int32) → (Nat → Int32) → (Nat → Int32) → Prop} (hN : N ≤ 12) (hT : T ≤ 15) (hw : ls_all N T t l) (K : ∀ (mv : Int32) (sk sh : Nat → Int32) (w : Nat → Nat), (∀ d, d < N → sh d = nI (w d)) → xv_I N T (ls_F T t l) w0 N w mv → J mv (x2 + 1) (nI N) (nI T) dd ed (ls_I t) (ls_I l) sk sh os de re le so od) : ∀ (m i n : Nat) (mv : Int32) (sk sh : Nat → Int32) (w : Nat → Nat), i + m = N → m < n → (∀ d, d < N → sh d = nI (w d)) → xv_I N T (ls_F T t l) w0 i w mv → wX_findValues_42 post J x2 n mv (nI i) (nI N) (nI T) dd ed (ls_I t) (ls_I l) sk sh os de re le so od := by
  intro m
  induction m with
  | zero =>
    intro i n mv sk sh w hi hn hs hv
    obtain ⟨n, rfl⟩ : ∃ k, n = k + 1 := ⟨n - 1, by omega⟩
    have e : i = N := by omega
    subst e
    exact br_t (nI_le (by omega) (by omega)) (nm_e (K mv sk sh w hs hv))
  | succ m ih =>
    intro i n mv sk sh w hi hn hs hv
    obtain ⟨n, rfl⟩ : ∃ k, n = k + 1 := ⟨n - 1, by omega⟩
    have hiN : i < N := by omega
    have ok := ls_F_ok hw
    have hb := hv.1.1
    have hFb := ok.2 w hb i hiN
    have hwb := hb i hiN
    have main : ∀ (mv' : Int32) (sk' : Nat → Int32), (mv' = 0 → mv = 0 ∧ ls_F T t l w i = w i) → wX_findValues_77 post J (wX_findValues_42 post J x2 n) x2 (nI i) (nI (ls_F T t l w i)) mv' (nI N) (nI T) dd ed (ls_I t) (ls_I l) sk' sh os de re le so od := by
      intro mv' sk' hm
      refine ⟨vp_in_nI (by omega) (by decide), nm_e (nm_r (nI_1 i) (ih (i + 1) n mv' sk' _ _ (by omega) (by omega) ?_ (xv_step ok hv hiN hm)))⟩
      intro d hd
      rw [nI_clamp (by omega)]
      by_cases e : d = i
      · rw [e, pk_us, ls_us]
      · rw [pk_un e, ls_un e]; exact hs d hd
    refine br_f (nI_ge (by omega) (by omega)) (xe_eval hN hT (hw i hiN) hiN hs hb (fun sk' => ?_))
    by_cases h0 : mv = 0
    · refine br_t h0 ⟨vp_in_nI (by omega) (by decide), ?_⟩
      rw [nI_clamp (by omega), hs i hiN]
      exact pk_eq _ _ (fun z => main 0 sk' (fun _ => ⟨h0, z⟩)) (fun _ => main 1 sk' (fun z => absurd z (by decide)))
    · exact br_f h0 (main 1 sk' (fun z => absurd z (by decide)))
theorem xv_out {N T : Nat} {t l : Nat → Nat} {dd ed : Int32} {os de re le so od : Nat → Int32} {post : St2 → Prop} (hN : N ≤ 12) (hT : T ≤ 15) (hw : ls_all N T t l) (hp : ∀ (sk sh : Nat → Int32) (w : Nat → Nat), (∀ d, d < N → sh d = nI (w d)) → lf_least N T (ls_F T t l) w → post (nI N, nI T, dd, ed, ls_I t, ls_I l, sk, sh, os, de, re, le, so, od)) : ∀ (m r n : Nat) (mv : Int32) (sk sh : Nat → Int32) (w : Nat → Nat), r + m = 180 → m < n → (∀ d, d < N → sh d = nI (w d)) → lf_R N T (ls_F T t l) r w → (mv = 0 → ∀ d, d < N → ls_F T t l w d = w d) → wX_findValues_27 post n mv (nI r) (nI N) (nI T) dd ed (ls_I t) (ls_I l) sk sh os de re le so od := by
  have ok := ls_F_ok hw
  intro m
  induction m with
  | zero =>
    intro r n mv sk sh w hr hn hs hv hm
    obtain ⟨n, rfl⟩ : ∃ k, n = k + 1 := ⟨n - 1, by omega⟩
    by_cases h0 : mv = 0
    · exact br_t h0 (hp sk sh w hs (lf_end hv.1 (hm h0)))
    · refine br_f h0 (br_t (nI_le (a := 180) (by omega) (by omega)) (hp sk sh w hs (lf_done ok hv ?_)))
      have := Nat.mul_le_mul hN hT
      omega
  | succ m ih =>
    intro r n mv sk sh w hr hn hs hv hm
    obtain ⟨n, rfl⟩ : ∃ k, n = k + 1 := ⟨n - 1, by omega⟩
    by_cases h0 : mv = 0
    · exact br_t h0 (hp sk sh w hs (lf_end hv.1 (hm h0)))
    · refine br_f h0 (br_f (nI_ge (b := 180) (by omega) (by decide)) ⟨N + 1, ?_⟩)
      refine xv_in hN hT hw (fun mv' sk' sh' w' hs' hv' => ?_) N 0 (N + 1) 0 sk sh w (by omega) (by omega) hs (xv_I0 hv.1)
      rw [nI_1]
      refine ih (r + 1) n mv' sk' sh' w' (by omega) (by omega) hs' (lf_round ok hv hv'.1 hv'.2.2.1) (fun z => ?_)
      have ⟨a, b⟩ := hv'.2.2.2 z
      exact lf_sol_congr ok (fun c hc => (a c hc).symm) b
theorem xv_values {N T : Nat} {t l : Nat → Nat} {dd ed : Int32} {sk sh os de re le so od : Nat → Int32} {post : St2 → Prop} (hN : N ≤ 12) (hT : T ≤ 15) (hw : ls_all N T t l) (hp : ∀ (sk sh : Nat → Int32) (w : Nat → Nat), (∀ d, d < N → sh d = nI (w d)) → lf_least N T (ls_F T t l) w → post (nI N, nI T, dd, ed, ls_I t, ls_I l, sk, sh, os, de, re, le, so, od)) : wpX_findValues post (nI N, nI T, dd, ed, ls_I t, ls_I l, sk, sh, os, de, re, le, so, od) := by
  refine ⟨N + 1, xv_zero hN (fun sh' h0 => ⟨181, ?_⟩) N 0 (N + 1) sh (by omega) (by omega) (fun d hd => absurd hd (Nat.not_lt_zero d))⟩
  exact xv_out hN hT hw hp 180 0 181 1 sk sh' (fun _ => 0) (by omega) (by omega) (fun d hd => by rw [h0 d hd]; rfl) (lf_R0 (lf_inv0 (fun _ _ => rfl))) (fun z => absurd z (by decide))
end
section
/-! X: findUses, reaches, findReach -/
def de_u (t : Nat → Nat) (c d : Nat) : Nat → Bool
  | 0 => false
  | i + 1 => de_u t c d i || (decide (ls_kd t c i = 1) && decide (ls_ar t c i = d))
def de_Ub (N : Nat) (t l : Nat → Nat) (c d : Nat) : Bool := decide (c < N) && de_u t c d (l c)
theorem de_u_iff {t : Nat → Nat} {c d : Nat} : ∀ n, de_u t c d n = true ↔ ∃ i, i < n ∧ ls_kd t c i = 1 ∧ ls_ar t c i = d
  | 0 => ⟨fun h => absurd h Bool.false_ne_true, fun ⟨i, hi, _⟩ => absurd hi (Nat.not_lt_zero i)⟩
  | n + 1 => by
    show (de_u t c d n || (decide (ls_kd t c n = 1) && decide (ls_ar t c n = d))) = true ↔ _
    rw [Bool.or_eq_true, Bool.and_eq_true, decide_eq_true_eq, decide_eq_true_eq, de_u_iff n]
    constructor
    · rintro (⟨i, hi, h⟩ | h)
      · exact ⟨i, by omega, h⟩
      · exact ⟨n, by omega, h⟩
    · rintro ⟨i, hi, h⟩
      by_cases e : i = n
      · subst e; exact Or.inr h
      · exact Or.inl ⟨i, by omega, h⟩
theorem de_Ub_at {N c d : Nat} {t l : Nat → Nat} (hc : c < N) : de_Ub N t l c d = de_u t c d (l c) := by
  unfold de_Ub
  rw [decide_eq_true hc, Bool.true_and]
theorem de_Ub_lt {N T : Nat} {t l : Nat → Nat} (hw : ls_all N T t l) (c d : Nat) (h : de_Ub N t l c d = true) : d < N := by
  unfold de_Ub at h
  rw [Bool.and_eq_true, decide_eq_true_eq, de_u_iff] at h
  obtain ⟨hc, i, hi, h1, h2⟩ := h
  rw [← h2]
  exact ((hw c hc).1.2 i hi).1.2.2.1 h1
theorem xr_1 : ∀ j, j < 32 → bt 1 j = decide (j = 0) := by decide +kernel
theorem xr_bit {a d : Nat} (ha : a < 32) (hd : d < 32) : bt ((1 : Int32) <<< (nI a &&& 31)) d = decide (a = d) := by
  rw [b_shl a ha 1 hd]
  by_cases h : a ≤ d
  · rw [decide_eq_true h, Bool.true_and, xr_1 _ (by omega)]
    by_cases e : a = d
    · rw [decide_eq_true e, decide_eq_true (by omega)]
    · rw [decide_eq_false e, decide_eq_false (by omega)]
  · rw [decide_eq_false h, Bool.false_and, decide_eq_false (by omega)]
theorem xr_test (x : Int32) {d : Nat} (hd : d < 32) : ((x >>> (nI d &&& 31)) &&& 1) = 1 ↔ bt x d = true := by
  have e : ∀ j, j < 32 → bt ((x >>> (nI d &&& 31)) &&& 1) j = (decide (j = 0) && bt x d) := by
    intro j hj
    rw [b_and, xr_1 j hj, b_sshr d hd x hj, Bool.and_comm]
    by_cases z : j = 0
    · subst z
      rw [if_pos (by omega), Nat.add_zero]
    · rw [decide_eq_false z, Bool.false_and, Bool.false_and]
  constructor
  · intro h
    have h0 := e 0 (by omega)
    rw [h, xr_1 0 (by omega)] at h0
    rw [decide_eq_true rfl, Bool.true_and] at h0
    exact h0.symm
  · intro h
    apply b_ext
    intro j hj
    rw [e j hj, h, Bool.and_true, xr_1 j hj]
theorem xr_reaches {c d : Nat} {post : Int32 → Prop} {N T dd ed : Int32} {tk ln sk sh os de re le so od : Nat → Int32} (hc : c < 12) (hd : d < 12) (h1 : bt (re c) d = true → post 1) (h0 : bt (re c) d = false → post 0) : wpX_reaches post (N, T, dd, ed, tk, ln, sk, sh, os, de, re, le, so, od) (nI c) (nI d) := by
  refine ⟨vp_in_nI hc (by decide), ?_⟩
  rw [nI_clamp (by omega)]
  refine br_c (fun z => h1 ((xr_test _ (by omega)).mp z)) (fun z => h0 ?_)
  cases e : bt (re c) d
  · rfl
  · exact absurd ((xr_test _ (by omega)).mpr e) z
theorem xr_uses_loop {N T : Nat} {t l : Nat → Nat} {c : Nat} {T' dd ed N' : Int32} {sk sh os de re le so od : Nat → Int32} {post : Int32 → Prop} (hN : N ≤ 12) (hT : T ≤ 15) (hw : ls_dr N T (l c) (ls_kd t c) (ls_ar t c)) (hc : c < 12) (hp : ∀ x : Int32, (∀ d, d < 32 → bt x d = de_u t c d (l c)) → post x) : ∀ (m i n : Nat) (x : Int32), i + m = l c → m < n → (∀ d, d < 32 → bt x d = de_u t c d i) → wX_findUses_20 post (nI (8 * c + l c)) N' T' dd ed (ls_I t) (ls_I l) sk sh os de re le so od n x (nI (8 * c + i)) := by
  have h8 := hw.1
  intro m
  induction m with
  | zero =>
    intro i n x hi hn hv
    obtain ⟨n, rfl⟩ : ∃ k, n = k + 1 := ⟨n - 1, by omega⟩
    have e : i = l c := by omega
    exact br_t (nI_le (by omega) (by omega)) (hp x (fun d hd => by rw [hv d hd, e]))
  | succ m ih =>
    intro i n x hi hn hv
    obtain ⟨n, rfl⟩ : ∃ k, n = k + 1 := ⟨n - 1, by omega⟩
    have ⟨h5, ha, h6, hi8, hsh, href⟩ := xe_tok hN hT hw (i := i) (by omega)
    have hin : vp_in (nI (8 * c + i)) 104 := vp_in_nI (by omega) (by decide)
    refine br_f (nI_ge (by omega) (by omega)) ⟨hin, by decide, ?_⟩
    rw [xe_rem h6 (by omega) hi8, xe_div h6 (by omega) hi8]
    refine pk_eq _ 1 (fun h1 => ⟨hin, by decide, nm_e (nm_r (e' := nI (8 * c + (i + 1))) (nI_1 _) (ih (i + 1) n _ (by omega) (by omega) ?_))⟩) (fun h1 => nm_r (e' := nI (8 * c + (i + 1))) (nI_1 _) (ih (i + 1) n _ (by omega) (by omega) ?_))
    · intro d hd
      have hr := href h1
      rw [b_or, hv d hd, xr_bit (by omega) hd]
      show _ = (de_u t c d i || (decide (ls_kd t c i = 1) && decide (ls_ar t c i = d)))
      rw [decide_eq_true h1, Bool.true_and]
    · intro d hd
      rw [hv d hd]
      show _ = (de_u t c d i || (decide (ls_kd t c i = 1) && decide (ls_ar t c i = d)))
      rw [decide_eq_false h1, Bool.false_and, Bool.or_false]
theorem xr_uses {N T : Nat} {t l : Nat → Nat} {c : Nat} {T' dd ed N' : Int32} {sk sh os de re le so od : Nat → Int32} {post : Int32 → Prop} (hN : N ≤ 12) (hT : T ≤ 15) (hw : ls_dr N T (l c) (ls_kd t c) (ls_ar t c)) (hc : c < 12) (hp : ∀ x : Int32, (∀ d, d < 32 → bt x d = de_u t c d (l c)) → post x) : wpX_findUses post (N', T', dd, ed, ls_I t, ls_I l, sk, sh, os, de, re, le, so, od) (nI c) := by
  have h8 := hw.1
  have e1 : nI c * 8 = nI (8 * c) := by rw [Nat.mul_comm]; exact pk_mul c 8
  have e2 : nI (8 * c) + ls_I l (nI c).toNatClampNeg = nI (8 * c + l c) := by rw [ls_Iat (by omega), nI_add]
  refine nm_r e1 ⟨vp_in_nI (by omega) (by decide), nm_r e2 ⟨l c + 1, ?_⟩⟩
  exact xr_uses_loop hN hT hw hc hp (l c) 0 (l c + 1) 0 (by omega) (by omega) (fun d hd => b_0 d)
theorem xr_diag (U : Nat → Nat → Bool) (k d : Nat) : wa_S U (k + 1) k d = wa_S U k k d := by
  show (wa_S U k k d || (wa_S U k k k && wa_S U k k d)) = _
  cases wa_S U k k d
  · rw [Bool.and_false]; rfl
  · rfl
/-- the rows while cell k is gone through: those below i are done -/
def xr_I (N : Nat) (U : Nat → Nat → Bool) (k i : Nat) (re : Nat → Int32) : Prop := ∀ c d, c < N → d < N → bt (re c) d = if c < i then wa_S U (k + 1) c d else wa_S U k c d
theorem xr_in {N : Nat} {U : Nat → Nat → Bool} {k : Nat} {T dd ed : Int32} {tk ln sk sh os de le so od : Nat → Int32} {post : St2 → Prop} {J : Int32 → (Nat → Int32) → (Nat → Int32) → (Nat → Int32) → (Nat → Int32) → (Nat → Int32) → (Nat → Int32) → (Nat → Int32) → (Nat → Int32) → (Nat → Int32) → (Nat → Int32) → Prop} (hN : N ≤ 12) (hk : k < N) (K : ∀ re : Nat → Int32, xr_I N U k N re → J (nI (k + 1)) tk ln sk sh os de re le so od) : ∀ (m i n : Nat) (re : Nat → Int32), i + m = N → m < n → xr_I N U k i re → wX_findReach_39 post J (nI k) (nI N) T dd ed n (nI i) tk ln sk sh os de re le so od := by
  intro m
  induction m with
  | zero =>
    intro i n re hi hn hv
    obtain ⟨n, rfl⟩ : ∃ k, n = k + 1 := ⟨n - 1, by omega⟩
    have e : i = N := by omega
    subst e
    exact br_t (nI_le (by omega) (by omega)) (nm_r (nI_1 k) (K re hv))
  | succ m ih =>
    intro i n re hi hn hv
    obtain ⟨n, rfl⟩ : ∃ k, n = k + 1 := ⟨n - 1, by omega⟩
    have hik := hv i k (by omega) hk
    rw [if_neg (Nat.lt_irrefl i)] at hik
    refine br_f (nI_ge (by omega) (by omega)) (xr_reaches (by omega) (by omega) (fun hb => ?_) (fun hb => ?_))
    · refine br_f (by decide) ⟨vp_in_nI (by omega) (by decide), vp_in_nI (by omega) (by decide), vp_in_nI (by omega) (by decide), nm_e (nm_r (nI_1 i) (ih (i + 1) n _ (by omega) (by omega) ?_))⟩
      intro c d hc hd
      rw [nI_clamp (by omega), nI_clamp (by omega)]
      by_cases e : c = i
      · rw [e, pk_us, b_or, hv i d (by omega) hd, hv k d hk hd, if_neg (Nat.lt_irrefl i), if_pos (Nat.lt_succ_self i)]
        show _ = (wa_S U k i d || (wa_S U k i k && wa_S U k k d))
        rw [← hik, hb, Bool.true_and]
        by_cases z : k < i
        · rw [if_pos z, xr_diag]
        · rw [if_neg z]
      · rw [pk_un e, hv c d hc hd]
        by_cases z : c < i
        · rw [if_pos z, if_pos (by omega)]
        · rw [if_neg z, if_neg (by omega)]
    · refine br_t rfl (nm_r (nI_1 i) (ih (i + 1) n _ (by omega) (by omega) ?_))
      intro c d hc hd
      by_cases e : c = i
      · rw [e, hv i d (by omega) hd, if_neg (Nat.lt_irrefl i), if_pos (Nat.lt_succ_self i)]
        show _ = (wa_S U k i d || (wa_S U k i k && wa_S U k k d))
        rw [← hik, hb, Bool.false_and, Bool.or_false]
      · rw [hv c d hc hd]
        by_cases z : c < i
        · rw [if_pos z, if_pos (by omega)]
        · rw [if_neg z, if_neg (by omega)]
theorem xr_out {N : Nat} {U : Nat → Nat → Bool} {T dd ed : Int32} {tk ln sk sh os de le so od : Nat → Int32} {post : St2 → Prop} (hN : N ≤ 12) (hp : ∀ re : Nat → Int32, (∀ c d, c < N → d < N → bt (re c) d = wa_S U N c d) → post (nI N, T, dd, ed, tk, ln, sk, sh, os, de, re, le, so, od)) : ∀ (m k n : Nat) (re : Nat → Int32), k + m = N → m < n → (∀ c d, c < N → d < N → bt (re c) d = wa_S U k c d) → wX_findReach_29 post (nI N) T dd ed n (nI k) tk ln sk sh os de re le so od := by
  intro m
  induction m with
  | zero =>
    intro k n re hk hn hv
    obtain ⟨n, rfl⟩ : ∃ k, n = k + 1 := ⟨n - 1, by omega⟩
    have e : k = N := by omega
    subst e
    exact br_t (nI_le (by omega) (by omega)) (hp re hv)
  | succ m ih =>
    intro k n re hk hn hv
    obtain ⟨n, rfl⟩ : ∃ k, n = k + 1 := ⟨n - 1, by omega⟩
    refine br_f (nI_ge (by omega) (by omega)) ⟨N + 1, xr_in hN (U := U) (by omega) (fun re' h' => ih (k + 1) n re' (by omega) (by omega) (fun c d hc hd => ?_)) N 0 (N + 1) re (by omega) (by omega) (fun c d hc hd => ?_)⟩
    · rw [h' c d hc hd, if_pos hc]
    · rw [if_neg (Nat.not_lt_zero c)]; exact hv c d hc hd
theorem xr_first {N T : Nat} {t l : Nat → Nat} {T' dd ed : Int32} {sk sh os de le so od : Nat → Int32} {post : St2 → Prop} (hN : N ≤ 12) (hT : T ≤ 15) (hw : ls_all N T t l) (hp : ∀ re : Nat → Int32, (∀ c d, c < N → d < N → bt (re c) d = wa_S (de_Ub N t l) N c d) → post (nI N, T', dd, ed, ls_I t, ls_I l, sk, sh, os, de, re, le, so, od)) : ∀ (m i n : Nat) (re : Nat → Int32), i + m = N → m < n → (∀ c d, c < i → d < N → bt (re c) d = de_Ub N t l c d) → wX_findReach_2 post (nI N) T' dd ed n (nI i) (ls_I t) (ls_I l) sk sh os de re le so od := by
  intro m
  induction m with
  | zero =>
    intro i n re hi hn hv
    obtain ⟨n, rfl⟩ : ∃ k, n = k + 1 := ⟨n - 1, by omega⟩
    exact br_t (nI_le (by omega) (by omega)) ⟨N + 1, xr_out hN hp N 0 (N + 1) re (by omega) (by omega) (fun c d hc hd => hv c d (by omega) hd)⟩
  | succ m ih =>
    intro i n re hi hn hv
    obtain ⟨n, rfl⟩ : ∃ k, n = k + 1 := ⟨n - 1, by omega⟩
    refine br_f (nI_ge (by omega) (by omega)) (xr_uses hN hT (hw i (by omega)).1 (by omega) (fun x hx => ⟨vp_in_nI (by omega) (by decide), nm_e (nm_r (nI_1 i) (ih (i + 1) n _ (by omega) (by omega) ?_))⟩))
    intro c d hc hd
    rw [nI_clamp (by omega)]
    by_cases e : c = i
    · rw [e, pk_us, hx d (by omega), de_Ub_at (by omega)]
    · rw [pk_un e]; exact hv c d (by omega) hd
theorem xr_reach {N T : Nat} {t l : Nat → Nat} {T' dd ed : Int32} {sk sh os de re le so od : Nat → Int32} {post : St2 → Prop} (hN : N ≤ 12) (hT : T ≤ 15) (hw : ls_all N T t l) (hp : ∀ re : Nat → Int32, (∀ c d, c < N → d < N → bt (re c) d = wa_S (de_Ub N t l) N c d) → post (nI N, T', dd, ed, ls_I t, ls_I l, sk, sh, os, de, re, le, so, od)) : wpX_findReach post (nI N, T', dd, ed, ls_I t, ls_I l, sk, sh, os, de, re, le, so, od) :=
  ⟨N + 1, xr_first hN hT hw hp N 0 (N + 1) re (by omega) (by omega) (fun c _ hc _ => absurd hc (Nat.not_lt_zero c))⟩
end
section
/-! X: findLeader, findRank, findOrder, findStructure -/
theorem xo_lead {N c : Nat} {D : Nat → Nat → Bool} {T dd ed : Int32} {tk ln sk sh os de re le so od : Nat → Int32} {post : Int32 → Prop} (hN : N ≤ 12) (hc : c < N) (hD : ∀ c d, c < N → d < N → bt (re c) d = D c d) : ∀ (m d n : Nat), d + m = c → m < n → post (nI (or_ldf D c m d)) → wX_findLeader_2 post (nI c) (nI N) T dd ed tk ln sk sh os de re le so od n (nI d) := by
  intro m
  induction m with
  | zero =>
    intro d n hd hn hp
    obtain ⟨n, rfl⟩ : ∃ k, n = k + 1 := ⟨n - 1, by omega⟩
    have e : d = c := by omega
    subst e
    exact br_t (nI_le (by omega) (by omega)) hp
  | succ m ih =>
    intro d n hd hn hp
    obtain ⟨n, rfl⟩ : ∃ k, n = k + 1 := ⟨n - 1, by omega⟩
    have hp' : post (nI (if (D c d && D d c) = true then d else or_ldf D c m (d + 1))) := hp
    refine br_f (nI_ge (by omega) (by omega)) (xr_reaches (by omega) (by omega) (fun h1 => ?_) (fun h1 => ?_))
    · rw [hD c d hc (by omega)] at h1
      refine br_f (by decide) (xr_reaches (by omega) (by omega) (fun h2 => ?_) (fun h2 => ?_))
      · rw [hD d c (by omega) hc] at h2
        rw [h1, h2] at hp'
        exact br_f (by decide) hp'
      · rw [hD d c (by omega) hc] at h2
        rw [h1, h2] at hp'
        exact br_t rfl (nm_r (nI_1 d) (ih (d + 1) n (by omega) (by omega) hp'))
    · rw [hD c d hc (by omega)] at h1
      rw [h1] at hp'
      exact br_t rfl (nm_r (nI_1 d) (ih (d + 1) n (by omega) (by omega) hp'))
theorem xo_leader {N c : Nat} {D : Nat → Nat → Bool} {T dd ed : Int32} {tk ln sk sh os de re le so od : Nat → Int32} {post : Int32 → Prop} (hN : N ≤ 12) (hc : c < N) (hD : ∀ c d, c < N → d < N → bt (re c) d = D c d) (hp : post (nI (or_ld D c))) : wpX_findLeader post (nI N, T, dd, ed, tk, ln, sk, sh, os, de, re, le, so, od) (nI c) :=
  ⟨c + 1, xo_lead hN hc hD c 0 (c + 1) (by omega) (by omega) hp⟩
theorem xo_rk {N c : Nat} {D : Nat → Nat → Bool} {T dd ed : Int32} {tk ln sk sh os de re le so od : Nat → Int32} {post : Int32 → Prop} (hN : N ≤ 12) (hc : c < N) (hD : ∀ c d, c < N → d < N → bt (re c) d = D c d) (hp : post (nI (or_rk N D c))) : ∀ (m d n : Nat), d + m = N → m < n → wX_findRank_4 post (nI c) (nI N) T dd ed tk ln sk sh os de re le so od n (nI (or_cnt (or_rp D c) d)) (nI d) := by
  intro m
  induction m with
  | zero =>
    intro d n hd hn
    obtain ⟨n, rfl⟩ : ∃ k, n = k + 1 := ⟨n - 1, by omega⟩
    have e : d = N := by omega
    subst e
    exact br_t (nI_le (by omega) (by omega)) hp
  | succ m ih =>
    intro d n hd hn
    obtain ⟨n, rfl⟩ : ∃ k, n = k + 1 := ⟨n - 1, by omega⟩
    have ihd := ih (d + 1) n (by omega) (by omega)
    refine br_f (nI_ge (by omega) (by omega)) (xr_reaches (by omega) (by omega) (fun h1 => ?_) (fun h1 => ?_))
    · rw [hD c d hc (by omega)] at h1
      refine br_f (by decide) (xr_reaches (by omega) (by omega) (fun h2 => ?_) (fun h2 => ?_))
      · rw [hD d c (by omega) hc] at h2
        rw [or_cntF (by show (D c d && !D d c) = false; rw [h1, h2]; rfl)] at ihd
        exact br_f (by decide) (nm_r (nI_1 d) ihd)
      · rw [hD d c (by omega) hc] at h2
        rw [or_cnt1 (by show (D c d && !D d c) = true; rw [h1, h2]; rfl)] at ihd
        exact br_t rfl (nm_r (nI_1 _) (nm_r (nI_1 d) ihd))
    · rw [hD c d hc (by omega)] at h1
      rw [or_cntF (by show (D c d && !D d c) = false; rw [h1]; rfl)] at ihd
      exact br_t rfl (nm_r (nI_1 d) ihd)
theorem xo_rank {N c : Nat} {D : Nat → Nat → Bool} {T dd ed : Int32} {tk ln sk sh os de re le so od : Nat → Int32} {post : Int32 → Prop} (hN : N ≤ 12) (hc : c < N) (hD : ∀ c d, c < N → d < N → bt (re c) d = D c d) (hp : post (nI (or_rk N D c))) : wpX_findRank post (nI N, T, dd, ed, tk, ln, sk, sh, os, de, re, le, so, od) (nI c) :=
  ⟨N + 1, xo_rk hN hc hD hp N 0 (N + 1) (by omega) (by omega)⟩
theorem or_key_lt {N : Nat} (D : Nat → Nat → Bool) {c : Nat} (hN : N ≤ 12) (hc : c < N) : or_key N D c < 10000 := by
  have h1 := or_cnt_le (or_rp D c) N
  have h2 := or_ld_le D c
  unfold or_key or_rk
  omega
theorem xo_count {N c : Nat} {D : Nat → Nat → Bool} {T dd ed : Int32} {tk ln sk sh os de re le so od : Nat → Int32} {post : St2 → Prop} {J : Int32 → (Nat → Int32) → (Nat → Int32) → (Nat → Int32) → (Nat → Int32) → (Nat → Int32) → (Nat → Int32) → (Nat → Int32) → (Nat → Int32) → (Nat → Int32) → (Nat → Int32) → Prop} (hN : N ≤ 12) (hc : c < N) (hs : ∀ c, c < N → so c = nI (or_key N D c)) (K : J (nI (c + 1)) tk ln sk sh os de re le so (upd od (or_pl N D c) (nI c))) : ∀ (m d n : Nat), d + m = N → m < n → wX_findOrder_58 post J (nI c) (nI N) T dd ed tk ln sk sh os de re le so od n (nI (or_cnt (or_pp N D c) d)) (nI d) := by
  intro m
  induction m with
  | zero =>
    intro d n hd hn
    obtain ⟨n, rfl⟩ : ∃ k, n = k + 1 := ⟨n - 1, by omega⟩
    have e : d = N := by omega
    subst e
    have hpl : or_cnt (or_pp d D c) d < d := or_pl_lt D hc
    refine br_t (nI_le (by omega) (by omega)) ⟨vp_in_nI (by omega) (by decide), nm_e (nm_r (nI_1 c) ?_)⟩
    rw [nI_clamp (by omega)]
    exact K
  | succ m ih =>
    intro d n hd hn
    obtain ⟨n, rfl⟩ : ∃ k, n = k + 1 := ⟨n - 1, by omega⟩
    have ihd := ih (d + 1) n (by omega) (by omega)
    have k1 := or_key_lt D hN hc
    have k2 := or_key_lt D hN (show d < N by omega)
    refine br_f (nI_ge (by omega) (by omega)) ⟨vp_in_nI (by omega) (by decide), vp_in_nI (by omega) (by decide), ?_⟩
    rw [nI_clamp (by omega), nI_clamp (by omega), hs c hc, hs d (by omega)]
    refine pk_le _ _ (fun z => nm_r (nI_1 d) ?_) (fun z => nm_r (nI_1 _) (nm_r (nI_1 d) ?_))
    · rw [or_cntF (decide_eq_false (by omega))] at ihd
      exact ihd
    · rw [or_cnt1 (decide_eq_true z)] at ihd
      exact ihd
theorem xo_place {N : Nat} {D : Nat → Nat → Bool} {T dd ed : Int32} {tk ln sk sh os de re le so : Nat → Int32} {post : St2 → Prop} (hN : N ≤ 12) (hs : ∀ c, c < N → so c = nI (or_key N D c)) (hp : ∀ od : Nat → Int32, (∀ c, c < N → od (or_pl N D c) = nI c) → post (nI N, T, dd, ed, tk, ln, sk, sh, os, de, re, le, so, od)) : ∀ (m i n : Nat) (od : Nat → Int32), i + m = N → m < n → (∀ c, c < i → od (or_pl N D c) = nI c) → wX_findOrder_46 post (nI N) T dd ed n (nI i) tk ln sk sh os de re le so od := by
  intro m
  induction m with
  | zero =>
    intro i n od hi hn hv
    obtain ⟨n, rfl⟩ : ∃ k, n = k + 1 := ⟨n - 1, by omega⟩
    have e : i = N := by omega
    subst e
    exact br_t (nI_le (by omega) (by omega)) (hp od hv)
  | succ m ih =>
    intro i n od hi hn hv
    obtain ⟨n, rfl⟩ : ∃ k, n = k + 1 := ⟨n - 1, by omega⟩
    refine br_f (nI_ge (by omega) (by omega)) ⟨N + 1, xo_count (D := D) hN (by omega) hs (ih (i + 1) n _ (by omega) (by omega) (fun c hc => ?_)) N 0 (N + 1) (by omega) (by omega)⟩
    by_cases e : c = i
    · rw [e, pk_us]
    · rw [pk_un (fun z => e (or_pl_inj hN (by omega) (by omega) z))]
      exact hv c (by omega)
theorem xo_keys {N : Nat} {D : Nat → Nat → Bool} {T dd ed : Int32} {tk ln sk sh os de re le od : Nat → Int32} {post : St2 → Prop} (hN : N ≤ 12) (hD : ∀ c d, c < N → d < N → bt (re c) d = D c d) (hl : ∀ c, c < N → le c = nI (or_ld D c)) (hp : ∀ so od : Nat → Int32, (∀ c, c < N → od (or_pl N D c) = nI c) → post (nI N, T, dd, ed, tk, ln, sk, sh, os, de, re, le, so, od)) : ∀ (m i n : Nat) (so : Nat → Int32), i + m = N → m < n → (∀ c, c < i → so c = nI (or_key N D c)) → wX_findOrder_2 post (nI N) T dd ed n (nI i) tk ln sk sh os de re le so od := by
  intro m
  induction m with
  | zero =>
    intro i n so hi hn hv
    obtain ⟨n, rfl⟩ : ∃ k, n = k + 1 := ⟨n - 1, by omega⟩
    have e : i = N := by omega
    subst e
    exact br_t (nI_le (by omega) (by omega)) ⟨i + 1, xo_place hN hv (fun od h => hp so od h) i 0 (i + 1) od (by omega) (by omega) (fun c hc => absurd hc (Nat.not_lt_zero c))⟩
  | succ m ih =>
    intro i n so hi hn hv
    obtain ⟨n, rfl⟩ : ∃ k, n = k + 1 := ⟨n - 1, by omega⟩
    refine br_f (nI_ge (by omega) (by omega)) (xo_rank hN (by omega) hD ⟨vp_in_nI (by omega) (by decide), vp_in_nI (by omega) (by decide), nm_e (nm_r (nI_1 i) (ih (i + 1) n _ (by omega) (by omega) (fun c hc => ?_)))⟩)
    rw [nI_clamp (by omega)]
    by_cases e : c = i
    · rw [e, pk_us, hl i (by omega)]
      have e1 : nI (or_rk N D i) * 12 = nI (or_rk N D i * 12) := pk_mul _ 12
      have e2 : nI (or_rk N D i * 12 + or_ld D i) * 12 = nI ((or_rk N D i * 12 + or_ld D i) * 12) := pk_mul _ 12
      rw [e1, nI_add, e2, nI_add]
      rfl
    · rw [pk_un e]; exact hv c (by omega)
theorem xo_order {N : Nat} {D : Nat → Nat → Bool} {T dd ed : Int32} {tk ln sk sh os de re le so od : Nat → Int32} {post : St2 → Prop} (hN : N ≤ 12) (hD : ∀ c d, c < N → d < N → bt (re c) d = D c d) (hl : ∀ c, c < N → le c = nI (or_ld D c)) (hp : ∀ so od : Nat → Int32, (∀ c, c < N → od (or_pl N D c) = nI c) → post (nI N, T, dd, ed, tk, ln, sk, sh, os, de, re, le, so, od)) : wpX_findOrder post (nI N, T, dd, ed, tk, ln, sk, sh, os, de, re, le, so, od) :=
  ⟨N + 1, xo_keys hN hD hl hp N 0 (N + 1) so (by omega) (by omega) (fun c hc => absurd hc (Nat.not_lt_zero c))⟩
/-- what the class keeps of a dependence D -/
def xs_ok (N : Nat) (D : Nat → Nat → Bool) (re le od : Nat → Int32) : Prop := (∀ c d, c < N → d < N → bt (re c) d = D c d) ∧ (∀ c, c < N → le c = nI (or_ld D c)) ∧ (∀ c, c < N → od (or_pl N D c) = nI c)
theorem xs_lead {N : Nat} {D : Nat → Nat → Bool} {T dd ed : Int32} {tk ln sk sh os de re so od : Nat → Int32} {post : St2 → Prop} (hN : N ≤ 12) (hD : ∀ c d, c < N → d < N → bt (re c) d = D c d) (hp : ∀ le so od : Nat → Int32, xs_ok N D re le od → post (nI N, T, dd, ed, tk, ln, sk, sh, os, de, re, le, so, od)) : ∀ (m i n : Nat) (le : Nat → Int32), i + m = N → m < n → (∀ c, c < i → le c = nI (or_ld D c)) → wX_findStructure_6 post (nI N) T dd ed n (nI i) tk ln sk sh os de re le so od := by
  intro m
  induction m with
  | zero =>
    intro i n le hi hn hv
    obtain ⟨n, rfl⟩ : ∃ k, n = k + 1 := ⟨n - 1, by omega⟩
    have e : i = N := by omega
    subst e
    exact br_t (nI_le (by omega) (by omega)) (xo_order hN hD hv (fun so od h => hp le so od ⟨hD, hv, h⟩))
  | succ m ih =>
    intro i n le hi hn hv
    obtain ⟨n, rfl⟩ : ∃ k, n = k + 1 := ⟨n - 1, by omega⟩
    refine br_f (nI_ge (by omega) (by omega)) (xo_leader hN (by omega) hD ⟨vp_in_nI (by omega) (by decide), nm_e (nm_r (nI_1 i) (ih (i + 1) n _ (by omega) (by omega) (fun c hc => ?_)))⟩)
    rw [nI_clamp (by omega)]
    by_cases e : c = i
    · rw [e, pk_us]
    · rw [pk_un e]; exact hv c (by omega)
theorem xs_struct {N T : Nat} {t l : Nat → Nat} {T' dd ed : Int32} {sk sh os de re le so od : Nat → Int32} {post : St2 → Prop} (hN : N ≤ 12) (hT : T ≤ 15) (hw : ls_all N T t l) (hp : ∀ re le so od : Nat → Int32, xs_ok N (wa_S (de_Ub N t l) N) re le od → post (nI N, T', dd, ed, ls_I t, ls_I l, sk, sh, os, de, re, le, so, od)) : wpX_findStructure post (nI N, T', dd, ed, ls_I t, ls_I l, sk, sh, os, de, re, le, so, od) := by
  unfold wpX_findStructure
  refine xr_reach hN hT hw (fun re' hD => ⟨N + 1, ?_⟩)
  exact xs_lead hN hD (fun le so od h => hp re' le so od h) N 0 (N + 1) le (by omega) (by omega) (fun c hc => absurd hc (Nat.not_lt_zero c))
end
section
/-! X: settle -/
theorem xt_delta {N T : Nat} {t l : Nat → Nat} {e dd ed : Int32} {sk sh os re le so od : Nat → Int32} {post : St2 → Prop} (hN : N ≤ 12) (hT : T ≤ 15) (hw : ls_all N T t l) (hp : ∀ de re le so od : Nat → Int32, (∀ d, d < N → de d = sh d - os d) → xs_ok N (wa_S (de_Ub N t l) N) re le od → post (nI N, nI T, dd, e, ls_I t, ls_I l, sk, sh, os, de, re, le, so, od)) : ∀ (m i n : Nat) (de : Nat → Int32), i + m = N → m < n → (∀ d, d < i → de d = sh d - os d) → wX_settle_34 post e (nI N) (nI T) dd ed n (nI i) (ls_I t) (ls_I l) sk sh os de re le so od := by
  intro m
  induction m with
  | zero =>
    intro i n de hi hn hv
    obtain ⟨n, rfl⟩ : ∃ k, n = k + 1 := ⟨n - 1, by omega⟩
    have z : i = N := by omega
    subst z
    exact br_t (nI_le (by omega) (by omega)) (xs_struct hN hT hw (fun re le so od h => hp de re le so od hv h))
  | succ m ih =>
    intro i n de hi hn hv
    obtain ⟨n, rfl⟩ : ∃ k, n = k + 1 := ⟨n - 1, by omega⟩
    have hin : vp_in (nI i) 12 := vp_in_nI (by omega) (by decide)
    refine br_f (nI_ge (by omega) (by omega)) ⟨hin, hin, hin, nm_e (nm_r (nI_1 i) (ih (i + 1) n _ (by omega) (by omega) (fun d hd => ?_)))⟩
    rw [nI_clamp (by omega)]
    by_cases z : d = i
    · rw [z, pk_us]
    · rw [pk_un z]; exact hv d (by omega)
theorem xt_old {N T : Nat} {t l : Nat → Nat} {e dd ed : Int32} {sk sh de re le so od : Nat → Int32} {post : St2 → Prop} (hN : N ≤ 12) (hT : T ≤ 15) (hw : ls_all N T t l) (hp : ∀ (sk sh' os de re le so od : Nat → Int32) (w : Nat → Nat), (∀ d, d < N → sh' d = nI (w d)) → lf_least N T (ls_F T t l) w → (∀ d, d < N → de d = sh' d - sh d) → xs_ok N (wa_S (de_Ub N t l) N) re le od → post (nI N, nI T, dd, e, ls_I t, ls_I l, sk, sh', os, de, re, le, so, od)) : ∀ (m i n : Nat) (os : Nat → Int32), i + m = N → m < n → (∀ d, d < i → os d = sh d) → wX_settle_2 post e (nI N) (nI T) dd ed n (nI i) (ls_I t) (ls_I l) sk sh os de re le so od := by
  intro m
  induction m with
  | zero =>
    intro i n os hi hn hv
    obtain ⟨n, rfl⟩ : ∃ k, n = k + 1 := ⟨n - 1, by omega⟩
    have z : i = N := by omega
    subst z
    refine br_t (nI_le (by omega) (by omega)) (xv_values hN hT hw (fun sk' sh' w h1 h2 => ⟨i + 1, ?_⟩))
    exact xt_delta hN hT hw (fun de re le so od h3 h4 => hp sk' sh' os de re le so od w h1 h2 (fun d hd => by rw [h3 d hd, hv d hd]) h4) i 0 (i + 1) de (by omega) (by omega) (fun d hd => absurd hd (Nat.not_lt_zero d))
  | succ m ih =>
    intro i n os hi hn hv
    obtain ⟨n, rfl⟩ : ∃ k, n = k + 1 := ⟨n - 1, by omega⟩
    have hin : vp_in (nI i) 12 := vp_in_nI (by omega) (by decide)
    refine br_f (nI_ge (by omega) (by omega)) ⟨hin, hin, nm_e (nm_r (nI_1 i) (ih (i + 1) n _ (by omega) (by omega) (fun d hd => ?_)))⟩
    rw [nI_clamp (by omega)]
    by_cases z : d = i
    · rw [z, pk_us]
    · rw [pk_un z]; exact hv d (by omega)
theorem xt_settle {N T : Nat} {t l : Nat → Nat} {e dd ed : Int32} {sk sh os de re le so od : Nat → Int32} {post : St2 → Prop} (hN : N ≤ 12) (hT : T ≤ 15) (hw : ls_all N T t l) (hp : ∀ (sk sh' os de re le so od : Nat → Int32) (w : Nat → Nat), (∀ d, d < N → sh' d = nI (w d)) → lf_least N T (ls_F T t l) w → (∀ d, d < N → de d = sh' d - sh d) → xs_ok N (wa_S (de_Ub N t l) N) re le od → post (nI N, nI T, dd, e, ls_I t, ls_I l, sk, sh', os, de, re, le, so, od)) : wpX_settle post (nI N, nI T, dd, ed, ls_I t, ls_I l, sk, sh, os, de, re, le, so, od) e :=
  ⟨N + 1, xt_old hN hT hw hp N 0 (N + 1) os (by omega) (by omega) (fun d hd => absurd hd (Nat.not_lt_zero d))⟩
end
section
/-! push, dropDraft -/
theorem ls_dr_congr {N T n : Nat} {kd kd' ar ar' : Nat → Nat} (hk : ∀ i, i < n → kd i = kd' i) (ha : ∀ i, i < n → ar i = ar' i) (h : ls_dr N T n kd ar) : ls_dr N T n kd' ar' := by
  refine ⟨h.1, fun i hi => ?_⟩
  have := h.2 i hi
  rw [← hk i hi, ← ha i hi, ← ls_dp_congr i (fun j hj => hk j (by omega))]
  exact this
theorem ls_wf_congr {N T n : Nat} {kd kd' ar ar' : Nat → Nat} (hk : ∀ i, i < n → kd i = kd' i) (ha : ∀ i, i < n → ar i = ar' i) (h : ls_wf N T n kd ar) : ls_wf N T n kd' ar' := ⟨ls_dr_congr hk ha h.1, by rw [← ls_dp_congr n hk]; exact h.2⟩
/-- a row that holds the same tokens -/
theorem ls_row {t t' : Nat → Nat} {c c' n : Nat} (h : ∀ i, i < n → t (8 * c + i) = t' (8 * c' + i)) : (∀ i, i < n → ls_kd t c i = ls_kd t' c' i) ∧ ∀ i, i < n → ls_ar t c i = ls_ar t' c' i := by
  refine ⟨fun i hi => ?_, fun i hi => ?_⟩
  · unfold ls_kd; rw [h i hi]
  · unfold ls_ar; rw [h i hi]
theorem ls_all_low {N T : Nat} {t t' l l' : Nat → Nat} (hN : N ≤ 12) (ht : ∀ j, j < 96 → t j = t' j) (hl : ∀ c, c < N → l c = l' c) (h : ls_all N T t l) : ls_all N T t' l' := by
  intro c hc
  have h8 := (h c hc).1.1
  rw [← hl c hc]
  have r := ls_row (t := t) (t' := t') (c := c) (c' := c) (n := l c) (fun i hi => ht _ (by omega))
  exact ls_wf_congr r.1 r.2 (h c hc)
theorem rl_push {N T k a : Nat} {t l : Nat → Nat} (hd : ls_dr N T (l 12) (ls_kd t 12) (ls_ar t 12)) (h8 : l 12 < 8) (htok : ls_tok N T k a) (ha : a < 100) (hs : 2 ≤ k → 2 ≤ ls_dp (ls_kd t 12) (l 12)) : ls_dr N T (ls_up l 12 (l 12 + 1) 12) (ls_kd (ls_up t (96 + l 12) (100 * k + a)) 12) (ls_ar (ls_up t (96 + l 12) (100 * k + a)) 12) ∧ ls_dp (ls_kd (ls_up t (96 + l 12) (100 * k + a)) 12) (ls_up l 12 (l 12 + 1) 12) = (if k < 2 then ls_dp (ls_kd t 12) (l 12) + 1 else ls_dp (ls_kd t 12) (l 12) - 1) := by
  rw [ls_us]
  have r := ls_row (t := t) (t' := ls_up t (96 + l 12) (100 * k + a)) (c := 12) (c' := 12) (n := l 12) (fun i hi => (ls_un (by omega)).symm)
  have ek : ls_kd (ls_up t (96 + l 12) (100 * k + a)) 12 (l 12) = k := by
    show ls_up t (96 + l 12) (100 * k + a) (96 + l 12) / 100 = k
    rw [ls_us]; omega
  have ea : ls_ar (ls_up t (96 + l 12) (100 * k + a)) 12 (l 12) = a := by
    show ls_up t (96 + l 12) (100 * k + a) (96 + l 12) % 100 = a
    rw [ls_us]; omega
  have ed := ls_dp_congr (l 12) r.1
  have d2 := ls_dr_congr r.1 r.2 hd
  refine ⟨⟨by omega, fun i hi => ?_⟩, ?_⟩
  · by_cases e : i = l 12
    · rw [e, ek, ea, ← ed]; exact ⟨htok, hs⟩
    · exact d2.2 i (by omega)
  · by_cases h2 : k < 2
    · rw [if_pos h2, ls_dp_a (by rw [ek]; exact h2), ed]
    · rw [if_neg h2, ls_dp_b (by rw [ek]; exact h2), ed]
theorem xp_91 {N T k a : Nat} {x4 dd' : Int32} {t l : Nat → Nat} {post : Int32 → St2 → Prop} {dd ed : Int32} {sk sh os de re le so od : Nat → Int32} (h8 : l 12 < 8) (h4 : (x4 = 0 → dd' = dd + (-1)) ∧ (¬ x4 = 0 → dd' = dd + 1)) (h : post 0 (nI N, nI T, dd', ed, ls_I (ls_up t (96 + l 12) (100 * k + a)), ls_I (ls_up l 12 (l 12 + 1)), sk, sh, os, de, re, le, so, od)) : wX_push_91 post (nI k) (nI (l 12)) x4 (nI a) (nI N) (nI T) dd ed (ls_I t) (ls_I l) sk sh os de re le so od := by
  have e1 : 96 + nI (l 12) = nI (96 + l 12) := nI_add 96 (l 12)
  have e2 : 100 * nI k + nI a = nI (100 * k + a) := by rw [show 100 * nI k = nI (100 * k) from pk_mul 100 k, nI_add]
  unfold wX_push_91
  rw [e1, e2, nI_clamp (by omega), ls_Iup, nI_1, ls_Iup]
  refine ⟨vp_in_nI (by omega) (by decide), nm_e (nm_e (br_c (fun z => nm_r (h4.1 z).symm h) (fun z => nm_r (h4.2 z).symm h)))⟩
theorem xp_59 {k : Nat} {x2 x3 x4 : Int32} {post : Int32 → St2 → Prop} {N T dd ed : Int32} {tk ln sk sh os de re le so od : Nat → Int32} (hk : k ≤ 5) (h : wX_push_91 post (nI k) x3 x4 (if 2 ≤ k ∧ k ≤ 4 then 0 else x2) N T dd ed tk ln sk sh os de re le so od) : wX_push_59 post (nI k) x2 x3 x4 N T dd ed tk ln sk sh os de re le so od := by
  unfold wX_push_59 wX_push_74 wX_push_79
  by_cases p : 2 ≤ k ∧ k ≤ 4
  · rw [if_pos p] at h
    have h' := br_f (c := (1 : Int32) = 0) (A := wX_push_91 post (nI k) x3 x4 x2 N T dd ed tk ln sk sh os de re le so od) (by decide) h
    exact pk_eq k 2 (fun _ => h') (fun _ => pk_eq k 3 (fun _ => h') (fun _ => pk_eq k 4 (fun _ => h') (fun _ => by omega)))
  · rw [if_neg p] at h
    exact pk_eq k 2 (fun _ => by omega) (fun _ => pk_eq k 3 (fun _ => by omega) (fun _ => pk_eq k 4 (fun _ => by omega) (fun _ => br_t rfl h)))
def rl_arg (N T k : Nat) (v : Int32) : Prop := (k = 0 → ¬ v < 0 ∧ ¬ nI T < v) ∧ (k = 1 → ¬ v < 0 ∧ ¬ nI N ≤ v) ∧ (k = 5 → ¬ v < 1 ∧ ¬ nI T < v)
theorem rl_arg_tok {N T k : Nat} {v : Int32} (hN : N ≤ 12) (hT : T ≤ 15) (hk : k ≤ 5) (h : rl_arg N T k v) : ∃ a : Nat, a < 100 ∧ ls_tok N T k a ∧ (if 2 ≤ k ∧ k ≤ 4 then 0 else v) = nI a := by
  have h1 : ¬ v < 1 → ¬ v < 0 := fun z y => z (Int32.lt_trans y (by decide))
  by_cases p : 2 ≤ k ∧ k ≤ 4
  · exact ⟨0, by omega, ⟨hk, fun _ => by omega, fun _ => by omega, fun _ _ => rfl, fun _ => by omega⟩, by rw [if_pos p]; rfl⟩
  · rw [if_neg p]
    by_cases k0 : k = 0
    · have ⟨a1, a2⟩ := h.1 k0
      obtain ⟨a, ha, rfl⟩ := nI_of a1
      rw [nI_ltI (by omega) ha] at a2
      exact ⟨a, by omega, ⟨hk, fun _ => by omega, fun _ => by omega, fun _ => by omega, fun _ => by omega⟩, rfl⟩
    · by_cases k1 : k = 1
      · have ⟨a1, a2⟩ := h.2.1 k1
        obtain ⟨a, ha, rfl⟩ := nI_of a1
        rw [nI_leI (by omega) ha] at a2
        exact ⟨a, by omega, ⟨hk, fun _ => by omega, fun _ => by omega, fun _ => by omega, fun _ => by omega⟩, rfl⟩
      · have ⟨a1, a2⟩ := h.2.2 (by omega)
        obtain ⟨a, ha, rfl⟩ := nI_of (h1 a1)
        rw [nI_ltI (by omega) ha] at a2
        have a3 : ¬ a < 1 := fun z => a1 (nI_lt (b := 1) z (by decide))
        exact ⟨a, by omega, ⟨hk, fun _ => by omega, fun _ => by omega, fun _ => by omega, fun _ => by omega⟩, rfl⟩
theorem xp_arg {N T k : Nat} {v : Int32} {post : Int32 → Prop} {dd ed : Int32} {tk ln sk sh os de re le so od : Nat → Int32} (hk : k ≤ 5) (h1 : rl_arg N T k v → post 1) (h0 : ¬ rl_arg N T k v → post 0) : wpX_isArgument post (nI N, nI T, dd, ed, tk, ln, sk, sh, os, de, re, le, so, od) (nI k) v := by
  unfold wpX_isArgument
  refine pk_eq k 0 (fun k0 => ?_) (fun k0 => pk_eq k 1 (fun k1 => ?_) (fun k1 => pk_eq k 5 (fun k5 => ?_) (fun k5 => h1 ⟨fun z => absurd z k0, fun z => absurd z k1, fun z => absurd z k5⟩)))
  · exact br_c (fun z => h0 (fun y => (y.1 k0).1 z)) (fun z => br_c (fun x => h0 (fun y => (y.1 k0).2 x)) (fun x => h1 ⟨fun _ => ⟨z, x⟩, fun _ => by omega, fun _ => by omega⟩))
  · exact br_c (fun z => ⟨rfl, h0 (fun y => (y.2.1 k1).1 z)⟩) (fun z => br_c (fun x => ⟨rfl, h0 (fun y => (y.2.1 k1).2 x)⟩) (fun x => ⟨rfl, h1 ⟨fun _ => by omega, fun _ => ⟨z, x⟩, fun _ => by omega⟩⟩))
  · exact br_c (fun z => h0 (fun y => (y.2.2 k5).1 z)) (fun z => br_c (fun x => h0 (fun y => (y.2.2 k5).2 x)) (fun x => h1 ⟨fun _ => by omega, fun _ => by omega, fun _ => ⟨z, x⟩⟩))
theorem rl_le {x y : Int32} : x ≤ y ↔ ¬ y < x := Int32.not_lt.symm
theorem ls_dr0 {N T : Nat} (kd ar : Nat → Nat) : ls_dr N T 0 kd ar := ⟨by omega, fun i hi => absurd hi (Nat.not_lt_zero i)⟩
theorem rl_set {N T c x : Nat} {t l : Nat → Nat} (hN : N ≤ 12) (hT : T ≤ 15) (hc : c < N) (hx : x ≤ T) (ha : ls_all N T t l) (hd : ls_dr N T (l 12) (ls_kd t 12) (ls_ar t 12)) : ls_all N T (ls_up t (8 * c) x) (ls_up l c 1) ∧ ls_dr N T (ls_up l c 1 12) (ls_kd (ls_up t (8 * c) x) 12) (ls_ar (ls_up t (8 * c) x) 12) ∧ ls_dp (ls_kd (ls_up t (8 * c) x) 12) (ls_up l c 1 12) = ls_dp (ls_kd t 12) (l 12) := by
  have h8 := hd.1
  have r := ls_row (t := t) (t' := ls_up t (8 * c) x) (c := 12) (c' := 12) (n := l 12) (fun i hi => (ls_un (by omega)).symm)
  have e12 : ls_up l c 1 12 = l 12 := ls_un (by omega)
  refine ⟨fun c' hc' => ?_, ?_, ?_⟩
  · by_cases e : c' = c
    · subst e
      have ek : ls_kd (ls_up t (8 * c') x) c' 0 = 0 := by
        show ls_up t (8 * c') x (8 * c' + 0) / 100 = 0
        rw [Nat.add_zero, ls_us]; omega
      have ea : ls_ar (ls_up t (8 * c') x) c' 0 = x := by
        show ls_up t (8 * c') x (8 * c' + 0) % 100 = x
        rw [Nat.add_zero, ls_us]; omega
      rw [ls_us]
      refine ⟨⟨by omega, fun i hi => ?_⟩, ?_⟩
      · have e0 : i = 0 := by omega
        subst e0
        rw [ek, ea]
        exact ⟨⟨by omega, fun _ => hx, fun _ => by omega, fun _ => by omega, fun _ => by omega⟩, fun _ => by omega⟩
      · rw [ls_dp_a (by rw [ek]; omega)]; rfl
    · have h8' := (ha c' hc').1.1
      rw [ls_un e]
      have r' := ls_row (t := t) (t' := ls_up t (8 * c) x) (c := c') (c' := c') (n := l c') (fun i hi => (ls_un (by omega)).symm)
      exact ls_wf_congr r'.1 r'.2 (ha c' hc')
  · rw [e12]; exact ls_dr_congr r.1 r.2 hd
  · rw [e12]; exact (ls_dp_congr (l 12) r.1).symm
def cp_t (t : Nat → Nat) (c : Nat) : Nat → Nat → Nat
  | 0 => t
  | i + 1 => ls_up (cp_t t c i) (8 * c + i) (cp_t t c i (96 + i))
theorem cp_at {t : Nat → Nat} {c : Nat} (hc : c < 12) : ∀ n, n ≤ 8 → ∀ j, cp_t t c n j = if 8 * c ≤ j ∧ j < 8 * c + n then t (96 + (j - 8 * c)) else t j
  | 0, _, j => by
    rw [if_neg (by omega)]; rfl
  | n + 1, hn, j => by
    show ls_up (cp_t t c n) (8 * c + n) (cp_t t c n (96 + n)) j = _
    by_cases e : j = 8 * c + n
    · rw [e, ls_us, cp_at hc n (by omega), if_neg (by omega), if_pos (by omega)]
      exact congrArg t (by omega)
    · rw [ls_un e, cp_at hc n (by omega) j]
      by_cases z : 8 * c ≤ j ∧ j < 8 * c + n
      · rw [if_pos z, if_pos (by omega)]
      · rw [if_neg z, if_neg (by omega)]
theorem rl_copy {N T c : Nat} {t l : Nat → Nat} (hN : N ≤ 12) (hc : c < N) (ha : ls_all N T t l) (hd : ls_dr N T (l 12) (ls_kd t 12) (ls_ar t 12)) (h1 : ls_dp (ls_kd t 12) (l 12) = 1) : ls_all N T (cp_t t c (l 12)) (ls_up l c (l 12)) := by
  have h8 := hd.1
  intro c' hc'
  by_cases e : c' = c
  · subst e
    rw [ls_us]
    have r := ls_row (t := t) (t' := cp_t t c' (l 12)) (c := 12) (c' := c') (n := l 12) (fun i hi => by
      rw [cp_at (by omega) _ h8, if_pos (by omega)]
      exact congrArg t (by omega))
    exact ls_wf_congr r.1 r.2 ⟨hd, h1⟩
  · have h8' := (ha c' hc').1.1
    rw [ls_un e]
    have r := ls_row (t := t) (t' := cp_t t c (l 12)) (c := c') (c' := c') (n := l c') (fun i hi => by
      rw [cp_at (by omega) _ h8, if_neg (by omega)])
    exact ls_wf_congr r.1 r.2 (ha c' hc')
theorem cp_upd {t : Nat → Nat} {c i : Nat} (hc : c < 12) (hi : i < 8) : upd (ls_I (cp_t t c i)) (nI c * 8 + nI i).toNatClampNeg (ls_I (cp_t t c i) (96 + nI i).toNatClampNeg) = ls_I (cp_t t c (i + 1)) := by
  rw [show nI c * 8 + nI i = nI (8 * c + i) by rw [Nat.mul_comm, show nI c * 8 = nI (c * 8) from pk_mul c 8, nI_add], show 96 + nI i = nI (96 + i) from nI_add 96 i, nI_clamp (by omega), ls_Iat (by omega), ls_Iup]
  rfl
theorem cp_in {c i : Nat} (hc : c < 12) (hi : i < 8) : vp_in (96 + nI i) 104 ∧ vp_in (nI c * 8 + nI i) 104 := by
  rw [show nI c * 8 + nI i = nI (8 * c + i) by rw [Nat.mul_comm, show nI c * 8 = nI (c * 8) from pk_mul c 8, nI_add], show 96 + nI i = nI (96 + i) from nI_add 96 i]
  exact ⟨vp_in_nI (by omega) (by decide), vp_in_nI (by omega) (by decide)⟩
theorem xc_draft {c : Nat} {t l : Nat → Nat} {N T dd ed : Int32} {sk sh os de re le so od : Nat → Int32} {post : St2 → Prop} (hc : c < 12) (h8 : l 12 ≤ 8) (hp : post (N, T, dd, ed, ls_I (cp_t t c (l 12)), ls_I (ls_up l c (l 12)), sk, sh, os, de, re, le, so, od)) : ∀ (m i n : Nat), i + m = l 12 → m < n → wX_writeDraft_10 post (nI c) (nI (l 12)) N T dd ed n (nI i) (ls_I (cp_t t c i)) (ls_I l) sk sh os de re le so od := by
  intro m
  induction m with
  | zero =>
    intro i n hi hn
    obtain ⟨n, rfl⟩ : ∃ k, n = k + 1 := ⟨n - 1, by omega⟩
    have e : i = l 12 := by omega
    refine br_t (nI_le (by omega) (by omega)) ⟨vp_in_nI (by omega) (by decide), nm_r (e' := ls_I (ls_up l c (l 12))) (by rw [nI_clamp (by omega), ls_Iup]) ?_⟩
    rw [e]
    exact hp
  | succ m ih =>
    intro i n hi hn
    obtain ⟨n, rfl⟩ : ∃ k, n = k + 1 := ⟨n - 1, by omega⟩
    have ⟨i1, i2⟩ := cp_in (i := i) hc (by omega)
    exact br_f (nI_ge (by omega) (by omega)) ⟨i1, i2, nm_r (cp_upd hc (by omega)) (nm_r (nI_1 i) (ih (i + 1) n (by omega) (by omega)))⟩
theorem xe_ncell {N : Nat} {x : Int32} {post : Int32 → Prop} {T dd ed : Int32} {tk ln sk sh os de re le so od : Nat → Int32} (hx : x < 0 ∨ nI N ≤ x) (h : post 0) : wpX_isCell post (nI N, T, dd, ed, tk, ln, sk, sh, os, de, re, le, so, od) x := by
  by_cases z : x < 0
  · exact br_t z h
  · exact br_f z (br_t (hx.resolve_left z) h)
theorem rl_ix (x : Int32) {N : Nat} (hN : N ≤ 12) : (x < 0 ∨ nI N ≤ x) ∨ ∃ j : Nat, j < N ∧ x = nI j := by
  rcases pk_ix x (n := N) (by omega) with h | h | h
  · exact Or.inl (Or.inl h)
  · exact Or.inl (Or.inr h)
  · exact Or.inr h
theorem rl_n99 {c : Nat} (h : c < 13) : ¬ nI c = (-99) := by
  intro z
  have := nI_pos (n := c) (by omega)
  rw [z] at this
  exact this (by decide)
theorem rl_n1 {c : Nat} (h : c < 13) : ¬ nI c = (-1) := by
  intro z
  have := nI_pos (n := c) (by omega)
  rw [z] at this
  exact this (by decide)
def in_l (i : Nat) : Nat → Nat := fun j => if j < i then 1 else 0
theorem in_lup {i : Nat} (hi : i < 12) : upd (ls_I (in_l i)) (nI i).toNatClampNeg 1 = ls_I (in_l (i + 1)) := by
  rw [nI_clamp (by omega), show (1 : Int32) = nI 1 from rfl, ls_Iup]
  congr 1
  funext j
  unfold ls_up in_l
  by_cases e : j = i
  · rw [if_pos e, if_pos (by omega)]
  · rw [if_neg e]
    by_cases z : j < i
    · rw [if_pos z, if_pos (by omega)]
    · rw [if_neg z, if_neg (by omega)]
theorem in_tup (k : Nat) : upd (ls_I (fun _ => 0)) k (0 + 0) = ls_I (fun _ => 0) := by
  funext j
  unfold upd
  split <;> rfl
theorem in_l0 : ls_I (in_l 0) = fun _ => 0 := by
  funext j
  show nI (if j < 0 then 1 else 0) = 0
  rw [if_neg (Nat.not_lt_zero j)]; rfl
theorem in_all {N T : Nat} (hN : N ≤ 12) : ls_all N T (fun _ => 0) (in_l 12) := by
  intro c hc
  have e : in_l 12 c = 1 := if_pos (by omega)
  rw [e]
  refine ⟨⟨by omega, fun i hi => ⟨⟨by show 0 / 100 ≤ 5; decide, fun _ => by show 0 % 100 ≤ T; exact Nat.zero_le _, fun z => absurd z (by show ¬ (0 / 100 = 1); decide), fun z => absurd z (by show ¬ (2 ≤ 0 / 100); decide), fun z => absurd z (by show ¬ (0 / 100 = 5); decide)⟩, fun z => absurd z (by show ¬ (2 ≤ 0 / 100); decide)⟩⟩, (ls_dp_a (i := 0) (by show 0 / 100 < 2; decide)).trans rfl⟩
end
section
/-! pure: what a formula's result rests on; a cell that does not depend on the edited one keeps its value -/
theorem lo_st {T n : Nat} {w w' kd kd' ar ar' : Nat → Nat} (hk : ∀ i, i < n → kd i = kd' i) (ha : ∀ i, i < n → ar i = ar' i) (hw : ∀ i, i < n → kd i = 1 → w (ar i) = w' (ar i)) : ∀ i, i ≤ n → ls_st T w kd ar i = ls_st T w' kd' ar' i := by
  intro i
  induction i with
  | zero => intro _; rfl
  | succ i ih =>
    intro hi
    have ih' := ih (by omega)
    have e1 := hk i (by omega)
    have e2 := ha i (by omega)
    have e3 := ls_dp_congr i (fun j hj => hk j (by omega))
    by_cases h : kd i < 2
    · rw [ls_st_a h, ls_st_a (e1 ▸ h), ih', e3, ← e1, ← e2]
      by_cases h1 : kd i = 1
      · rw [if_pos h1, if_pos h1, hw i (by omega) h1]
      · rw [if_neg h1, if_neg h1]
    · rw [ls_st_b h, ls_st_b (e1 ▸ h), ih', e3, ← e1, ← e2]
theorem lo_F {T c : Nat} {t t' l l' u u' : Nat → Nat} (hl : l c = l' c) (ht : ∀ i, i < l c → t (8 * c + i) = t' (8 * c + i)) (hu : ∀ d, de_u t c d (l c) = true → u d = u' d) : ls_F T t l u c = ls_F T t' l' u' c := by
  unfold ls_F ls_ev
  rw [← hl]
  have r1 : ∀ i, i < l c → ls_kd t c i = ls_kd t' c i := fun i hi => by unfold ls_kd; rw [ht i hi]
  have r2 : ∀ i, i < l c → ls_ar t c i = ls_ar t' c i := fun i hi => by unfold ls_ar; rw [ht i hi]
  rw [lo_st r1 r2 (fun i hi h1 => hu _ (by rw [de_u_iff]; exact ⟨i, hi, h1, rfl⟩)) (l c) (Nat.le_refl _)]
theorem lo_u {t t' : Nat → Nat} {c d n : Nat} (ht : ∀ i, i < n → t (8 * c + i) = t' (8 * c + i)) (h : de_u t c d n = true) : de_u t' c d n = true := by
  rw [de_u_iff] at h ⊢
  obtain ⟨i, hi, h1, h2⟩ := h
  refine ⟨i, hi, ?_, ?_⟩
  · unfold ls_kd at h1 ⊢; rw [← ht i hi]; exact h1
  · unfold ls_ar at h2 ⊢; rw [← ht i hi]; exact h2
theorem lo_same {N T e : Nat} {t t' l l' w w' : Nat → Nat} (A : ls_all N T t l) (A' : ls_all N T t' l') (same : ∀ c, c < N → c ≠ e → l c = l' c ∧ ∀ i, i < l c → t (8 * c + i) = t' (8 * c + i)) (L : lf_least N T (ls_F T t l) w) (L' : lf_least N T (ls_F T t' l') w') : ∀ c, c < N → c ≠ e → wa_S (de_Ub N t' l') N c e = false → w' c = w c := by
  have clos : ∀ c d, c < N → wa_S (de_Ub N t' l') N c e = false → de_u t' c d (l' c) = true → d < N ∧ d ≠ e ∧ wa_S (de_Ub N t' l') N d e = false := by
    intro c d hc hS hu
    have hU : de_Ub N t' l' c d = true := by rw [de_Ub_at hc]; exact hu
    have hd := de_Ub_lt A' c d hU
    refine ⟨hd, fun z => ?_, ?_⟩
    · rw [z] at hU
      rw [wa_up hU N] at hS
      exact Bool.noConfusion hS
    · cases q : wa_S (de_Ub N t' l') N d e
      · rfl
      · rw [wa_tr N c d e hd (wa_up hU N) q] at hS
        exact Bool.noConfusion hS
  have ok := ls_F_ok A
  have ok' := ls_F_ok A'
  have step1 : lf_pre N T (ls_F T t' l') (fun c => if c ≠ e ∧ wa_S (de_Ub N t' l') N c e = false then w c else T) := by
    have hb : ∀ c, c < N → (if c ≠ e ∧ wa_S (de_Ub N t' l') N c e = false then w c else T) ≤ T := by
      intro c hc
      split
      · exact L.1.1 c hc
      · exact Nat.le_refl T
    refine ⟨hb, fun c hc => ?_⟩
    show _ ≤ (if c ≠ e ∧ wa_S (de_Ub N t' l') N c e = false then w c else T)
    by_cases hS : c ≠ e ∧ wa_S (de_Ub N t' l') N c e = false
    · rw [if_pos hS]
      have ⟨s1, s2⟩ := same c hc hS.1
      rw [← lo_F (T := T) (u := w) s1 s2 (fun d hd => ?_)]
      · exact Nat.le_of_eq (L.1.2 c hc)
      · have ⟨_, k2, k3⟩ := clos c d hc hS.2 (by rw [← s1]; exact lo_u s2 hd)
        rw [if_pos ⟨k2, k3⟩]
    · rw [if_neg hS]
      exact ok'.2 _ hb c hc
  have step2 : lf_pre N T (ls_F T t l) (fun c => if c ≠ e ∧ wa_S (de_Ub N t' l') N c e = false then w' c else T) := by
    have hb : ∀ c, c < N → (if c ≠ e ∧ wa_S (de_Ub N t' l') N c e = false then w' c else T) ≤ T := by
      intro c hc
      split
      · exact L'.1.1 c hc
      · exact Nat.le_refl T
    refine ⟨hb, fun c hc => ?_⟩
    show _ ≤ (if c ≠ e ∧ wa_S (de_Ub N t' l') N c e = false then w' c else T)
    by_cases hS : c ≠ e ∧ wa_S (de_Ub N t' l') N c e = false
    · rw [if_pos hS]
      have ⟨s1, s2⟩ := same c hc hS.1
      rw [lo_F (T := T) (u' := w') s1 s2 (fun d hd => ?_)]
      · exact Nat.le_of_eq (L'.1.2 c hc)
      · have ⟨_, k2, k3⟩ := clos c d hc hS.2 (by rw [← s1]; exact lo_u s2 hd)
        rw [if_pos ⟨k2, k3⟩]
    · rw [if_neg hS]
      exact ok.2 _ hb c hc
  intro c hc h1 h2
  have a : w' c ≤ (if c ≠ e ∧ wa_S (de_Ub N t' l') N c e = false then w c else T) := L'.2 _ step1 c hc
  have b : w c ≤ (if c ≠ e ∧ wa_S (de_Ub N t' l') N c e = false then w' c else T) := L.2 _ step2 c hc
  rw [if_pos ⟨h1, h2⟩] at a b
  exact Nat.le_antisymm a b
end
section
/-! values packed by four bits, and the law's own small methods -/
def mp_w (w : Nat → Nat) : Nat → Nat
  | 0 => 0
  | n + 1 => mp_w w n + w n * 16 ^ n
theorem mp_s (w : Nat → Nat) (n : Nat) : mp_w w (n + 1) = mp_w w n + w n * 16 ^ n := rfl
theorem mp_lt {w : Nat → Nat} : ∀ n, (∀ c, c < n → w c ≤ 15) → mp_w w n < 16 ^ n
  | 0, _ => Nat.one_pos
  | n + 1, h => by
    have h1 := mp_lt n (fun c hc => h c (by omega))
    have h2 : w n * 16 ^ n ≤ 15 * 16 ^ n := Nat.mul_le_mul_right _ (h n (by omega))
    rw [mp_s, Nat.pow_succ]
    omega
theorem mp_at {w : Nat → Nat} : ∀ n, (∀ c, c < n → w c ≤ 15) → ∀ c, c < n → mp_w w n / 16 ^ c % 16 = w c
  | 0, _, c, hc => absurd hc (Nat.not_lt_zero c)
  | n + 1, h, c, hc => by
    have hp : 0 < 16 ^ c := Nat.pow_pos (by omega)
    rw [mp_s]
    by_cases e : c = n
    · subst e
      have h1 := mp_lt c (fun d hd => h d (by omega))
      have h2 := h c (by omega)
      rw [Nat.add_mul_div_right _ _ hp, Nat.div_eq_of_lt h1]
      omega
    · have ih := mp_at n (fun d hd => h d (by omega)) c (by omega)
      have e2 : w n * 16 ^ n = (w n * 16 ^ (n - c - 1) * 16) * 16 ^ c := by
        rw [Nat.mul_assoc, Nat.mul_assoc, ← Nat.pow_succ', ← Nat.pow_add]
        congr 2
        omega
      rw [e2, Nat.add_mul_div_right _ _ hp, Nat.add_mul_mod_self_right]
      exact ih
theorem mp_congr {w w' : Nat → Nat} : ∀ n, (∀ c, c < n → w c = w' c) → mp_w w n = mp_w w' n
  | 0, _ => rfl
  | n + 1, h => by rw [mp_s, mp_s, mp_congr n (fun c hc => h c (by omega)), h n (by omega)]
theorem mp_up {w : Nat → Nat} {c v : Nat} : ∀ n, c < n → mp_w (ls_up w c v) n + w c * 16 ^ c = mp_w w n + v * 16 ^ c
  | 0, hc => absurd hc (Nat.not_lt_zero c)
  | n + 1, hc => by
    rw [mp_s, mp_s]
    by_cases e : c = n
    · subst e
      rw [ls_us, mp_congr (w := ls_up w c v) (w' := w) c (fun d hd => ls_un (by omega))]
      omega
    · have ih := mp_up (w := w) (c := c) (v := v) n (by omega)
      rw [ls_un (show n ≠ c by omega)]
      omega
theorem mp_0 : ∀ n, mp_w (fun _ => 0) n = 0
  | 0 => rfl
  | n + 1 => by rw [mp_s, mp_0 n, Nat.zero_mul]
def sp_s (s : Nat → Nat) : Nat → Nat
  | 0 => 0
  | d + 1 => sp_s s d * 16 + s d
theorem sp_e (s : Nat → Nat) (d : Nat) : sp_s s (d + 1) = sp_s s d * 16 + s d := rfl
theorem sp_lt {s : Nat → Nat} : ∀ d, (∀ j, j < d → s j ≤ 15) → sp_s s d < 16 ^ d
  | 0, _ => Nat.one_pos
  | d + 1, h => by
    have h1 := sp_lt d (fun c hc => h c (by omega))
    have h2 := h d (by omega)
    rw [sp_e, Nat.pow_succ]
    omega
theorem sp_congr {s s' : Nat → Nat} : ∀ d, (∀ j, j < d → s j = s' j) → sp_s s d = sp_s s' d
  | 0, _ => rfl
  | d + 1, h => by rw [sp_e, sp_e, sp_congr d (fun c hc => h c (by omega)), h d (by omega)]
theorem la_and15 (x : Nat) : nI x &&& 15 = nI (x % 16) := by
  show nI x &&& nI 15 = _
  rw [nx_and, show (15 : Nat) = 2 ^ 4 - 1 from rfl, Nat.and_two_pow_sub_one_eq_mod]
theorem la_cnt {k : Nat} (hk : k < 64) : ((((nI k).toInt64 &&& 63)).toBitVec.smod 64).toNat = k := by
  rw [wb_c k hk, wb_tb, wb_sm k hk, BitVec.toNat_ofNat]
  exact Nat.mod_eq_of_lt (by omega)
theorem la_16 (c : Nat) : 2 ^ (4 * c) = 16 ^ c := by rw [Nat.pow_mul]
theorem la_nib {post : Int32 → Prop} {m c : Nat} (hm : m < 2 ^ 62) (hc : c < 15) (h : post (nI (m / 16 ^ c % 16))) : wpL_nib post () (lN m) (nI c) := by
  unfold wpL_nib
  rw [show 4 * nI c = nI (4 * c) from pk_mul 4 c, pf_shr (la_cnt (by omega)) hm, lN_i, la_and15, la_16]
  exact h
theorem la_pick {post : Int32 → Prop} {x : Int32} {m : Nat} (hm : 0 < m) (hm2 : m < 2 ^ 31) (h : ∀ j, j < m → post (nI j)) : wpL_pick post () x (nI m) := by
  have e : x &&& 2147483647 = nI (x.toBitVec.toNat % 2 ^ 31) := pk_and x 31 (by decide)
  refine ⟨nI_ne0 hm hm2, ?_⟩
  rw [e, pk_rem (Nat.mod_lt _ (by omega)) hm hm2]
  exact h _ (Nat.mod_lt _ hm)
theorem la_cell {post : Int32 → Prop} {L k : Nat} {xs : Nat → Int32} (hL : L ≤ 260) (hk : k < 2 ^ 31) (h : ∀ v, post v) : wpL_cell post L xs () (nI k) := by
  by_cases z : L ≤ k
  · exact br_t (show nI L ≤ nI k from nI_le z hk) (h _)
  · exact br_f (show ¬ nI L ≤ nI k from nI_ge (by omega) (by omega)) ⟨vp_in_nI (by omega) (by omega), h _⟩
theorem la_op {post : Int32 → Prop} {T k a x y : Nat} (hT : T ≤ 15) (ha : a < 100) (hx : x ≤ T) (hy : y ≤ T) (h2 : 2 ≤ k) (h5 : k ≤ 5) (h : post (nI (ls_cmb T k a x y))) : wpL_op post () (nI k) (nI a) (nI x) (nI y) (nI T) := by
  have hc : ∀ r, ls_cmb T k a x y = r → post (nI r) := fun r e => e ▸ h
  unfold wpL_op
  refine pk_eq k 2 (fun _ => pk_le y x (fun _ => hc y ?_) (fun _ => hc x ?_)) (fun _ => pk_eq k 3 (fun _ => pk_le x y (fun _ => hc y ?_) (fun _ => hc x ?_)) (fun _ => pk_eq k 4 (fun _ => ?_) (fun _ => pk_lt x a (fun _ => hc 0 ?_) (fun _ => hc y ?_))))
  case refine_5 =>
    rw [nI_add]
    refine pk_le (x + y) T (fun _ => hc _ ?_) (fun _ => hc _ ?_)
    all_goals (unfold ls_cmb; repeat' split)
    all_goals omega
  all_goals (unfold ls_cmb; repeat' split)
  all_goals omega
/-- the packed stack, a value put on it -/
theorem la_put {m v : Nat} (hm : m < 16 ^ 8) (hv : v < 16) : (lN m <<< ((4 : Int32).toInt64 &&& 63)) ||| (nI v).toInt64 = lN (m * 16 + v) := by
  have h16 : (16 : Nat) ^ 8 = 4294967296 := by decide
  rw [show (4 : Int32) = nI 4 from rfl, wb_shl m (by omega), nI_l (by omega)]
  exact g_or (k := 4) (p := 16) (by decide) hv (by omega)
/-- the packed stack, its two topmost taken away -/
theorem la_pop {m : Nat} (hm : m < 16 ^ 8) : lN m >>> ((8 : Int32).toInt64 &&& 63) = lN (m / 256) := by
  have h16 : (16 : Nat) ^ 8 = 4294967296 := by decide
  rw [show (8 : Int32) = nI 8 from rfl, pf_shr (la_cnt (k := 8) (by omega)) (by omega)]
end
section
/-! the law: its check of the read-back formulas, its own least solution, the comparison -/
theorem lx_len {N T c : Nat} {t l : Nat → Nat} {post : Int32 → Prop} {dd ed : Int32} {sk sh os de re le so od : Nat → Int32} (hN : N ≤ 12) (hc : c < N) (h : post (nI (l c))) : wpX_length post (nI N, nI T, dd, ed, ls_I t, ls_I l, sk, sh, os, de, re, le, so, od) (nI c) := by
  unfold wpX_length wpX_rowOf
  refine br_f (rl_n1 (by omega)) (xe_cell hN hc (br_f (by decide) (br_f (rl_n99 (by omega)) ⟨vp_in_nI (by omega) (by decide), ?_⟩)))
  rw [ls_Iat (by omega)]
  exact h
theorem lx_tok {N T c i : Nat} {t l : Nat → Nat} {post : Int32 → Prop} {dd ed : Int32} {sk sh os de re le so od : Nat → Int32} (hN : N ≤ 12) (hc : c < N) (h8 : l c ≤ 8) (hi : i < l c) (h : post (nI (t (8 * c + i)))) : wpX_tokenAt post (nI N, nI T, dd, ed, ls_I t, ls_I l, sk, sh, os, de, re, le, so, od) (nI c) (nI i) := by
  have e : nI c * 8 + nI i = nI (8 * c + i) := by rw [Nat.mul_comm, show nI c * 8 = nI (c * 8) from pk_mul c 8, nI_add]
  unfold wpX_tokenAt wpX_rowOf
  refine br_f (rl_n1 (by omega)) (xe_cell hN hc (br_f (by decide) (br_f (rl_n99 (by omega)) (br_f (nI_pos (by omega)) ⟨vp_in_nI (by omega) (by decide), ?_⟩))))
  rw [e, ls_Iat (by omega), ls_Iat (by omega)]
  exact br_t (nI_lt hi (by omega)) ⟨vp_in_nI (by omega) (by decide), h⟩
theorem lx_delta {N c : Nat} {post : Int32 → Prop} {T dd ed : Int32} {tk ln sk sh os de re le so od : Nat → Int32} (hN : N ≤ 12) (hc : c < N) (h : post (de c)) : wpX_delta post (nI N, T, dd, ed, tk, ln, sk, sh, os, de, re, le, so, od) (nI c) := by
  unfold wpX_delta
  refine xe_cell hN hc (br_f (by decide) ⟨vp_in_nI (by omega) (by decide), ?_⟩)
  rw [nI_clamp (by omega)]
  exact h
theorem lx_dep {N c e : Nat} {post : Int32 → Prop} {T dd ed : Int32} {tk ln sk sh os de re le so od : Nat → Int32} (hN : N ≤ 12) (hc : c < N) (he : e < N) (hb : bt (re c) e = true) (h : post 1) : wpX_depends post (nI N, T, dd, ed, tk, ln, sk, sh, os, de, re, le, so, od) (nI c) (nI e) := by
  unfold wpX_depends
  refine xe_cell hN hc (br_f (by decide) (xe_cell hN he (br_f (by decide) (xr_reaches (by omega) (by omega) (fun _ => br_f (by decide) h) (fun z => ?_)))))
  rw [hb] at z
  exact Bool.noConfusion z
theorem sp_n0 {s : Nat → Nat} {d : Nat} (hd : 1 ≤ d) (h : ∀ j, j < d → s j ≤ 15) : sp_s s d / 16 ^ 0 % 16 = s (d - 1) := by
  obtain ⟨e, rfl⟩ : ∃ e, d = e + 1 := ⟨d - 1, by omega⟩
  have := h e (by omega)
  rw [sp_e, Nat.pow_zero, Nat.div_one, Nat.add_sub_cancel]
  omega
theorem sp_n1 {s : Nat → Nat} {d : Nat} (hd : 2 ≤ d) (h : ∀ j, j < d → s j ≤ 15) : sp_s s d / 16 ^ 1 % 16 = s (d - 2) := by
  obtain ⟨e, rfl⟩ : ∃ e, d = e + 2 := ⟨d - 2, by omega⟩
  have h1 := h e (by omega)
  have h2 := h (e + 1) (by omega)
  rw [sp_e, sp_e, Nat.pow_one, Nat.add_sub_cancel]
  omega
theorem sp_dv {s : Nat → Nat} {d : Nat} (hd : 2 ≤ d) (h : ∀ j, j < d → s j ≤ 15) : sp_s s d / 256 = sp_s s (d - 2) := by
  obtain ⟨e, rfl⟩ : ∃ e, d = e + 2 := ⟨d - 2, by omega⟩
  have h1 := h e (by omega)
  have h2 := h (e + 1) (by omega)
  rw [sp_e, sp_e, Nat.add_sub_cancel]
  omega
theorem sp_put (s : Nat → Nat) (d v : Nat) : sp_s s d * 16 + v = sp_s (ls_up s d v) (d + 1) := by
  rw [sp_e, ls_us, sp_congr (s := ls_up s d v) (s' := s) d (fun j hj => ls_un (by omega))]
theorem sp_8 {s : Nat → Nat} {d : Nat} (hd : d ≤ 8) (h : ∀ j, j < d → s j ≤ 15) : sp_s s d < 16 ^ 8 := Nat.lt_of_lt_of_le (sp_lt d h) (Nat.pow_le_pow_right (by omega) hd)
theorem mp_62 {w : Nat → Nat} {N : Nat} (hN : N ≤ 12) (h : ∀ c, c < N → w c ≤ 15) : mp_w w N < 2 ^ 62 := Nat.lt_of_lt_of_le (mp_lt N h) (Nat.le_trans (Nat.pow_le_pow_right (by omega) hN) (by decide))
theorem le_672 {L : Nat} {xs : Nat → Int32} {N T : Nat} {t l : Nat → Nat} {x5 x6 x7 x8 x11 x12 x13 x14 dd ed : Int32} {x9 : Int64} {kc ks : Nat} {sk sh os de re le so od : Nat → Int32} {post : Int32 → Prop} {J112 : Int32 → Int32 → Int32 → Int32 → Int64 → Int32 → Int32 → Int32 → Int32 → Int32 → (Nat → Int32) → (Nat → Int32) → (Nat → Int32) → (Nat → Int32) → (Nat → Int32) → (Nat → Int32) → (Nat → Int32) → (Nat → Int32) → (Nat → Int32) → (Nat → Int32) → Prop} {c : Nat} {w : Nat → Nat} {x17 x18 : Int32} {J615 J634 : Int64 → Int32 → Int32 → Prop} (hN : N ≤ 12) (hT : T ≤ 15) (hw : ls_wf N T (l c) (ls_kd t c) (ls_ar t c)) (hc : c < N) (hb : ∀ d, d < N → w d ≤ T) (hle : w c ≤ ls_F T t l w c) (K1 : ls_F T t l w c = w c → J634 (lN (mp_w w N)) x17 (nI (c + 1))) (K2 : ¬ ls_F T t l w c = w c → J634 (lN (mp_w (ls_up w c (ls_F T t l w c)) N)) 1 (nI (c + 1))) : ∀ (m i n : Nat), i + m = l c → m < n → wL_law_672 post L xs J112 J615 J634 (nI N) (nI T) x5 x6 x7 x8 x9 x11 x12 x13 x14 (lN (mp_w w N)) x17 x18 (nI c) (nI (l c)) kc ks (nI N) (nI T) dd ed (ls_I t) (ls_I l) sk sh os de re le so od n (lN (sp_s (ls_st T w (ls_kd t c) (ls_ar t c) i) (ls_dp (ls_kd t c) i))) (nI (ls_dp (ls_kd t c) i)) (nI i) := by
  have h8 := hw.1.1
  have hb15 : ∀ d, d < N → w d ≤ 15 := fun d hd => Nat.le_trans (hb d hd) hT
  have hm62 := mp_62 hN hb15
  intro m
  induction m with
  | zero =>
    intro i n hi hn
    obtain ⟨n, rfl⟩ : ∃ k, n = k + 1 := ⟨n - 1, by omega⟩
    have e : i = l c := by omega
    subst e
    have hF : ls_F T t l w c ≤ T := ls_ev_le hw hb
    have e0 : sp_s (ls_st T w (ls_kd t c) (ls_ar t c) (l c)) (ls_dp (ls_kd t c) (l c)) = ls_F T t l w c := by
      rw [hw.2]
      show 0 * 16 + ls_st T w (ls_kd t c) (ls_ar t c) (l c) 0 = _
      rw [Nat.zero_mul, Nat.zero_add]
      rfl
    rw [e0, hw.2]
    refine br_t (nI_le (by omega) (by omega)) (br_t rfl (la_nib (c := 0) (by omega) (by omega) (la_nib (c := c) hm62 (by omega) ?_)))
    rw [mp_at N hb15 c hc, Nat.pow_zero, Nat.div_one, Nat.mod_eq_of_lt (by omega)]
    refine nm_r (pk_sub hle) (pk_eq (ls_F T t l w c - w c) 0 (fun z => nm_r (nI_1 c) (K1 (by omega))) (fun z => nm_r ?_ (nm_r (nI_1 c) (K2 (by omega)))))
    rw [nI_l (by omega), show 4 * nI c = nI (4 * c) from pk_mul 4 c, wb_shl _ (by omega), lN_add, la_16]
    have u := mp_up (w := w) (c := c) (v := ls_F T t l w c) N hc
    rw [Nat.sub_mul]
    have g : w c * 16 ^ c ≤ ls_F T t l w c * 16 ^ c := Nat.mul_le_mul_right _ hle
    exact congrArg lN (by omega)
  | succ m ih =>
    intro i n hi hn
    obtain ⟨n, rfl⟩ : ∃ k, n = k + 1 := ⟨n - 1, by omega⟩
    have ⟨h5, ha, h6, hi8, hsh, href⟩ := xe_tok hN hT hw.1 (i := i) (by omega)
    have ⟨ht, _⟩ := hw.1.2 i (by omega)
    have hd := ls_dp_le (ls_kd t c) i
    have hst : ∀ j, j < ls_dp (ls_kd t c) i → ls_st T w (ls_kd t c) (ls_ar t c) i j ≤ T := ls_st_le hw.1 hb i (by omega)
    have hs15 : ∀ j, j < ls_dp (ls_kd t c) i → ls_st T w (ls_kd t c) (ls_ar t c) i j ≤ 15 := fun j hj => Nat.le_trans (hst j hj) hT
    have hs8 := sp_8 (by omega) hs15
    have hs62 : sp_s (ls_st T w (ls_kd t c) (ls_ar t c) i) (ls_dp (ls_kd t c) i) < 2 ^ 62 := Nat.lt_of_lt_of_le hs8 (by decide)
    have ihd := ih (i + 1) n (by omega) (by omega)
    refine br_f (nI_ge (by omega) (by omega)) (lx_tok hN hc h8 (by omega) (br_f (nI_pos (by omega)) (br_t (nI_lt (b := 600) h6 (by decide)) ⟨by decide, nm_r (e' := nI (ls_kd t c i)) (pk_div (d := 100) (by omega) (by omega) (by omega)) ⟨by decide, nm_r (e' := nI (ls_ar t c i)) (pk_rem (d := 100) (by omega) (by omega) (by omega)) (pk_le 2 _ (fun h2 => ?_) (fun h2 => ?_))⟩⟩)))
    · have hk : ¬ ls_kd t c i < 2 := by omega
      have d2 := hsh h2
      have op805 : wL_law_805 post L xs J112 J615 J634 (wL_law_672 post L xs J112 J615 J634 (nI N) (nI T) x5 x6 x7 x8 x9 x11 x12 x13 x14 (lN (mp_w w N)) x17 x18 (nI c) (nI (l c)) kc ks (nI N) (nI T) dd ed (ls_I t) (ls_I l) sk sh os de re le so od n) (nI N) (nI T) x5 x6 x7 x8 x9 x11 x12 x13 x14 (lN (mp_w w N)) x17 x18 (nI c) (nI (l c)) (lN (sp_s (ls_st T w (ls_kd t c) (ls_ar t c) i) (ls_dp (ls_kd t c) i))) (nI (ls_dp (ls_kd t c) i)) (nI i) (nI (ls_kd t c i)) (nI (ls_ar t c i)) kc ks (nI N) (nI T) dd ed (ls_I t) (ls_I l) sk sh os de re le so od := by
        unfold wL_law_805
        refine la_nib (c := 1) hs62 (by omega) (la_nib (c := 0) hs62 (by omega) ?_)
        rw [sp_n1 d2 hs15, sp_n0 (by omega) hs15]
        refine la_op hT ha (hst _ (by omega)) (hst _ (by omega)) h2 h5 ?_
        have hcm : ls_cmb T (ls_kd t c i) (ls_ar t c i) (ls_st T w (ls_kd t c) (ls_ar t c) i (ls_dp (ls_kd t c) i - 2)) (ls_st T w (ls_kd t c) (ls_ar t c) i (ls_dp (ls_kd t c) i - 1)) ≤ T := ls_cmb_le (hst _ (by omega)) (hst _ (by omega))
        have hlow : sp_s (ls_st T w (ls_kd t c) (ls_ar t c) i) (ls_dp (ls_kd t c) i - 2) < 16 ^ 8 := sp_8 (by omega) (fun j hj => hs15 j (by omega))
        rw [la_pop hs8, sp_dv d2 hs15, la_put hlow (by omega), sp_put, show ls_dp (ls_kd t c) i - 2 + 1 = ls_dp (ls_kd t c) i - 1 by omega, ← ls_st_b hk]
        rw [ls_dp_b hk] at ihd
        refine nm_e (nm_r (e' := nI (ls_dp (ls_kd t c) i - 1)) ?_ (nm_r (nI_1 i) ihd))
        rw [show ls_dp (ls_kd t c) i = (ls_dp (ls_kd t c) i - 1) + 1 by omega]
        exact pk_m1 _
      refine br_f (nI_nlt (b := 2) d2 (by omega)) (pk_eq _ 5 (fun k5 => ?_) (fun _ => op805))
      have ⟨a1, a2⟩ := ht.2.2.2.2 k5
      exact br_f (nI_nlt (b := 1) a1 (by omega)) (br_t (nI_le a2 (by omega)) op805)
    · have hk : ls_kd t c i < 2 := by omega
      have fin : ∀ v : Nat, v = (if ls_kd t c i = 1 then w (ls_ar t c i) else ls_ar t c i) → v ≤ T → wL_law_672 post L xs J112 J615 J634 (nI N) (nI T) x5 x6 x7 x8 x9 x11 x12 x13 x14 (lN (mp_w w N)) x17 x18 (nI c) (nI (l c)) kc ks (nI N) (nI T) dd ed (ls_I t) (ls_I l) sk sh os de re le so od n ((lN (sp_s (ls_st T w (ls_kd t c) (ls_ar t c) i) (ls_dp (ls_kd t c) i)) <<< ((4 : Int32).toInt64 &&& 63)) ||| (nI v).toInt64) (nI (ls_dp (ls_kd t c) i) + 1) (nI i + 1) := by
        intro v ev hv
        rw [la_put hs8 (by omega), nI_1, nI_1, sp_put, ev, ← ls_st_a hk, ← ls_dp_a hk]
        exact ihd
      refine pk_eq _ 0 (fun k0 => ?_) (fun k0 => ?_)
      · have a1 := ht.2.1 k0
        exact br_t (nI_le a1 (by omega)) (br_t (by rw [k0]; rfl) (nm_e (nm_e (nm_e (fin _ (by rw [if_neg (by omega)]) a1)))))
      · have k1 : ls_kd t c i = 1 := by omega
        have a1 := href k1
        refine br_t (nI_lt a1 (by omega)) (br_f (by rw [k1]; decide) (la_nib hm62 (by omega) ?_))
        rw [mp_at N hb15 _ a1]
        exact nm_e (nm_e (nm_e (fin _ (by rw [if_pos k1]) (hb _ a1))))
theorem le_634 {L : Nat} {xs : Nat → Int32} {N T : Nat} {t l : Nat → Nat} {x5 x6 x7 x8 x11 x12 x13 x14 dd ed : Int32} {x9 : Int64} {kc ks : Nat} {sk sh os de re le so od : Nat → Int32} {post : Int32 → Prop} {J112 : Int32 → Int32 → Int32 → Int32 → Int64 → Int32 → Int32 → Int32 → Int32 → Int32 → (Nat → Int32) → (Nat → Int32) → (Nat → Int32) → (Nat → Int32) → (Nat → Int32) → (Nat → Int32) → (Nat → Int32) → (Nat → Int32) → (Nat → Int32) → (Nat → Int32) → Prop} {w0 : Nat → Nat} {x18 : Int32} {J615 : Int64 → Int32 → Int32 → Prop} (hN : N ≤ 12) (hT : T ≤ 15) (hw : ls_all N T t l) (K : ∀ (mv : Int32) (w : Nat → Nat), xv_I N T (ls_F T t l) w0 N w mv → J615 (lN (mp_w w N)) mv (x18 + 1)) : ∀ (m c n : Nat) (w : Nat → Nat) (mv : Int32), c + m = N → m < n → xv_I N T (ls_F T t l) w0 c w mv → wL_law_634 post L xs J112 J615 (nI N) (nI T) x5 x6 x7 x8 x9 x11 x12 x13 x14 x18 kc ks (nI N) (nI T) dd ed (ls_I t) (ls_I l) sk sh os de re le so od n (lN (mp_w w N)) mv (nI c) := by
  have ok := ls_F_ok hw
  intro m
  induction m with
  | zero =>
    intro c n w mv hc hn hv
    obtain ⟨n, rfl⟩ : ∃ k, n = k + 1 := ⟨n - 1, by omega⟩
    have e : c = N := by omega
    subst e
    exact br_t (nI_le (by omega) (by omega)) (nm_e (K mv w hv))
  | succ m ih =>
    intro c n w mv hc hn hv
    obtain ⟨n, rfl⟩ : ∃ k, n = k + 1 := ⟨n - 1, by omega⟩
    have hcN : c < N := by omega
    have h1 := ls_wf_pos (hw c hcN)
    have h8 := (hw c hcN).1.1
    refine br_f (nI_ge (by omega) (by omega)) (lx_len hN hcN (br_f (nI_nlt (b := 1) h1 (by omega)) (br_t (nI_le (b := 8) h8 (by decide)) ⟨l c + 1, ?_⟩)))
    refine le_672 hN hT (hw c hcN) hcN hv.1.1 (hv.1.2.1 c hcN) (fun z => ?_) (fun z => ?_) (l c) 0 (l c + 1) (by omega) (by omega)
    · have s := ih (c + 1) n _ mv (by omega) (by omega) (xv_step ok hv hcN (fun q => ⟨q, z⟩))
      rw [mp_congr (w := ls_up w c (ls_F T t l w c)) (w' := w) N (fun d hd => by
        by_cases e : d = c
        · rw [e, ls_us, z]
        · rw [ls_un e])] at s
      exact s
    · exact ih (c + 1) n _ 1 (by omega) (by omega) (xv_step ok hv hcN (fun q => absurd q (by decide)))
theorem le_910 {L : Nat} {xs : Nat → Int32} {N T : Nat} {t l : Nat → Nat} {x5 x6 x7 x8 x11 x12 x13 x14 dd ed : Int32} {x9 : Int64} {kc ks : Nat} {sk sh os de re le so od : Nat → Int32} {post : Int32 → Prop} {J112 : Int32 → Int32 → Int32 → Int32 → Int64 → Int32 → Int32 → Int32 → Int32 → Int32 → (Nat → Int32) → (Nat → Int32) → (Nat → Int32) → (Nat → Int32) → (Nat → Int32) → (Nat → Int32) → (Nat → Int32) → (Nat → Int32) → (Nat → Int32) → (Nat → Int32) → Prop} {w w0 : Nat → Nat} (hN : N ≤ 12) (hT : T ≤ 15) (hb : ∀ c, c < N → w c ≤ T) (hb0 : ∀ c, c < N → w0 c ≤ T) (hs : ∀ c, c < N → sh c = nI (w c)) (h9 : x9 = lN (mp_w w0 N)) (ha : ¬ x13 = 0 → ∀ c, c < N → de c = nI (w c) - nI (w0 c) ∧ (¬ nI c = x14 → ¬ w c = w0 c → ∃ e, e < N ∧ x14 = nI e ∧ bt (re c) e = true)) (K : J112 x5 x6 x7 x8 (lN (mp_w w N)) (x12 + 1) (nI N) (nI T) dd ed (ls_I t) (ls_I l) sk sh os de re le so od) : ∀ (m c n : Nat), c + m = N → m < n → wL_law_910 post L xs J112 (nI N) (nI T) x5 x6 x7 x8 x9 x11 x12 x13 x14 (lN (mp_w w N)) kc ks (nI N) (nI T) dd ed (ls_I t) (ls_I l) sk sh os de re le so od n (nI c) := by
  have hb15 : ∀ d, d < N → w d ≤ 15 := fun d hd => Nat.le_trans (hb d hd) hT
  have hb015 : ∀ d, d < N → w0 d ≤ 15 := fun d hd => Nat.le_trans (hb0 d hd) hT
  have hm := mp_62 hN hb15
  have hm0 := mp_62 hN hb015
  subst h9
  intro m
  induction m with
  | zero =>
    intro c n hc hn
    obtain ⟨n, rfl⟩ : ∃ k, n = k + 1 := ⟨n - 1, by omega⟩
    exact br_t (nI_le (by omega) (by omega)) (nm_e K)
  | succ m ih =>
    intro c n hc hn
    obtain ⟨n, rfl⟩ : ∃ k, n = k + 1 := ⟨n - 1, by omega⟩
    have hcN : c < N := by omega
    have ihd := ih (c + 1) n (by omega) (by omega)
    refine br_f (nI_ge (by omega) (by omega)) (xe_val hN hcN (la_nib hm (by omega) ?_))
    rw [mp_at N hb15 c hcN]
    refine br_t (hs c hcN) ?_
    by_cases hx : x13 = 0
    · exact br_t hx (nm_r (nI_1 c) ihd)
    have ⟨a1, a2⟩ := ha hx c hcN
    refine br_f hx (la_nib hm (by omega) (la_nib hm0 (by omega) ?_))
    rw [mp_at N hb15 c hcN, mp_at N hb015 c hcN]
    refine nm_e (lx_delta hN hcN (br_t a1 (br_c (fun _ => nm_r (nI_1 c) ihd) (fun z => br_c (fun _ => nm_r (nI_1 c) ihd) (fun y => ?_)))))
    obtain ⟨e, he, rfl, hbit⟩ := a2 z (fun q => y (by rw [q, Int32.sub_self]))
    exact lx_dep hN hcN he hbit (br_f (by decide) (nm_r (nI_1 c) ihd))
theorem le_615 {L : Nat} {xs : Nat → Int32} {N T : Nat} {t l : Nat → Nat} {x5 x6 x7 x8 x11 x12 x13 x14 dd ed : Int32} {x9 : Int64} {kc ks : Nat} {sk sh os de re le so od : Nat → Int32} {post : Int32 → Prop} {J112 : Int32 → Int32 → Int32 → Int32 → Int64 → Int32 → Int32 → Int32 → Int32 → Int32 → (Nat → Int32) → (Nat → Int32) → (Nat → Int32) → (Nat → Int32) → (Nat → Int32) → (Nat → Int32) → (Nat → Int32) → (Nat → Int32) → (Nat → Int32) → (Nat → Int32) → Prop} {w1 w0 : Nat → Nat} (hN : N ≤ 12) (hT : T ≤ 15) (hw : ls_all N T t l) (hl : lf_least N T (ls_F T t l) w1) (hb0 : ∀ c, c < N → w0 c ≤ T) (hs : ∀ c, c < N → sh c = nI (w1 c)) (h9 : x9 = lN (mp_w w0 N)) (ha : ¬ x13 = 0 → ∀ c, c < N → de c = nI (w1 c) - nI (w0 c) ∧ (¬ nI c = x14 → ¬ w1 c = w0 c → ∃ e, e < N ∧ x14 = nI e ∧ bt (re c) e = true)) (K : J112 x5 x6 x7 x8 (lN (mp_w w1 N)) (x12 + 1) (nI N) (nI T) dd ed (ls_I t) (ls_I l) sk sh os de re le so od) : ∀ (m r n : Nat) (w : Nat → Nat) (mv : Int32), r + m = 200 → m < n → lf_R N T (ls_F T t l) r w → (mv = 0 → ∀ d, d < N → ls_F T t l w d = w d) → wL_law_615 post L xs J112 (nI N) (nI T) x5 x6 x7 x8 x9 x11 x12 x13 x14 kc ks (nI N) (nI T) dd ed (ls_I t) (ls_I l) sk sh os de re le so od n (lN (mp_w w N)) mv (nI r) := by
  have ok := ls_F_ok hw
  have hNT := Nat.mul_le_mul hN hT
  have fin : ∀ w : Nat → Nat, lf_least N T (ls_F T t l) w → ∃ fu : Nat, wL_law_910 post L xs J112 (nI N) (nI T) x5 x6 x7 x8 x9 x11 x12 x13 x14 (lN (mp_w w N)) kc ks (nI N) (nI T) dd ed (ls_I t) (ls_I l) sk sh os de re le so od fu 0 := by
    intro w hwl
    rw [mp_congr N (lf_uniq hwl hl)]
    exact ⟨N + 1, le_910 hN hT hl.1.1 hb0 hs h9 ha K N 0 (N + 1) (by omega) (by omega)⟩
  intro m
  induction m with
  | zero =>
    intro r n w mv hr hn hv hm
    obtain ⟨n, rfl⟩ : ∃ k, n = k + 1 := ⟨n - 1, by omega⟩
    by_cases h0 : mv = 0
    · exact br_t h0 (fin w (lf_end hv.1 (hm h0)))
    · exact br_f h0 (br_t (nI_le (a := 200) (by omega) (by omega)) (fin w (lf_done ok hv (by omega))))
  | succ m ih =>
    intro r n w mv hr hn hv hm
    obtain ⟨n, rfl⟩ : ∃ k, n = k + 1 := ⟨n - 1, by omega⟩
    by_cases h0 : mv = 0
    · exact br_t h0 (fin w (lf_end hv.1 (hm h0)))
    · refine br_f h0 (br_f (nI_ge (b := 200) (by omega) (by decide)) ⟨N + 1, ?_⟩)
      refine le_634 hN hT hw (fun mv' w' hv' => ?_) N 0 (N + 1) w 0 (by omega) (by omega) (xv_I0 hv.1)
      rw [nI_1]
      refine ih (r + 1) n w' mv' (by omega) (by omega) (lf_round ok hv hv'.1 hv'.2.2.1) (fun z => ?_)
      have ⟨a, b⟩ := hv'.2.2.2 z
      exact lf_sol_congr ok (fun c hc => (a c hc).symm) b
/-- the whole check behind a step -/
theorem le_chk {L : Nat} {xs : Nat → Int32} {N T : Nat} {t l : Nat → Nat} {x5 x6 x7 x8 x11 x12 x13 x14 dd ed : Int32} {x9 : Int64} {kc ks : Nat} {sk sh os de re le so od : Nat → Int32} {post : Int32 → Prop} {J112 : Int32 → Int32 → Int32 → Int32 → Int64 → Int32 → Int32 → Int32 → Int32 → Int32 → (Nat → Int32) → (Nat → Int32) → (Nat → Int32) → (Nat → Int32) → (Nat → Int32) → (Nat → Int32) → (Nat → Int32) → (Nat → Int32) → (Nat → Int32) → (Nat → Int32) → Prop} {w1 w0 : Nat → Nat} (hN : N ≤ 12) (hT : T ≤ 15) (hw : ls_all N T t l) (hl : lf_least N T (ls_F T t l) w1) (hb0 : ∀ c, c < N → w0 c ≤ T) (hs : ∀ c, c < N → sh c = nI (w1 c)) (h9 : x9 = lN (mp_w w0 N)) (ha : ¬ x13 = 0 → ∀ c, c < N → de c = nI (w1 c) - nI (w0 c) ∧ (¬ nI c = x14 → ¬ w1 c = w0 c → ∃ e, e < N ∧ x14 = nI e ∧ bt (re c) e = true)) (K : J112 x5 x6 x7 x8 (lN (mp_w w1 N)) (x12 + 1) (nI N) (nI T) dd ed (ls_I t) (ls_I l) sk sh os de re le so od) : ∃ fu : Nat, wL_law_615 post L xs J112 (nI N) (nI T) x5 x6 x7 x8 x9 x11 x12 x13 x14 kc ks (nI N) (nI T) dd ed (ls_I t) (ls_I l) sk sh os de re le so od fu 0 1 0 := by
  refine ⟨201, ?_⟩
  have h := le_615 (post := post) (L := L) (xs := xs) (kc := kc) (ks := ks) (x11 := x11) hN hT hw hl hb0 hs h9 ha K 200 0 201 (fun _ => 0) 1 (by omega) (by omega) (lf_R0 (lf_inv0 (fun _ _ => rfl))) (fun z => absurd z (by decide))
  rw [mp_0] at h
  exact h
end
section
/-! what the law's steps do to the sheet -/
theorem lf_FC {N T : Nat} {F F' : (Nat → Nat) → Nat → Nat} {w : Nat → Nat} (h : ∀ w c, c < N → F w c = F' w c) (l : lf_least N T F w) : lf_least N T F' w :=
  ⟨⟨l.1.1, fun c hc => by rw [← h w c hc]; exact l.1.2 c hc⟩, fun v hv c hc => l.2 v ⟨hv.1, fun c hc => by rw [h v c hc]; exact hv.2 c hc⟩ c hc⟩
/-- the sheet as the law knows it: formulas and draft well formed, the least solution shown -/
def pc_P (N T : Nat) (t l : Nat → Nat) (sh : Nat → Int32) (w : Nat → Nat) : Prop := ls_all N T t l ∧ ls_dr N T (l 12) (ls_kd t 12) (ls_ar t 12) ∧ (∀ c, c < N → sh c = nI (w c)) ∧ lf_least N T (ls_F T t l) w
/-- what an edit of e from w0 to w leaves -/
def pc_E (N : Nat) (de re : Nat → Int32) (w w0 : Nat → Nat) (e : Int32) : Prop := ∀ c, c < N → de c = nI (w c) - nI (w0 c) ∧ (¬ nI c = e → ¬ w c = w0 c → ∃ d, d < N ∧ e = nI d ∧ bt (re c) d = true)
theorem pc_low {N T : Nat} {t t' l l' w : Nat → Nat} {sh : Nat → Int32} (hN : N ≤ 12) (P : pc_P N T t l sh w) (ht : ∀ j, j < 96 → t j = t' j) (hl : ∀ c, c < N → l c = l' c) (hd : ls_dr N T (l' 12) (ls_kd t' 12) (ls_ar t' 12)) : pc_P N T t' l' sh w := by
  refine ⟨ls_all_low hN ht hl P.1, hd, P.2.2.1, lf_FC (fun w c hc => ?_) P.2.2.2⟩
  have h8 := (P.1 c hc).1.1
  exact lo_F (hl c hc) (fun i hi => ht _ (by omega)) (fun _ _ => rfl)
theorem px_push {N T : Nat} {t l w : Nat → Nat} {ed : Int32} {sk sh os de re le so od : Nat → Int32} {v1 v2 : Int32} {post : Int32 → St2 → Prop} (hN : N ≤ 12) (hT : T ≤ 15) (P : pc_P N T t l sh w) (hp : ∀ (r : Int32) (t l : Nat → Nat), pc_P N T t l sh w → post r (nI N, nI T, nI (ls_dp (ls_kd t 12) (l 12)), ed, ls_I t, ls_I l, sk, sh, os, de, re, le, so, od)) : wpX_push post (nI N, nI T, nI (ls_dp (ls_kd t 12) (l 12)), ed, ls_I t, ls_I l, sk, sh, os, de, re, le, so, od) v1 v2 := by
  have hd := P.2.1
  by_cases g0 : v1 < 0
  · exact br_t g0 (hp 1 t l P)
  by_cases g5 : v1 ≤ 5
  rotate_left
  · exact br_f g0 (br_f g5 (hp 1 t l P))
  obtain ⟨q, hq, rfl⟩ := nI_of2 (M := 5) (n := 5) (by decide) g0 g5
  by_cases h8 : l 12 < 8
  rotate_left
  · have n8 : ¬ ls_I l 12 < 8 := nI_nlt (b := 8) (by omega) (by have := hd.1; omega)
    exact br_f g0 (br_t g5 (nm_e (br_f n8 (hp 2 t l P))))
  have y8 : ls_I l 12 < 8 := nI_lt (b := 8) h8 (by decide)
  have hdp := ls_dp_le (ls_kd t 12) (l 12)
  refine br_f g0 (br_t g5 (nm_r (e' := nI (l 12)) rfl (br_t y8 (xp_arg hq (fun hg => ?_) (fun hg => br_t rfl (hp 3 t l P))))))
  refine br_f (by decide) ?_
  obtain ⟨a, ha1, htok, hkept⟩ := rl_arg_tok hN hT hq hg
  have acc : ∀ (x4 : Int32) (dd' : Int32), (2 ≤ q → 2 ≤ ls_dp (ls_kd t 12) (l 12)) → dd' = nI (if q < 2 then ls_dp (ls_kd t 12) (l 12) + 1 else ls_dp (ls_kd t 12) (l 12) - 1) → ((x4 = 0 → dd' = nI (ls_dp (ls_kd t 12) (l 12)) + (-1)) ∧ (¬ x4 = 0 → dd' = nI (ls_dp (ls_kd t 12) (l 12)) + 1)) → wX_push_59 post (nI q) v2 (nI (l 12)) x4 (nI N) (nI T) (nI (ls_dp (ls_kd t 12) (l 12))) ed (ls_I t) (ls_I l) sk sh os de re le so od := by
    intro x4 dd' hsh hdd h4
    have R := rl_push hd h8 htok ha1 hsh
    have P' : pc_P N T (ls_up t (96 + l 12) (100 * q + a)) (ls_up l 12 (l 12 + 1)) sh w := pc_low hN P (fun j hj => (ls_un (by omega)).symm) (fun c hc => (ls_un (by omega)).symm) R.1
    refine xp_59 hq ?_
    rw [hkept]
    refine xp_91 h8 h4 ?_
    rw [hdd, ← R.2]
    exact hp 0 _ _ P'
  refine xe_op (by omega) (fun z => ?_) (fun z => ?_)
  · exact br_f (by decide) (acc 1 _ (by omega) rfl ⟨fun y => absurd y (by decide), fun _ => by rw [if_pos z, nI_1]⟩)
  · refine br_t rfl (pk_le 2 _ (fun y => acc 0 _ (fun _ => y) rfl ⟨fun _ => ?_, fun y => absurd rfl y⟩) (fun y => hp 4 t l P))
    rw [if_neg z]
    rw [show nI (ls_dp (ls_kd t 12) (l 12)) = nI ((ls_dp (ls_kd t 12) (l 12) - 1) + 1) by rw [show (ls_dp (ls_kd t 12) (l 12) - 1) + 1 = ls_dp (ls_kd t 12) (l 12) by omega]]
    exact (pk_m1 _).symm
theorem px_drop {N T : Nat} {t l w : Nat → Nat} {ed : Int32} {sk sh os de re le so od : Nat → Int32} {post : St2 → Prop} (hN : N ≤ 12) (P : pc_P N T t l sh w) (hp : ∀ (t l : Nat → Nat), pc_P N T t l sh w → post (nI N, nI T, nI (ls_dp (ls_kd t 12) (l 12)), ed, ls_I t, ls_I l, sk, sh, os, de, re, le, so, od)) : wpX_dropDraft post (nI N, nI T, nI (ls_dp (ls_kd t 12) (l 12)), ed, ls_I t, ls_I l, sk, sh, os, de, re, le, so, od) := by
  refine nm_r (e' := ls_I (ls_up l 12 0)) ls_Iup ?_
  have P' : pc_P N T t (ls_up l 12 0) sh w := pc_low hN P (fun _ _ => rfl) (fun c hc => (ls_un (by omega)).symm) (by rw [ls_us]; exact ls_dr0 _ _)
  have h := hp t (ls_up l 12 0) P'
  rw [ls_us] at h
  exact h
theorem pe_mk {N T e : Nat} {t t' l l' w w' : Nat → Nat} {sh sh' de' re' le' od' : Nat → Int32} (P : pc_P N T t l sh w) (A' : ls_all N T t' l') (same : ∀ c, c < N → c ≠ e → l c = l' c ∧ ∀ i, i < l c → t (8 * c + i) = t' (8 * c + i)) (he : e < N) (x1 : ∀ d, d < N → sh' d = nI (w' d)) (x2 : lf_least N T (ls_F T t' l') w') (x3 : ∀ d, d < N → de' d = sh' d - sh d) (x4 : xs_ok N (wa_S (de_Ub N t' l') N) re' le' od') : pc_E N de' re' w' w (nI e) := by
  intro c hc
  refine ⟨by rw [x3 c hc, x1 c hc, P.2.2.1 c hc], fun z y => ⟨e, he, rfl, ?_⟩⟩
  rw [x4.1 c e hc he]
  cases q : wa_S (de_Ub N t' l') N c e
  · exact absurd (lo_same P.1 A' same P.2.2.2 x2 c hc (fun h => z (by rw [h])) q) y
  · rfl
theorem px_set {N T : Nat} {t l w : Nat → Nat} {ed : Int32} {sk sh os de re le so od : Nat → Int32} {v1 v2 : Int32} {post : Int32 → St2 → Prop} (hN : N ≤ 12) (hT : T ≤ 15) (P : pc_P N T t l sh w) (h0 : ∀ r : Int32, ¬ r = 0 → post r (nI N, nI T, nI (ls_dp (ls_kd t 12) (l 12)), ed, ls_I t, ls_I l, sk, sh, os, de, re, le, so, od)) (h1 : ∀ (t l : Nat → Nat) (ed : Int32) (sk sh os de re le so od : Nat → Int32) (w' : Nat → Nat), pc_P N T t l sh w' → pc_E N de re w' w v1 → post 0 (nI N, nI T, nI (ls_dp (ls_kd t 12) (l 12)), ed, ls_I t, ls_I l, sk, sh, os, de, re, le, so, od)) : wpX_setInput post (nI N, nI T, nI (ls_dp (ls_kd t 12) (l 12)), ed, ls_I t, ls_I l, sk, sh, os, de, re, le, so, od) v1 v2 := by
  unfold wpX_setInput
  rcases rl_ix v1 hN with h | ⟨c, hc, rfl⟩
  · exact xe_ncell h (br_t rfl (h0 5 (by decide)))
  refine xe_cell hN hc (br_f (by decide) (xp_arg (k := 0) (by omega) (fun hg => ?_) (fun hg => br_t rfl (h0 3 (by decide)))))
  have ⟨a1, a2⟩ := hg.1 rfl
  obtain ⟨x, hx, rfl⟩ := nI_of a1
  have hxT : x ≤ T := by rw [nI_ltI (by omega) hx] at a2; omega
  have ⟨A', d', p'⟩ := rl_set hN hT hc hxT P.1 P.2.1
  have e1 : nI c * 8 = nI (8 * c) := by rw [Nat.mul_comm]; exact pk_mul c 8
  have i1 : vp_in (nI c * 8) 104 := by rw [e1]; exact vp_in_nI (by omega) (by decide)
  have i2 : vp_in (nI c) 13 := vp_in_nI (by omega) (by decide)
  have et : upd (ls_I t) (nI c * 8).toNatClampNeg (0 + nI x) = ls_I (ls_up t (8 * c) x) := by rw [e1, nI_clamp (by omega), Int32.zero_add, ls_Iup]
  have el : upd (ls_I l) (nI c).toNatClampNeg 1 = ls_I (ls_up l c 1) := by rw [nI_clamp (by omega)]; exact ls_Iup (x := 1)
  refine br_f (by decide) ⟨i1, nm_r et ⟨i2, nm_r el (xt_settle hN hT A' (fun sk' sh' os' de' re' le' so' od' w' x1 x2 x3 x4 => ?_))⟩⟩
  rw [← p']
  refine h1 _ _ _ sk' sh' os' de' re' le' so' od' w' ⟨A', d', x1, x2⟩ (pe_mk P A' (fun c' hc' hne => ?_) hc x1 x2 x3 x4)
  have h8 := (P.1 c' hc').1.1
  exact ⟨(ls_un hne).symm, fun i hi => (ls_un (by omega)).symm⟩
theorem px_com {N T : Nat} {t l w : Nat → Nat} {ed : Int32} {sk sh os de re le so od : Nat → Int32} {v1 : Int32} {post : Int32 → St2 → Prop} (hN : N ≤ 12) (hT : T ≤ 15) (P : pc_P N T t l sh w) (h0 : ∀ r : Int32, ¬ r = 0 → post r (nI N, nI T, nI (ls_dp (ls_kd t 12) (l 12)), ed, ls_I t, ls_I l, sk, sh, os, de, re, le, so, od)) (h1 : ∀ (t l : Nat → Nat) (ed : Int32) (sk sh os de re le so od : Nat → Int32) (w' : Nat → Nat), pc_P N T t l sh w' → pc_E N de re w' w v1 → post 0 (nI N, nI T, nI (ls_dp (ls_kd t 12) (l 12)), ed, ls_I t, ls_I l, sk, sh, os, de, re, le, so, od)) : wpX_commit post (nI N, nI T, nI (ls_dp (ls_kd t 12) (l 12)), ed, ls_I t, ls_I l, sk, sh, os, de, re, le, so, od) v1 := by
  have hd := P.2.1
  have h8 := hd.1
  have hdp := ls_dp_le (ls_kd t 12) (l 12)
  unfold wpX_commit
  rcases rl_ix v1 hN with h | ⟨c, hc, rfl⟩
  · exact xe_ncell h (br_t rfl (h0 5 (by decide)))
  refine xe_cell hN hc (br_f (by decide) (pk_eq _ 1 (fun k1 => ?_) (fun k1 => h0 6 (by decide))))
  have A1 := rl_copy hN hc P.1 hd k1
  have A2 : ls_all N T (cp_t t c (l 12)) (ls_up (ls_up l c (l 12)) 12 0) := ls_all_low hN (fun _ _ => rfl) (fun c' hc' => (ls_un (by omega)).symm) A1
  refine nm_r (e' := nI (l 12)) rfl ⟨l 12 + 1, xc_draft (by omega) h8 ?_ (l 12) 0 (l 12 + 1) (by omega) (by omega)⟩
  refine nm_r (e' := ls_I (ls_up (ls_up l c (l 12)) 12 0)) ls_Iup (xt_settle hN hT A2 (fun sk' sh' os' de' re' le' so' od' w' x1 x2 x3 x4 => ?_))
  have E := pe_mk P A2 (fun c' hc' hne => by
    have h8' := (P.1 c' hc').1.1
    refine ⟨by rw [ls_un (by omega), ls_un hne], fun i hi => ?_⟩
    rw [cp_at (by omega) _ h8, if_neg (by omega)]) hc x1 x2 x3 x4
  have R := h1 (cp_t t c (l 12)) (ls_up (ls_up l c (l 12)) 12 0) (nI c) sk' sh' os' de' re' le' so' od' w' ⟨A2, by rw [ls_us]; exact ls_dr0 _ _, x1, x2⟩ E
  rw [ls_us] at R
  exact R
theorem in_clamp (x lo hi : Int32) {a b : Nat} (ea : lo = nI a) (eb : hi = nI b) (hab : a ≤ b) (hb : b < 2 ^ 31) : ∃ n : Nat, a ≤ n ∧ n ≤ b ∧ ∀ P : Int32 → Prop, P (nI n) → wpX_clamp P () x lo hi := by
  subst ea eb
  by_cases h1 : nI a ≤ x
  · by_cases h2 : x ≤ nI b
    · have h0 : ¬ x < 0 := Int32.not_lt.mpr (Int32.le_trans (nI_pos' (by omega)) h1)
      obtain ⟨j, hj, rfl⟩ := nI_of h0
      have h1' := h1
      rw [nI_leI hj hb] at h2
      rw [nI_leI (by omega) hj] at h1'
      exact ⟨j, h1', h2, fun P hp => br_t h1 (br_t (by rw [nI_leI hj hb]; exact h2) hp)⟩
    · exact ⟨b, hab, Nat.le_refl b, fun P hp => br_t h1 (br_f h2 hp)⟩
  · exact ⟨a, Nat.le_refl a, hab, fun P hp => br_f h1 hp⟩
theorem in_x {N T mc ms kc ks : Nat} {sk sh os de re le so od : Nat → Int32} {post : St2 → Prop} (hN : N ≤ 12) (hT : T ≤ 15) (hp : ∀ re le so od : Nat → Int32, post (nI N, nI T, 0, (-99), ls_I (fun _ => 0), ls_I (in_l 12), sk, sh, os, de, re, le, so, od)) : ∀ (m i n : Nat), i + m = 12 → m < n → wX_init_119 post mc ms kc ks n (nI i) (nI N) (nI T) 0 (-99) (ls_I (fun _ => 0)) (ls_I (in_l i)) sk sh os de re le so od := by
  intro m
  induction m with
  | zero =>
    intro i n hi hn
    obtain ⟨n, rfl⟩ : ∃ k, n = k + 1 := ⟨n - 1, by omega⟩
    have e : i = 12 := by omega
    subst e
    exact br_t (nI_le (a := 12) (by omega) (by omega)) (xs_struct hN hT (in_all hN) (fun re le so od _ => hp re le so od))
  | succ m ih =>
    intro i n hi hn
    obtain ⟨n, rfl⟩ : ∃ k, n = k + 1 := ⟨n - 1, by omega⟩
    have e1 : nI i * 8 = nI (8 * i) := by rw [Nat.mul_comm]; exact pk_mul i 8
    exact br_f (nI_ge (b := 12) (by omega) (by decide)) ⟨by rw [e1]; exact vp_in_nI (by omega) (by decide), nm_r (in_tup _) ⟨vp_in_nI (by omega) (by decide), nm_r (in_lup (by omega)) (nm_r (nI_1 i) (ih (i + 1) n (by omega) (by omega)))⟩⟩
theorem in_F {N T c : Nat} {w : Nat → Nat} (hN : N ≤ 12) (hc : c < N) : ls_F T (fun _ => 0) (in_l 12) w c = 0 := by
  have e : in_l 12 c = 1 := if_pos (by omega)
  unfold ls_F ls_ev
  rw [e, ls_st_a (i := 0) (by show 0 / 100 < 2; decide)]
  show ls_up _ 0 _ 0 = 0
  rw [ls_us, if_neg (by show ¬ (0 / 100 = 1); decide)]
  rfl
theorem in_P {N T : Nat} {sh : Nat → Int32} (hN : N ≤ 12) (hs : ∀ c, sh c = 0) : pc_P N T (fun _ => 0) (in_l 12) sh (fun _ => 0) :=
  ⟨in_all hN, ls_dr0 _ _, fun c _ => hs c, ⟨⟨fun _ _ => Nat.zero_le _, fun c hc => in_F hN hc⟩, fun _ _ _ _ => Nat.zero_le _⟩⟩
end
section
/-! a step of the law, and its loop -/
theorem la_pickE {post : Int32 → Prop} {x m : Int32} (n : Nat) (e : m = nI n) (hn : 0 < n) (hn2 : n < 2 ^ 31) (h : ∀ j, j < n → post (nI j)) : wpL_pick post () x m := by
  subst e
  exact la_pick hn hn2 h
theorem lm_446 {L : Nat} {xs : Nat → Int32} {N T k B : Nat} {t l w : Nat → Nat} {x6 x7 x8 x11 x12 ed : Int32} {x9 : Int64} {kc ks : Nat} {sk sh os de re le so od : Nat → Int32} {post : Int32 → Prop} {J112 : Int32 → Int32 → Int32 → Int32 → Int64 → Int32 → Int32 → Int32 → Int32 → Int32 → (Nat → Int32) → (Nat → Int32) → (Nat → Int32) → (Nat → Int32) → (Nat → Int32) → (Nat → Int32) → (Nat → Int32) → (Nat → Int32) → (Nat → Int32) → (Nat → Int32) → Prop} {x16 : Int32} (hL : L ≤ 260) (hN : N ≤ 12) (hN2 : 2 ≤ N) (hT : T ≤ 15) (hT1 : 1 ≤ T) (hB : B < 2 ^ 30) (P : pc_P N T t l sh w) (hk : k + 1 ≤ B) (CH : ∀ (k : Nat) (x6 x7 x8 x13 x14 : Int32) (t l : Nat → Nat) (ed : Int32) (sk sh os de re le so od : Nat → Int32) (w' : Nat → Nat), k ≤ B → pc_P N T t l sh w' → (¬ x13 = 0 → pc_E N de re w' w x14) → ∃ fu : Nat, wL_law_615 post L xs J112 (nI N) (nI T) (nI k) x6 x7 x8 x9 x11 x12 x13 x14 kc ks (nI N) (nI T) (nI (ls_dp (ls_kd t 12) (l 12))) ed (ls_I t) (ls_I l) sk sh os de re le so od fu 0 1 0) : wL_law_446 post L xs J112 (nI N) (nI T) (nI k) x6 x7 x8 x9 x11 x12 0 (-1) x16 kc ks (nI N) (nI T) (nI (ls_dp (ls_kd t 12) (l 12))) ed (ls_I t) (ls_I l) sk sh os de re le so od := by
  refine br_c (fun _ => nm_r (nI_1 k) (la_cell hL (by omega) (fun v => la_pickE N rfl (by omega) (by omega) (fun j _ => px_push hN hT P (fun r t' l' P' => ?_))))) (fun _ => nm_r (nI_1 k) (la_cell hL (by omega) (fun v => la_pickE (T + 1) (nI_1 T) (by omega) (by omega) (fun j _ => px_push hN hT P (fun r t' l' P' => ?_)))))
  · exact nm_e (CH _ _ _ _ _ _ _ _ _ _ _ _ _ _ _ _ _ _ hk P' (fun z => absurd rfl z))
  · exact nm_e (CH _ _ _ _ _ _ _ _ _ _ _ _ _ _ _ _ _ _ hk P' (fun z => absurd rfl z))
theorem lm_502 {L : Nat} {xs : Nat → Int32} {N T k B : Nat} {t l w : Nat → Nat} {x6 x7 x8 x11 x12 ed : Int32} {x9 : Int64} {kc ks : Nat} {sk sh os de re le so od : Nat → Int32} {post : Int32 → Prop} {J112 : Int32 → Int32 → Int32 → Int32 → Int64 → Int32 → Int32 → Int32 → Int32 → Int32 → (Nat → Int32) → (Nat → Int32) → (Nat → Int32) → (Nat → Int32) → (Nat → Int32) → (Nat → Int32) → (Nat → Int32) → (Nat → Int32) → (Nat → Int32) → (Nat → Int32) → Prop} {x16 : Int32} (hL : L ≤ 260) (hN : N ≤ 12) (hN2 : 2 ≤ N) (hT : T ≤ 15) (hT1 : 1 ≤ T) (hB : B < 2 ^ 30) (P : pc_P N T t l sh w) (hk : k + 1 ≤ B) (CH : ∀ (k : Nat) (x6 x7 x8 x13 x14 : Int32) (t l : Nat → Nat) (ed : Int32) (sk sh os de re le so od : Nat → Int32) (w' : Nat → Nat), k ≤ B → pc_P N T t l sh w' → (¬ x13 = 0 → pc_E N de re w' w x14) → ∃ fu : Nat, wL_law_615 post L xs J112 (nI N) (nI T) (nI k) x6 x7 x8 x9 x11 x12 x13 x14 kc ks (nI N) (nI T) (nI (ls_dp (ls_kd t 12) (l 12))) ed (ls_I t) (ls_I l) sk sh os de re le so od fu 0 1 0) : wL_law_502 post L xs J112 (nI N) (nI T) (nI k) x6 x7 x8 x9 x11 x12 0 (-1) x16 kc ks (nI N) (nI T) (nI (ls_dp (ls_kd t 12) (l 12))) ed (ls_I t) (ls_I l) sk sh os de re le so od := by
  refine br_c (fun _ => px_push hN hT P (fun r t' l' P' => ?_)) (fun _ => br_c (fun _ => br_c (fun _ => nm_r (nI_1 k) (la_cell hL (by omega) (fun v => la_pickE T rfl (by omega) (by omega) (fun j _ => px_push hN hT P (fun r t' l' P' => ?_))))) (fun _ => px_push hN hT P (fun r t' l' P' => ?_))) (fun _ => px_push hN hT P (fun r t' l' P' => ?_)))
  · exact nm_e (CH _ _ _ _ _ _ _ _ _ _ _ _ _ _ _ _ _ _ (by omega) P' (fun z => absurd rfl z))
  · exact nm_e (CH _ _ _ _ _ _ _ _ _ _ _ _ _ _ _ _ _ _ hk P' (fun z => absurd rfl z))
  · exact nm_e (CH _ _ _ _ _ _ _ _ _ _ _ _ _ _ _ _ _ _ (by omega) P' (fun z => absurd rfl z))
  · exact nm_e (CH _ _ _ _ _ _ _ _ _ _ _ _ _ _ _ _ _ _ (by omega) P' (fun z => absurd rfl z))
theorem lm_578 {L : Nat} {xs : Nat → Int32} {N T k B : Nat} {t l w : Nat → Nat} {x6 x7 x8 x11 x12 ed : Int32} {x9 : Int64} {kc ks : Nat} {sk sh os de re le so od : Nat → Int32} {post : Int32 → Prop} {J112 : Int32 → Int32 → Int32 → Int32 → Int64 → Int32 → Int32 → Int32 → Int32 → Int32 → (Nat → Int32) → (Nat → Int32) → (Nat → Int32) → (Nat → Int32) → (Nat → Int32) → (Nat → Int32) → (Nat → Int32) → (Nat → Int32) → (Nat → Int32) → (Nat → Int32) → Prop} (hL : L ≤ 260) (hN : N ≤ 12) (hN2 : 2 ≤ N) (hT : T ≤ 15) (hT1 : 1 ≤ T) (hB : B < 2 ^ 30) (P : pc_P N T t l sh w) (hk : k ≤ B) (CH : ∀ (k : Nat) (x6 x7 x8 x13 x14 : Int32) (t l : Nat → Nat) (ed : Int32) (sk sh os de re le so od : Nat → Int32) (w' : Nat → Nat), k ≤ B → pc_P N T t l sh w' → (¬ x13 = 0 → pc_E N de re w' w x14) → ∃ fu : Nat, wL_law_615 post L xs J112 (nI N) (nI T) (nI k) x6 x7 x8 x9 x11 x12 x13 x14 kc ks (nI N) (nI T) (nI (ls_dp (ls_kd t 12) (l 12))) ed (ls_I t) (ls_I l) sk sh os de re le so od fu 0 1 0) : wL_law_578 post L xs J112 (nI N) (nI T) (nI k) x6 x7 x8 x9 x11 x12 0 (-1) kc ks (nI N) (nI T) (nI (ls_dp (ls_kd t 12) (l 12))) ed (ls_I t) (ls_I l) sk sh os de re le so od := by
  refine br_c (fun _ => CH _ _ _ _ _ _ _ _ _ _ _ _ _ _ _ _ _ _ hk P (fun z => absurd rfl z)) (fun _ => px_com hN hT P (fun r hr => br_f hr ?_) (fun t' l' ed' sk' sh' os' de' re' le' so' od' w' P' E' => br_t rfl ?_))
  · exact CH _ _ _ _ _ _ _ _ _ _ _ _ _ _ _ _ _ _ hk P (fun z => absurd rfl z)
  · exact CH _ _ _ _ _ _ _ _ _ _ _ _ _ _ _ _ _ _ hk P' (fun _ => E')
theorem lm_390 {L : Nat} {xs : Nat → Int32} {N T k B : Nat} {t l w : Nat → Nat} {x6 x7 x8 x11 x12 ed : Int32} {x9 : Int64} {kc ks : Nat} {sk sh os de re le so od : Nat → Int32} {post : Int32 → Prop} {J112 : Int32 → Int32 → Int32 → Int32 → Int64 → Int32 → Int32 → Int32 → Int32 → Int32 → (Nat → Int32) → (Nat → Int32) → (Nat → Int32) → (Nat → Int32) → (Nat → Int32) → (Nat → Int32) → (Nat → Int32) → (Nat → Int32) → (Nat → Int32) → (Nat → Int32) → Prop} (hL : L ≤ 260) (hN : N ≤ 12) (hN2 : 2 ≤ N) (hT : T ≤ 15) (hT1 : 1 ≤ T) (hB : B < 2 ^ 30) (P : pc_P N T t l sh w) (hk : k + 2 ≤ B) (CH : ∀ (k : Nat) (x6 x7 x8 x13 x14 : Int32) (t l : Nat → Nat) (ed : Int32) (sk sh os de re le so od : Nat → Int32) (w' : Nat → Nat), k ≤ B → pc_P N T t l sh w' → (¬ x13 = 0 → pc_E N de re w' w x14) → ∃ fu : Nat, wL_law_615 post L xs J112 (nI N) (nI T) (nI k) x6 x7 x8 x9 x11 x12 x13 x14 kc ks (nI N) (nI T) (nI (ls_dp (ls_kd t 12) (l 12))) ed (ls_I t) (ls_I l) sk sh os de re le so od fu 0 1 0) : wL_law_390 post L xs J112 (nI N) (nI T) (nI k) x6 x7 x8 x9 x11 x12 0 (-1) kc ks (nI N) (nI T) (nI (ls_dp (ls_kd t 12) (l 12))) ed (ls_I t) (ls_I l) sk sh os de re le so od := by
  have g1 : wL_law_578 post L xs J112 (nI N) (nI T) (nI k) x6 x7 x8 x9 x11 x12 0 (-1) kc ks (nI N) (nI T) (nI (ls_dp (ls_kd t 12) (l 12))) ed (ls_I t) (ls_I l) sk sh os de re le so od := lm_578 hL hN hN2 hT hT1 hB P (by omega) CH
  refine br_c (fun _ => g1) (fun _ => br_c (fun _ => g1) (fun _ => nm_r (nI_1 k) (la_cell hL (by omega) (fun v => la_pickE 16 rfl (by omega) (by omega) (fun j _ => ⟨by decide, nm_e (nm_e ?_)⟩)))))
  have g2 : ∀ x6 x16 : Int32, wL_law_446 post L xs J112 (nI N) (nI T) (nI (k + 1)) x6 x7 x8 x9 x11 x12 0 (-1) x16 kc ks (nI N) (nI T) (nI (ls_dp (ls_kd t 12) (l 12))) ed (ls_I t) (ls_I l) sk sh os de re le so od := fun x6 x16 => lm_446 hL hN hN2 hT hT1 hB P (by omega) CH
  have g3 : ∀ x6 x16 : Int32, wL_law_502 post L xs J112 (nI N) (nI T) (nI (k + 1)) x6 x7 x8 x9 x11 x12 0 (-1) x16 kc ks (nI N) (nI T) (nI (ls_dp (ls_kd t 12) (l 12))) ed (ls_I t) (ls_I l) sk sh os de re le so od := fun x6 x16 => lm_502 hL hN hN2 hT hT1 hB P (by omega) CH
  exact br_c (fun _ => g2 _ _) (fun _ => br_c (fun _ => g3 _ _) (fun _ => br_c (fun _ => g3 _ _) (fun _ => g2 _ _)))
theorem lm_180 {L : Nat} {xs : Nat → Int32} {N T k B : Nat} {t l w : Nat → Nat} {x6 x7 x8 x11 x12 ed : Int32} {x9 : Int64} {kc ks : Nat} {sk sh os de re le so od : Nat → Int32} {post : Int32 → Prop} {J112 : Int32 → Int32 → Int32 → Int32 → Int64 → Int32 → Int32 → Int32 → Int32 → Int32 → (Nat → Int32) → (Nat → Int32) → (Nat → Int32) → (Nat → Int32) → (Nat → Int32) → (Nat → Int32) → (Nat → Int32) → (Nat → Int32) → (Nat → Int32) → (Nat → Int32) → Prop} (hL : L ≤ 260) (hN : N ≤ 12) (hN2 : 2 ≤ N) (hT : T ≤ 15) (hT1 : 1 ≤ T) (hB : B < 2 ^ 30) (P : pc_P N T t l sh w) (hk : k + 2 ≤ B) (CH : ∀ (k : Nat) (x6 x7 x8 x13 x14 : Int32) (t l : Nat → Nat) (ed : Int32) (sk sh os de re le so od : Nat → Int32) (w' : Nat → Nat), k ≤ B → pc_P N T t l sh w' → (¬ x13 = 0 → pc_E N de re w' w x14) → ∃ fu : Nat, wL_law_615 post L xs J112 (nI N) (nI T) (nI k) x6 x7 x8 x9 x11 x12 x13 x14 kc ks (nI N) (nI T) (nI (ls_dp (ls_kd t 12) (l 12))) ed (ls_I t) (ls_I l) sk sh os de re le so od fu 0 1 0) : wL_law_180 post L xs J112 (nI N) (nI T) (nI k) x6 x7 x8 x9 x11 x12 kc ks (nI N) (nI T) (nI (ls_dp (ls_kd t 12) (l 12))) ed (ls_I t) (ls_I l) sk sh os de re le so od := by
  refine nm_r (nI_1 k) (la_cell hL (by omega) (fun v => la_pickE N rfl (by omega) (by omega) (fun j _ => nm_r (nI_1 (k + 1)) (la_cell hL (by omega) (fun v => la_pickE (T + 1) (nI_1 T) (by omega) (by omega) (fun i _ => px_set hN hT P (fun r hr => br_f hr ?_) (fun t' l' ed' sk' sh' os' de' re' le' so' od' w' P' E' => br_t rfl ?_)))))))
  · exact CH _ _ _ _ _ _ _ _ _ _ _ _ _ _ _ _ _ _ hk P (fun z => absurd rfl z)
  · exact CH _ _ _ _ _ _ _ _ _ _ _ _ _ _ _ _ _ _ hk P' (fun _ => E')
theorem lm_136 {L : Nat} {xs : Nat → Int32} {N T k B : Nat} {t l w : Nat → Nat} {x6 x7 x8 x11 x12 ed : Int32} {x9 : Int64} {kc ks : Nat} {sk sh os de re le so od : Nat → Int32} {post : Int32 → Prop} {J112 : Int32 → Int32 → Int32 → Int32 → Int64 → Int32 → Int32 → Int32 → Int32 → Int32 → (Nat → Int32) → (Nat → Int32) → (Nat → Int32) → (Nat → Int32) → (Nat → Int32) → (Nat → Int32) → (Nat → Int32) → (Nat → Int32) → (Nat → Int32) → (Nat → Int32) → Prop} (hL : L ≤ 260) (hN : N ≤ 12) (hN2 : 2 ≤ N) (hT : T ≤ 15) (hT1 : 1 ≤ T) (hB : B < 2 ^ 30) (P : pc_P N T t l sh w) (hk : k + 3 ≤ B) (CH : ∀ (k : Nat) (x6 x7 x8 x13 x14 : Int32) (t l : Nat → Nat) (ed : Int32) (sk sh os de re le so od : Nat → Int32) (w' : Nat → Nat), k ≤ B → pc_P N T t l sh w' → (¬ x13 = 0 → pc_E N de re w' w x14) → ∃ fu : Nat, wL_law_615 post L xs J112 (nI N) (nI T) (nI k) x6 x7 x8 x9 x11 x12 x13 x14 kc ks (nI N) (nI T) (nI (ls_dp (ls_kd t 12) (l 12))) ed (ls_I t) (ls_I l) sk sh os de re le so od fu 0 1 0) : wL_law_136 post L xs J112 (nI N) (nI T) (nI k) x6 x7 x8 x9 x11 x12 kc ks (nI N) (nI T) (nI (ls_dp (ls_kd t 12) (l 12))) ed (ls_I t) (ls_I l) sk sh os de re le so od := by
  have g1 : wL_law_390 post L xs J112 (nI N) (nI T) (nI k) x6 x7 x8 x9 x11 x12 0 (-1) kc ks (nI N) (nI T) (nI (ls_dp (ls_kd t 12) (l 12))) ed (ls_I t) (ls_I l) sk sh os de re le so od := lm_390 hL hN hN2 hT hT1 hB P (by omega) CH
  have g2 : wL_law_180 post L xs J112 (nI N) (nI T) (nI (k + 1)) x6 x7 x8 x9 x11 x12 kc ks (nI N) (nI T) (nI (ls_dp (ls_kd t 12) (l 12))) ed (ls_I t) (ls_I l) sk sh os de re le so od := lm_180 hL hN hN2 hT hT1 hB P (by omega) CH
  refine br_c (fun _ => g1) (fun _ => br_c (fun _ => g1) (fun _ => nm_r (nI_1 k) (la_cell hL (by omega) (fun v => la_pickE 12 rfl (by omega) (by omega) (fun j _ => br_c (fun _ => g2) (fun _ => br_c (fun _ => g2) (fun _ => br_c (fun _ => ?_) (fun _ => br_c (fun _ => ?_) (fun _ => ?_)))))))))
  · refine nm_r (nI_1 (k + 1)) (la_cell hL (by omega) (fun v => la_pickE (N + 2) (nI_add N 2) (by omega) (by omega) (fun i _ => nm_e (nm_r (nI_1 (k + 1 + 1)) (la_cell hL (by omega) (fun v => la_pickE (T + 3) (nI_add T 3) (by omega) (by omega) (fun i2 _ => nm_e (px_set hN hT P (fun r hr => br_f hr ?_) (fun t' l' ed' sk' sh' os' de' re' le' so' od' w' P' E' => br_t rfl ?_)))))))))
    · exact CH _ _ _ _ _ _ _ _ _ _ _ _ _ _ _ _ _ _ (by omega) P (fun z => absurd rfl z)
    · exact CH _ _ _ _ _ _ _ _ _ _ _ _ _ _ _ _ _ _ (by omega) P' (fun _ => E')
  · refine nm_r (nI_1 (k + 1)) (la_cell hL (by omega) (fun v => la_pickE (N + 2) (nI_add N 2) (by omega) (by omega) (fun i _ => nm_e (px_com hN hT P (fun r hr => br_f hr ?_) (fun t' l' ed' sk' sh' os' de' re' le' so' od' w' P' E' => br_t rfl ?_)))))
    · exact CH _ _ _ _ _ _ _ _ _ _ _ _ _ _ _ _ _ _ (by omega) P (fun z => absurd rfl z)
    · exact CH _ _ _ _ _ _ _ _ _ _ _ _ _ _ _ _ _ _ (by omega) P' (fun _ => E')
  · refine nm_r (nI_1 (k + 1)) (la_cell hL (by omega) (fun v => la_pickE N rfl (by omega) (by omega) (fun i _ => nm_r (nI_1 (k + 1 + 1)) (la_cell hL (by omega) (fun v => la_pickE 4 rfl (by omega) (by omega) (fun i2 _ => nm_e (px_drop hN P (fun t' l' P' => ?_))))))))
    exact CH _ _ _ _ _ _ _ _ _ _ _ _ _ _ _ _ _ _ (by omega) P' (fun z => absurd rfl z)
theorem lm_112 {L : Nat} {xs : Nat → Int32} {N T M : Nat} {kc ks : Nat} (hL : L ≤ 260) (hN : N ≤ 12) (hN2 : 2 ≤ N) (hT : T ≤ 15) (hT1 : 1 ≤ T) (hM : M ≤ 1000) : ∀ (m s n k : Nat) (x6 x7 x8 : Int32) (t l : Nat → Nat) (ed : Int32) (sk sh os de re le so od : Nat → Int32) (w : Nat → Nat), s + m = M → m < n → k ≤ 3 * s + 2 → pc_P N T t l sh w → wL_law_112 (fun r => r = 1) L xs (nI N) (nI T) (nI M) kc ks n (nI k) x6 x7 x8 (lN (mp_w w N)) (nI s) (nI N) (nI T) (nI (ls_dp (ls_kd t 12) (l 12))) ed (ls_I t) (ls_I l) sk sh os de re le so od := by
  intro m
  induction m with
  | zero =>
    intro s n k x6 x7 x8 t l ed sk sh os de re le so od w hs hn hk P
    obtain ⟨n, rfl⟩ : ∃ k, n = k + 1 := ⟨n - 1, by omega⟩
    exact br_t (nI_le (by omega) (by omega)) rfl
  | succ m ih =>
    intro s n k x6 x7 x8 t l ed sk sh os de re le so od w hs hn hk P
    obtain ⟨n, rfl⟩ : ∃ k, n = k + 1 := ⟨n - 1, by omega⟩
    have body : wL_law_136 (fun r => r = 1) L xs (wL_law_112 (fun r => r = 1) L xs (nI N) (nI T) (nI M) kc ks n) (nI N) (nI T) (nI k) x6 x7 x8 (lN (mp_w w N)) (nI M) (nI s) kc ks (nI N) (nI T) (nI (ls_dp (ls_kd t 12) (l 12))) ed (ls_I t) (ls_I l) sk sh os de re le so od := by
      refine lm_136 (B := 3 * (s + 1) + 2) hL hN hN2 hT hT1 (by omega) P (by omega) (fun k' x6' x7' x8' x13 x14 t' l' ed' sk' sh' os' de' re' le' so' od' w' hk' P' E' => ?_)
      refine le_chk hN hT P'.1 P'.2.2.2 P.2.2.2.1.1 P'.2.2.1 rfl E' ?_
      rw [nI_1]
      exact ih (s + 1) n k' x6' x7' x8' t' l' ed' sk' sh' os' de' re' le' so' od' w' (by omega) (by omega) hk' P'
    exact br_f (nI_ge (by omega) (by omega)) (br_c (fun _ => body) (fun _ => br_c (fun _ => body) (fun _ => br_c (fun _ => rfl) (fun _ => body))))
theorem lm_32 {L : Nat} {xs : Nat → Int32} (hL : L ≤ 260) (z0 : Int32) : wL_law_32 (fun r => r = 1) L xs z0 1 14 0 0 0 0 := by
  unfold wL_law_32
  refine la_cell (k := 1) hL (by omega) (fun v => la_pickE 15 rfl (by omega) (by omega) (fun j _ => ⟨10, 209, by omega, by omega, ?_⟩))
  obtain ⟨N, hN2, hN, cN⟩ := in_clamp z0 2 12 (a := 2) (b := 12) rfl rfl (by omega) (by omega)
  obtain ⟨T, hT1, hT, cT⟩ := in_clamp (1 + nI j) 1 15 (a := 1) (b := 15) rfl rfl (by omega) (by omega)
  unfold wpX_init
  refine ⟨by omega, by omega, by omega, by omega, by omega, by omega, by omega, by omega, by omega, by omega, by omega, by omega, by omega, by omega, by omega, by omega, by omega, by omega, by omega, by omega, cN _ (cT _ ⟨13, ?_⟩)⟩
  rw [← in_l0]
  refine in_x hN hT (fun re le so od => ?_) 12 0 13 (by omega) (by omega)
  have eM : 2 * Int32.ofNat L + 20 = nI (2 * L + 20) := by
    show nI 2 * nI L + nI 20 = _
    rw [pk_mul, nI_add]
  refine br_f (nI_nlt (b := 2) hN2 (by omega)) (br_f (nI_nlt (a := 12) hN (by omega)) (br_f (nI_nlt (b := 1) hT1 (by omega)) (br_t (nI_le (b := 15) hT (by decide)) (nm_r eM ⟨2 * L + 21, ?_⟩))))
  have h := lm_112 (xs := xs) (kc := 1 + 10) (ks := 14 + 209) hL hN hN2 hT hT1 (M := 2 * L + 20) (by omega) (2 * L + 20) 0 (2 * L + 21) 2 (-1) 0 0 (fun _ => 0) (in_l 12) (-99) (ls_I (in_l 0)) (ls_I (in_l 0)) (ls_I (in_l 0)) (ls_I (in_l 0)) re le so od (fun _ => 0) (by omega) (by omega) (by omega) (in_P hN (fun c => by rw [in_l0]))
  rw [mp_0] at h
  exact h
end
section
theorem i_vc (xs : Nat → Int32) (L : Nat) (hL : L ≤ 260) : wpL_law (fun r => r = 1) L xs := by
  unfold wpL_law
  exact la_cell (k := 0) hL (by omega) (fun v => la_pickE 16 rfl (by omega) (by omega) (fun j _ => br_c (fun _ => lm_32 hL _) (fun _ => ⟨by decide, lm_32 hL _⟩)))
end
