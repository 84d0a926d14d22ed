/-! values packed by four bits, and the law's own small methods -/
def mp_w (w : Nat → Nat) : Nat → Nat
  | 0 => 0
  | n + 1 => mp_w w n + w n * 16 ^ n
theorem mp_s (w : Nat → Nat) (n : Nat) : mp_w w (n + 1) = mp_w w n + w n * 16 ^ n := rfl
theorem mp_lt {w : Nat → Nat} : ∀ n, (∀ c, c < n → w c ≤ 15) → mp_w w n < 16 ^ n
  | 0, _ => Nat.one_pos
  | n + 1, h => by
    have h1 := mp_lt n (fun c hc => h c (by omega))
    have h2 : w n * 16 ^ n ≤ 15 * 16 ^ n := Nat.mul_le_mul_right _ (h n (by omega))
    rw [mp_s, Nat.pow_succ]
    omega
theorem mp_at {w : Nat → Nat} : ∀ n, (∀ c, c < n → w c ≤ 15) → ∀ c, c < n → mp_w w n / 16 ^ c % 16 = w c
  | 0, _, c, hc => absurd hc (Nat.not_lt_zero c)
  | n + 1, h, c, hc => by
    have hp : 0 < 16 ^ c := Nat.pow_pos (by omega)
    rw [mp_s]
    by_cases e : c = n
    · subst e
      have h1 := mp_lt c (fun d hd => h d (by omega))
      have h2 := h c (by omega)
      rw [Nat.add_mul_div_right _ _ hp, Nat.div_eq_of_lt h1]
      omega
    · have ih := mp_at n (fun d hd => h d (by omega)) c (by omega)
      have e2 : w n * 16 ^ n = (w n * 16 ^ (n - c - 1) * 16) * 16 ^ c := by
        rw [Nat.mul_assoc, Nat.mul_assoc, ← Nat.pow_succ', ← Nat.pow_add]
        congr 2
        omega
      rw [e2, Nat.add_mul_div_right _ _ hp, Nat.add_mul_mod_self_right]
      exact ih
theorem mp_congr {w w' : Nat → Nat} : ∀ n, (∀ c, c < n → w c = w' c) → mp_w w n = mp_w w' n
  | 0, _ => rfl
  | n + 1, h => by rw [mp_s, mp_s, mp_congr n (fun c hc => h c (by omega)), h n (by omega)]
theorem mp_up {w : Nat → Nat} {c v : Nat} : ∀ n, c < n → mp_w (ls_up w c v) n + w c * 16 ^ c = mp_w w n + v * 16 ^ c
  | 0, hc => absurd hc (Nat.not_lt_zero c)
  | n + 1, hc => by
    rw [mp_s, mp_s]
    by_cases e : c = n
    · subst e
      rw [ls_us, mp_congr (w := ls_up w c v) (w' := w) c (fun d hd => ls_un (by omega))]
      omega
    · have ih := mp_up (w := w) (c := c) (v := v) n (by omega)
      rw [ls_un (show n ≠ c by omega)]
      omega
theorem mp_0 : ∀ n, mp_w (fun _ => 0) n = 0
  | 0 => rfl
  | n + 1 => by rw [mp_s, mp_0 n, Nat.zero_mul]
def sp_s (s : Nat → Nat) : Nat → Nat
  | 0 => 0
  | d + 1 => sp_s s d * 16 + s d
theorem sp_e (s : Nat → Nat) (d : Nat) : sp_s s (d + 1) = sp_s s d * 16 + s d := rfl
theorem sp_lt {s : Nat → Nat} : ∀ d, (∀ j, j < d → s j ≤ 15) → sp_s s d < 16 ^ d
  | 0, _ => Nat.one_pos
  | d + 1, h => by
    have h1 := sp_lt d (fun c hc => h c (by omega))
    have h2 := h d (by omega)
    rw [sp_e, Nat.pow_succ]
    omega
theorem sp_congr {s s' : Nat → Nat} : ∀ d, (∀ j, j < d → s j = s' j) → sp_s s d = sp_s s' d
  | 0, _ => rfl
  | d + 1, h => by rw [sp_e, sp_e, sp_congr d (fun c hc => h c (by omega)), h d (by omega)]
theorem la_and15 (x : Nat) : nI x &&& 15 = nI (x % 16) := by
  show nI x &&& nI 15 = _
  rw [nx_and, show (15 : Nat) = 2 ^ 4 - 1 from rfl, Nat.and_two_pow_sub_one_eq_mod]
theorem la_cnt {k : Nat} (hk : k < 64) : ((((nI k).toInt64 &&& 63)).toBitVec.smod 64).toNat = k := by
  rw [wb_c k hk, wb_tb, wb_sm k hk, BitVec.toNat_ofNat]
  exact Nat.mod_eq_of_lt (by omega)
theorem la_16 (c : Nat) : 2 ^ (4 * c) = 16 ^ c := by rw [Nat.pow_mul]
theorem la_nib {post : Int32 → Prop} {m c : Nat} (hm : m < 2 ^ 62) (hc : c < 15) (h : post (nI (m / 16 ^ c % 16))) : wpL_nib post () (lN m) (nI c) := by
  unfold wpL_nib
  rw [show 4 * nI c = nI (4 * c) from pk_mul 4 c, pf_shr (la_cnt (by omega)) hm, lN_i, la_and15, la_16]
  exact h
theorem la_pick {post : Int32 → Prop} {x : Int32} {m : Nat} (hm : 0 < m) (hm2 : m < 2 ^ 31) (h : ∀ j, j < m → post (nI j)) : wpL_pick post () x (nI m) := by
  have e : x &&& 2147483647 = nI (x.toBitVec.toNat % 2 ^ 31) := pk_and x 31 (by decide)
  refine ⟨nI_ne0 hm hm2, ?_⟩
  rw [e, pk_rem (Nat.mod_lt _ (by omega)) hm hm2]
  exact h _ (Nat.mod_lt _ hm)
theorem la_cell {post : Int32 → Prop} {L k : Nat} {xs : Nat → Int32} (hL : L ≤ 260) (hk : k < 2 ^ 31) (h : ∀ v, post v) : wpL_cell post L xs () (nI k) := by
  by_cases z : L ≤ k
  · exact br_t (show nI L ≤ nI k from nI_le z hk) (h _)
  · exact br_f (show ¬ nI L ≤ nI k from nI_ge (by omega) (by omega)) ⟨vp_in_nI (by omega) (by omega), h _⟩
theorem la_op {post : Int32 → Prop} {T k a x y : Nat} (hT : T ≤ 15) (ha : a < 100) (hx : x ≤ T) (hy : y ≤ T) (h2 : 2 ≤ k) (h5 : k ≤ 5) (h : post (nI (ls_cmb T k a x y))) : wpL_op post () (nI k) (nI a) (nI x) (nI y) (nI T) := by
  have hc : ∀ r, ls_cmb T k a x y = r → post (nI r) := fun r e => e ▸ h
  unfold wpL_op
  refine pk_eq k 2 (fun _ => pk_le y x (fun _ => hc y ?_) (fun _ => hc x ?_)) (fun _ => pk_eq k 3 (fun _ => pk_le x y (fun _ => hc y ?_) (fun _ => hc x ?_)) (fun _ => pk_eq k 4 (fun _ => ?_) (fun _ => pk_lt x a (fun _ => hc 0 ?_) (fun _ => hc y ?_))))
  case refine_5 =>
    rw [nI_add]
    refine pk_le (x + y) T (fun _ => hc _ ?_) (fun _ => hc _ ?_)
    all_goals (unfold ls_cmb; repeat' split)
    all_goals omega
  all_goals (unfold ls_cmb; repeat' split)
  all_goals omega
/-- the packed stack, a value put on it -/
theorem la_put {m v : Nat} (hm : m < 16 ^ 8) (hv : v < 16) : (lN m <<< ((4 : Int32).toInt64 &&& 63)) ||| (nI v).toInt64 = lN (m * 16 + v) := by
  have h16 : (16 : Nat) ^ 8 = 4294967296 := by decide
  rw [show (4 : Int32) = nI 4 from rfl, wb_shl m (by omega), nI_l (by omega)]
  exact g_or (k := 4) (p := 16) (by decide) hv (by omega)
/-- the packed stack, its two topmost taken away -/
theorem la_pop {m : Nat} (hm : m < 16 ^ 8) : lN m >>> ((8 : Int32).toInt64 &&& 63) = lN (m / 256) := by
  have h16 : (16 : Nat) ^ 8 = 4294967296 := by decide
  rw [show (8 : Int32) = nI 8 from rfl, pf_shr (la_cnt (k := 8) (by omega)) (by omega)]
