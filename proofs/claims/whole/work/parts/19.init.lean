/-! the constructors -/
def in_l (i : Nat) : Nat → Nat := fun j => if j < i then 1 else 0
theorem in_lup {i : Nat} (hi : i < 12) : upd (ls_I (in_l i)) (nI i).toNatClampNeg 1 = ls_I (in_l (i + 1)) := by
  rw [nI_clamp (by omega), show (1 : Int32) = nI 1 from rfl, ls_Iup]
  congr 1
  funext j
  unfold ls_up in_l
  by_cases e : j = i
  · rw [if_pos e, if_pos (by omega)]
  · rw [if_neg e]
    by_cases z : j < i
    · rw [if_pos z, if_pos (by omega)]
    · rw [if_neg z, if_neg (by omega)]
theorem in_tup (k : Nat) : upd (ls_I (fun _ => 0)) k (0 + 0) = ls_I (fun _ => 0) := by
  funext j
  unfold upd
  split <;> rfl
theorem in_l0 : ls_I (in_l 0) = fun _ => 0 := by
  funext j
  show nI (if j < 0 then 1 else 0) = 0
  rw [if_neg (Nat.not_lt_zero j)]; rfl
theorem in_all {N T : Nat} (hN : N ≤ 12) : ls_all N T (fun _ => 0) (in_l 12) := by
  intro c hc
  have e : in_l 12 c = 1 := if_pos (by omega)
  rw [e]
  refine ⟨⟨by omega, fun i hi => ⟨⟨by show 0 / 100 ≤ 5; decide, fun _ => by show 0 % 100 ≤ T; exact Nat.zero_le _, fun z => absurd z (by show ¬ (0 / 100 = 1); decide), fun z => absurd z (by show ¬ (2 ≤ 0 / 100); decide), fun z => absurd z (by show ¬ (0 / 100 = 5); decide)⟩, fun z => absurd z (by show ¬ (2 ≤ 0 / 100); decide)⟩⟩, (ls_dp_a (i := 0) (by show 0 / 100 < 2; decide)).trans rfl⟩
theorem in_no {N : Nat} (c d : Nat) : wa_S (de_Ub N (fun _ => 0) (in_l 12)) N c d = false := by
  cases e : wa_S (de_Ub N (fun _ => 0) (in_l 12)) N c d
  · rfl
  · refine absurd (wa_min (R := fun _ _ => False) (fun c d h => ?_) (fun _ _ _ h _ => h) N c d e) id
    unfold de_Ub at h
    rw [Bool.and_eq_true, de_u_iff] at h
    obtain ⟨_, i, _, h1, _⟩ := h
    exact absurd h1 (by show ¬ (0 / 100 = 1); decide)
theorem in_clamp (x lo hi : Int32) {a b : Nat} (ea : lo = nI a) (eb : hi = nI b) (hab : a ≤ b) (hb : b < 2 ^ 31) : ∃ n : Nat, n ≤ b ∧ ∀ P : Int32 → Prop, P (nI n) → wpX_clamp P x lo hi := by
  subst ea eb
  by_cases h1 : nI a ≤ x
  · by_cases h2 : x ≤ nI b
    · have h0 : ¬ x < 0 := Int32.not_lt.mpr (Int32.le_trans (nI_pos' (by omega)) h1)
      obtain ⟨j, hj, rfl⟩ := nI_of h0
      rw [nI_leI hj hb] at h2
      exact ⟨j, h2, fun P hp => br_t h1 (br_t (by rw [nI_leI hj hb]; exact h2) hp)⟩
    · exact ⟨b, Nat.le_refl b, fun P hp => br_t h1 (br_f h2 hp)⟩
  · exact ⟨a, hab, fun P hp => br_f h1 hp⟩
theorem in_x {N T : Nat} {sk sh os de re le so od : Nat → Int32} {post : SX → Prop} (hN : N ≤ 12) (hT : T ≤ 15) (hp : ∀ re le so od : Nat → Int32, xs_ok N (wa_S (de_Ub N (fun _ => 0) (in_l 12)) N) re le od → post (nI N, nI T, 0, (-99), ls_I (fun _ => 0), ls_I (in_l 12), sk, sh, os, de, re, le, so, od)) : ∀ (m i n : Nat), i + m = 12 → m < n → wX_init_119 post n (nI i) (nI N) (nI T) 0 (-99) (ls_I (fun _ => 0)) (ls_I (in_l i)) sk sh os de re le so od := by
  intro m
  induction m with
  | zero =>
    intro i n hi hn
    obtain ⟨n, rfl⟩ : ∃ k, n = k + 1 := ⟨n - 1, by omega⟩
    have e : i = 12 := by omega
    subst e
    exact br_t (nI_le (a := 12) (by omega) (by omega)) (xs_struct hN hT (in_all hN) (fun re le so od h => hp re le so od h))
  | succ m ih =>
    intro i n hi hn
    obtain ⟨n, rfl⟩ : ∃ k, n = k + 1 := ⟨n - 1, by omega⟩
    have e1 : nI i * 8 = nI (8 * i) := by rw [Nat.mul_comm]; exact pk_mul i 8
    exact br_f (nI_ge (b := 12) (by omega) (by decide)) ⟨by rw [e1]; exact vp_in_nI (by omega) (by decide), nm_r (in_tup _) ⟨vp_in_nI (by omega) (by decide), nm_r (in_lup (by omega)) (nm_r (nI_1 i) (ih (i + 1) n (by omega) (by omega)))⟩⟩
theorem in_y {N T ed : Int32} {tk sh ol dep nx sk : Nat → Int32} {post : SY → Prop} (hp : post (N, T, ed, tk, ls_I (in_l 12), sh, ol, dep, nx, sk)) : ∀ (m i n : Nat), i + m = 12 → m < n → wY_init_119 post N T ed n (nI i) tk (ls_I (in_l i)) sh ol dep nx sk := by
  intro m
  induction m with
  | zero =>
    intro i n hi hn
    obtain ⟨n, rfl⟩ : ∃ k, n = k + 1 := ⟨n - 1, by omega⟩
    have e : i = 12 := by omega
    subst e
    exact br_t (nI_le (a := 12) (by omega) (by omega)) hp
  | succ m ih =>
    intro i n hi hn
    obtain ⟨n, rfl⟩ : ∃ k, n = k + 1 := ⟨n - 1, by omega⟩
    exact br_f (nI_ge (b := 12) (by omega) (by decide)) ⟨vp_in_nI (by omega) (by decide), nm_r (in_lup (by omega)) (nm_r (nI_1 i) (ih (i + 1) n (by omega) (by omega)))⟩
theorem i_vc0 (k0 : Int32) (k1 : Int32) : wpX_init (fun u => wpY_init (fun v => i_Rel 2 u v) k0 k1) k0 k1 := by
  obtain ⟨N, hN, cN⟩ := in_clamp k0 2 12 (a := 2) (b := 12) rfl rfl (by omega) (by omega)
  obtain ⟨T, hT, cT⟩ := in_clamp k1 1 15 (a := 1) (b := 15) rfl rfl (by omega) (by omega)
  unfold wpX_init
  refine cN _ (cT _ ⟨13, ?_⟩)
  rw [← in_l0]
  refine in_x hN hT (fun re le so od h => ?_) 12 0 13 (by omega) (by omega)
  unfold wpY_init
  refine cN (fun z => wY_init_89 _ k1 z 0 0 (-99) (fun _ => 0) (fun _ => 0) (fun _ => 0) (fun _ => 0) (fun _ => 0) (fun _ => 0) (fun _ => 0)) ?_
  refine cT (fun z => ∃ n119 : Nat, wY_init_119 _ (nI N) z (-99) n119 0 (fun _ => 0) (fun _ => 0) (fun _ => 0) (fun _ => 0) (fun _ => 0) (fun _ => 0) (fun _ => 0)) ⟨13, ?_⟩
  rw [← in_l0]
  refine in_y ?_ 12 0 13 (by omega) (by omega)
  refine ⟨N, T, fun _ => 0, in_l 12, (-99), _, _, _, _, re, le, so, od, _, _, _, _, _, _, rfl, rfl, hN, hT, in_all hN, ls_dr0 _ _, fun _ _ => rfl, fun c _ => ?_, h, fun c d _ _ => ?_⟩
  · rw [in_l0]; show (0 : Int32) = 0 - 0; decide
  · rw [in_l0, in_no c d]; exact ⟨fun _ => rfl, fun _ => rfl⟩
