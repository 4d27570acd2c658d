/-! ===== calls of the line ===== -/
theorem lp_find {β : Type} (g : Nat → β) (H : Nat) (hit : Nat → Prop) (r : β) (h1 : ∀ i, i < H → hit i → g i = r) (h2 : ∀ i, i < H → ¬ hit i → g i = g (i + 1)) : ((∃ i, i < H ∧ hit i) ∧ g 0 = r) ∨ ((∀ i, i < H → ¬ hit i) ∧ g 0 = g H) := by
  have key : ∀ d i, i + d = H → (∀ j, j < i → ¬ hit j) → g 0 = g i → ((∃ i, i < H ∧ hit i) ∧ g 0 = r) ∨ ((∀ i, i < H → ¬ hit i) ∧ g 0 = g H) := by
    intro d
    induction d with
    | zero =>
      intro i h3 h4 h5
      obtain rfl : i = H := by omega
      exact Or.inr ⟨h4, h5⟩
    | succ d ih =>
      intro i h3 h4 h5
      by_cases h : hit i
      · exact Or.inl ⟨⟨i, by omega, h⟩, h5.trans (h1 i (by omega) h)⟩
      · refine ih (i + 1) (by omega) (fun j hj => ?_) (h5.trans (h2 i (by omega) h))
        rcases Nat.lt_or_ge j i with h6 | h6
        · exact h4 j h6
        · rw [show j = i by omega]; exact h
  exact key H 0 (by omega) (fun j hj => by omega) rfl
theorem lp_first {β : Type} (g : Nat → β) (H : Nat) (hit : Nat → Prop) (r : Nat → β) (h1 : ∀ i, i < H → hit i → g i = r i) (h2 : ∀ i, i < H → ¬ hit i → g i = g (i + 1)) : (∃ i, i < H ∧ hit i ∧ (∀ j, j < i → ¬ hit j) ∧ g 0 = r i) ∨ ((∀ i, i < H → ¬ hit i) ∧ g 0 = g H) := by
  have key : ∀ d i, i + d = H → (∀ j, j < i → ¬ hit j) → g 0 = g i → (∃ i, i < H ∧ hit i ∧ (∀ j, j < i → ¬ hit j) ∧ g 0 = r i) ∨ ((∀ i, i < H → ¬ hit i) ∧ g 0 = g H) := by
    intro d
    induction d with
    | zero =>
      intro i h3 h4 h5
      obtain rfl : i = H := by omega
      exact Or.inr ⟨h4, h5⟩
    | succ d ih =>
      intro i h3 h4 h5
      by_cases h : hit i
      · exact Or.inl ⟨i, by omega, h, h4, h5.trans (h1 i (by omega) h)⟩
      · refine ih (i + 1) (by omega) (fun j hj => ?_) (h5.trans (h2 i (by omega) h))
        rcases Nat.lt_or_ge j i with h6 | h6
        · exact h4 j h6
        · rw [show j = i by omega]; exact h
  exact key H 0 (by omega) (fun j hj => by omega) rfl
theorem b2i_c {p q : Prop} [Decidable p] [Decidable q] (h : p ↔ q) : b2i p = b2i q := by
  by_cases hp : p
  · rw [b2i_t hp, b2i_t (h.mp hp)]
  · rw [b2i_f hp, b2i_f (fun x => hp (h.mpr x))]
/-- one less than n -/
def dn : Nat → Int32
  | 0 => -1
  | k + 1 => nI k
theorem dn_p (k : Nat) : nI k + (-1) = dn k := by
  cases k with
  | zero => decide
  | succ k => exact pk_m1 k
theorem dn_m (k : Nat) : nI k - 1 = dn k := by
  cases k with
  | zero => decide
  | succ k => exact nI_pred k
abbrev ixp (a : Int32) (N : Nat) : Prop := ¬ a < 0 ∧ a < nI N
theorem ixp_of {a : Int32} {N : Nat} (hN : N < 2 ^ 31) (h : ixp a N) : ∃ k, k < N ∧ a = nI k := by
  obtain ⟨k, hk, rfl⟩ := nI_of h.1
  exact ⟨k, (nI_ltI hk hN).mp h.2, rfl⟩
theorem ixp_nI {k N : Nat} (hk : k < N) (hN : N < 2 ^ 31) : ixp (nI k) N := ⟨nI_pos (by omega), nI_lt hk hN⟩
theorem in_ixp {a : Int32} {N : Nat} (hN : N < 2 ^ 31) : (¬ a < 0 ∧ ¬ nI N - 1 < a) ↔ ixp a N := by
  rw [dn_m]
  constructor
  · rintro ⟨h1, h2⟩
    refine ⟨h1, ?_⟩
    obtain ⟨k, hk, rfl⟩ := nI_of h1
    cases N with
    | zero =>
      exfalso
      apply h2
      rw [Int32.lt_iff_toInt_lt, nI_toInt hk]
      show (-1 : Int32).toInt < _
      have : (-1 : Int32).toInt = -1 := by decide
      omega
    | succ N =>
      rw [show dn (N + 1) = nI N from rfl, nI_ltI (by omega) hk] at h2
      exact nI_lt (by omega) hN
  · rintro ⟨h1, h2⟩
    refine ⟨h1, ?_⟩
    obtain ⟨k, hk, rfl⟩ := nI_of h1
    rw [nI_ltI hk hN] at h2
    cases N with
    | zero => omega
    | succ N =>
      rw [show dn (N + 1) = nI N from rfl, nI_ltI (by omega) hk]
      omega
theorem rg_of {x lo hi : Int32} {a b : Nat} (hlo : lo = nI a) (hhi : hi = nI b) (ha : a < 2 ^ 31) (hb : b < 2 ^ 31) (h1 : ¬ x < lo) (h2 : ¬ hi < x) : ∃ k, a ≤ k ∧ k ≤ b ∧ x = nI k := by
  subst hlo; subst hhi
  have h0 : ¬ x < 0 := by
    intro q
    apply h1
    rw [Int32.lt_iff_toInt_lt] at q ⊢
    rw [nI_toInt ha]
    have : (0 : Int32).toInt = 0 := by decide
    omega
  obtain ⟨k, hk, rfl⟩ := nI_of h0
  rw [nI_ltI hk ha] at h1
  rw [nI_ltI hb hk] at h2
  exact ⟨k, by omega, by omega, rfl⟩
/-! feed -/
def fd_v (w : Int64) (k : Nat) : Int32 := ((w >>> ((16 * nI k).toInt64 &&& 63)) &&& 65535).toInt32
def fd (w : Int64) : Nat → Nat → (Nat → Int32) → (Nat → Int32)
  | 0, _, u => u
  | k + 1, n, u => fd w k (n + 1) (upd u n (fd_v w k))
theorem X11_feedl (w : Int64) : ∀ k n S, S.1 1 1 = nI n → n + k ≤ 120 → ∃ S', g_X11_feed 35 [.ref 0, .long w, .null, .null, .int (dn k)] [] S = some (some (.int (nI (n + k))), S') ∧ S'.1 1 1 = nI (n + k) ∧ S'.1 2 = fd w k n (S.1 2) ∧ S'.1 0 10 = 0 ∧ (∀ c, c ≠ 0 → c ≠ 1 → c ≠ 2 → S'.1 c = S.1 c) ∧ S'.2 = S.2 := by
  intro k
  induction k with
  | zero =>
    intro n S h1 h2
    rw [b_X11_feed_35, if_pos (by decide), h1]
    refine ⟨_, rfl, ?_, ?_, wi_v _ _ _ _, fun c a b d => wi_n a, rfl⟩
    · rw [wi_n (by decide)]; exact h1
    · rw [wi_n (by decide)]; rfl
  | succ k ih =>
    intro n S h1 h2
    rw [b_X11_feed_35, show dn (k + 1) = nI k from rfl, if_neg (nI_pos (by omega)), e_X5_append, h1, if_pos (show nI n < 120 from nI_lt (b := 120) (by omega) (by decide)), put_2, pv_nI (by omega) (by decide)]
    simp only [Option.bind_some, Option.toList_none, List.append_nil, b_X5_append_22, b_X11_feed_59]
    rw [dn_p, wi_n (by decide), h1, nI_1]
    obtain ⟨S', e1, e2, e3, e4, e5, e6⟩ := ih (n + 1) (a_wi (a_wi S 2 n (((w >>> ((16 * nI k).toInt64 &&& 63)) &&& 65535).toInt32)) 1 1 (nI (n + 1))) (wi_v _ _ _ _) (by omega)
    rw [e1]
    refine ⟨S', by rw [show n + 1 + k = n + (k + 1) by omega], by rw [e2, show n + 1 + k = n + (k + 1) by omega], ?_, e4, fun c a b d => ?_, e6⟩
    · rw [e3, wi_n (by decide), wi_e]; rfl
    · rw [e5 c a b d, wi_n b, wi_n d]
theorem X12_feedl (w : Int64) : ∀ k n S, S.1 56 1 = nI n → n + k ≤ 120 → ∃ S', g_X12_feed 31 [.ref 56, .long w, .null, .null, .int (dn k)] [] S = some (some (.int (nI (n + k))), S') ∧ S'.1 56 1 = nI (n + k) ∧ S'.1 57 = fd w k n (S.1 57) ∧ (∀ j, j ≠ 1 → S'.1 56 j = S.1 56 j) ∧ (∀ c, c ≠ 56 → c ≠ 57 → S'.1 c = S.1 c) ∧ S'.2 = S.2 := by
  intro k
  induction k with
  | zero =>
    intro n S h1 h2
    rw [b_X12_feed_31, if_pos (by decide), h1]
    exact ⟨_, rfl, h1, rfl, fun _ _ => rfl, fun _ _ _ => rfl, rfl⟩
  | succ k ih =>
    intro n S h1 h2
    rw [b_X12_feed_31, show dn (k + 1) = nI k from rfl, if_neg (nI_pos (by omega)), h1, if_neg (nI_out (by omega) (by decide)), nI_clamp (by omega)]
    rw [dn_p, nI_1]
    obtain ⟨S', e1, e2, e3, e4, e5, e6⟩ := ih (n + 1) (a_wi (a_wi S 57 n (((w >>> ((16 * nI k).toInt64 &&& 63)) &&& 65535).toInt32)) 56 1 (nI (n + 1))) (wi_v _ _ _ _) (by omega)
    rw [e1]
    refine ⟨S', by rw [show n + 1 + k = n + (k + 1) by omega], by rw [e2, show n + 1 + k = n + (k + 1) by omega], ?_, fun j hj => ?_, fun c a b => ?_, e6⟩
    · rw [e3, wi_n (by decide), wi_e]; rfl
    · rw [e4 j hj, wi_s hj, wi_n (by decide)]
    · rw [e5 c a b, wi_n a, wi_n b]
/-- a change of the line on both sides -/
theorem i_I_line {n m N W H Z T U R G D k : Nat} {S S2 : a_M} (h : i_P n m N W H Z T U R G D S) (h1 : k ≤ 120) (h2 : S2.1 1 1 = nI k) (h3 : S2.1 56 1 = nI k) (h4 : S2.1 2 = S2.1 57) (h0 : S2.1 0 10 = 0)
    (h5 : ∀ c, c ≠ 0 → c ≠ 1 → c ≠ 2 → c < 56 → S2.1 c = S.1 c) (h6 : ∀ c, 57 < c → S2.1 c = S.1 c) (h7 : ∀ j, j ≠ 1 → S2.1 56 j = S.1 56 j) (h8 : S2.2 = S.2) : i_I S2 := by
  refine ⟨⟨k, m, N, W, H, Z, T, U, R, G, D, ?_⟩, i_text_0 h0⟩
  unfold i_P i_L i_F i_B i_H i_Z i_T i_U i_R i_G i_A i_D at h ⊢
  simp (disch := decide) only [h5, h6, h7, h8]
  exact ⟨⟨h1, h2, h3, h4⟩, h.2⟩
theorem op_feed (w : Int64) (a : Int32) : i_Op (fun S => x_X11_feed [.ref 0, .long w, .int a] S) (fun S => x_X12_feed [.ref 56, .long w, .int a] S) := by
  rintro S ⟨⟨n, m, N, W, H, Z, T, U, R, G, D, hP⟩, hX⟩
  obtain ⟨l1, l2, l3, l4⟩ := hP.1
  have hS : i_I S := ⟨⟨n, m, N, W, H, Z, T, U, R, G, D, hP⟩, hX⟩
  dsimp only
  rw [e_X11_feed]
  simp only [e_X12_feed, X12_in, Option.bind_some, Option.toList_some, List.append_nil, b_X12_feed_6, b2i_z]
  by_cases h1 : a < 1
  · rw [if_pos h1]
    exact ⟨_, S, S, rfl, by rw [if_pos (fun q => q.1 h1)], hS⟩
  · rw [if_neg h1]
    by_cases h2 : 4 < a
    · rw [if_pos h2]
      exact ⟨_, S, S, rfl, by rw [if_pos (fun q => q.2 h2)], hS⟩
    · rw [if_neg h2]
      obtain ⟨k, k1, k2, rfl⟩ := rg_of (a := 1) (b := 4) rfl rfl (by decide) (by decide) h1 h2
      rw [l2, show (120 : Int32) = nI 120 from rfl, pk_sub (by omega)]
      by_cases h3 : 120 - k < n
      · rw [if_pos (nI_lt h3 (by omega))]
        exact ⟨_, S, S, rfl, by rw [if_neg (not_not_intro ⟨h1, h2⟩), l3, nI_add, if_pos (nI_lt (by omega) (by omega))], hS⟩
      · rw [if_neg (nI_nlt (by omega) (by omega)), dn_m]
        obtain ⟨S1, e1, e2, e3, e4, e5, e6⟩ := X11_feedl w k n S l2 (by omega)
        have l31 : S1.1 56 1 = nI n := by rw [e5 56 (by decide) (by decide) (by decide)]; exact l3
        obtain ⟨S2, f1, f2, f3, f4, f5, f6⟩ := X12_feedl w k n S1 l31 (by omega)
        refine ⟨_, S1, S2, e1, ?_, ?_⟩
        · rw [if_neg (not_not_intro ⟨h1, h2⟩), l31, nI_add, if_neg (nI_nlt (by omega) (by omega)), f1]
        · refine i_I_line hP (k := n + k) (by omega) ?_ f2 ?_ ?_ (fun c a b d e => ?_) (fun c a => ?_) (fun j hj => ?_) (f6.trans e6)
          · rw [f5 1 (by decide) (by decide)]; exact e2
          · rw [f5 2 (by decide) (by decide), f3, e3, l4, e5 57 (by decide) (by decide) (by decide)]
          · rw [f5 0 (by decide) (by decide)]; exact e4
          · rw [f5 c (by omega) (by omega)]; exact e5 c a b d
          · rw [f5 c (by omega) (by omega)]; exact e5 c (by omega) (by omega) (by omega)
          · rw [f4 j hj]; rw [e5 56 (by decide) (by decide) (by decide)]
theorem op_drop : i_Op (fun S => x_X11_drop [.ref 0] S) (fun S => x_X12_drop [.ref 56] S) := by
  rintro S ⟨⟨n, m, N, W, H, Z, T, U, R, G, D, hP⟩, hX⟩
  obtain ⟨l1, l2, l3, l4⟩ := hP.1
  dsimp only
  rw [e_X11_drop, e_X5_clear]
  simp only [Option.bind_some, Option.toList_none, List.append_nil, b_X11_drop_15, e_X12_drop]
  refine ⟨_, _, _, rfl, ?_, i_I_line hP (k := 0) (S2 := a_wi (a_wi (a_wi S 1 1 0) 0 10 0) 56 1 0) (by omega) ?_ ?_ ?_ ?_ (fun c a b d e => ?_) (fun c a => ?_) (fun j hj => ?_) rfl⟩
  · rw [wi_n (by decide), wi_n (by decide), l3, l2]
  · simp [wi_at, nI_0]
  · simp [wi_at, nI_0]
  · simp (disch := decide) only [wi_n]; exact l4
  · simp [wi_at]
  · rw [wi_n (by omega), wi_n (by omega), wi_n (by omega)]
  · rw [wi_n (by omega), wi_n (by omega), wi_n (by omega)]
  · rw [wi_s hj, wi_n (by decide), wi_n (by decide)]
theorem op_count (a : Int32) : i_Op (fun S => x_X11_count [.ref 0, .int a] S) (fun S => x_X12_count [.ref 56, .int a] S) := by
  rintro S ⟨⟨n, m, N, W, H, Z, T, U, R, G, D, hP⟩, hX⟩
  have hS : i_I S := ⟨⟨n, m, N, W, H, Z, T, U, R, G, D, hP⟩, hX⟩
  obtain ⟨hL, hF, hB, hH, hZ, hT, hU, hR, hG, hA, hD⟩ := hP
  dsimp only
  rw [e_X11_count]
  simp only [e_X12_count]
  have key : ∀ {r s : Int32} {A B : a_M → Option a_O} {c : Prop} [Decidable c], r = s → (∃ r S1 S2, A S = some (some (.int r), S1) ∧ B S1 = some (some (.int r), S2) ∧ i_I S2) → True := fun _ _ => trivial
  by_cases h0 : a = 0
  · refine ⟨S.1 1 1, S, S, by rw [if_pos h0], ?_, hS⟩
    rw [if_pos h0, hL.2.1, hL.2.2.1]
  by_cases h1 : a = 1
  · refine ⟨S.1 12 8, S, S, by rw [if_neg h0, if_pos h1], ?_, hS⟩
    rw [if_neg h0, if_pos h1, hB.2.2.1, hB.2.2.2.1]
  by_cases h2 : a = 2
  · refine ⟨S.1 12 9, S, S, by rw [if_neg h0, if_neg h1, if_pos h2], ?_, hS⟩
    rw [if_neg h0, if_neg h1, if_pos h2, hH.2.1, hH.2.2.1]
  by_cases h3 : a = 3
  · refine ⟨S.1 20 13, S, S, by rw [if_neg h0, if_neg h1, if_neg h2, if_pos h3], ?_, hS⟩
    rw [if_neg h0, if_neg h1, if_neg h2, if_pos h3, hZ.2.1, hZ.2.2.1]
  by_cases h4 : a = 4
  · refine ⟨S.1 20 14, S, S, by rw [if_neg h0, if_neg h1, if_neg h2, if_neg h3, if_pos h4], ?_, hS⟩
    rw [if_neg h0, if_neg h1, if_neg h2, if_neg h3, if_pos h4, hT.2.1, hT.2.2.1]
  by_cases h5 : a = 5
  · refine ⟨S.1 20 15, S, S, by rw [if_neg h0, if_neg h1, if_neg h2, if_neg h3, if_neg h4, if_pos h5], ?_, hS⟩
    rw [if_neg h0, if_neg h1, if_neg h2, if_neg h3, if_neg h4, if_pos h5, hU.2.1, hU.2.2.1]
  by_cases h6 : a = 6
  · refine ⟨S.1 20 16, S, S, by rw [if_neg h0, if_neg h1, if_neg h2, if_neg h3, if_neg h4, if_neg h5, if_pos h6], ?_, hS⟩
    rw [if_neg h0, if_neg h1, if_neg h2, if_neg h3, if_neg h4, if_neg h5, if_pos h6, hR.2.1, hR.2.2.1]
  by_cases h7 : a = 7
  · refine ⟨S.1 34 3, S, S, by rw [if_neg h0, if_neg h1, if_neg h2, if_neg h3, if_neg h4, if_neg h5, if_neg h6, if_pos h7], ?_, hS⟩
    rw [if_neg h0, if_neg h1, if_neg h2, if_neg h3, if_neg h4, if_neg h5, if_neg h6, if_pos h7, hG.2.1, hG.2.2.1]
  by_cases h8 : a = 8
  · refine ⟨S.1 38 2, S, S, by rw [if_neg h0, if_neg h1, if_neg h2, if_neg h3, if_neg h4, if_neg h5, if_neg h6, if_neg h7, if_pos h8], ?_, hS⟩
    rw [if_neg h0, if_neg h1, if_neg h2, if_neg h3, if_neg h4, if_neg h5, if_neg h6, if_neg h7, if_pos h8, hD.2.1, hD.2.2.1]
  by_cases h9 : a = 9
  · refine ⟨S.1 3 3, S, S, by rw [if_neg h0, if_neg h1, if_neg h2, if_neg h3, if_neg h4, if_neg h5, if_neg h6, if_neg h7, if_neg h8, if_pos h9], ?_, hS⟩
    rw [if_neg h0, if_neg h1, if_neg h2, if_neg h3, if_neg h4, if_neg h5, if_neg h6, if_neg h7, if_neg h8, if_pos h9, hF.2.1, hF.2.2.1]
  refine ⟨-2, S, S, by rw [if_neg h0, if_neg h1, if_neg h2, if_neg h3, if_neg h4, if_neg h5, if_neg h6, if_neg h7, if_neg h8, if_neg h9], ?_, hS⟩
  rw [if_neg h0, if_neg h1, if_neg h2, if_neg h3, if_neg h4, if_neg h5, if_neg h6, if_neg h7, if_neg h8, if_neg h9]
theorem op_unitAt (a : Int32) : i_Op (fun S => x_X11_unitAt [.ref 0, .int a] S) (fun S => x_X12_unitAt [.ref 56, .int a] S) := by
  rintro S ⟨⟨n, m, N, W, H, Z, T, U, R, G, D, hP⟩, hX⟩
  have hS : i_I S := ⟨⟨n, m, N, W, H, Z, T, U, R, G, D, hP⟩, hX⟩
  obtain ⟨l1, l2, l3, l4⟩ := hP.1
  dsimp only
  rw [e_X11_unitAt, e_X5_get, l2]
  simp only [e_X12_unitAt, X12_in, Option.bind_some, Option.toList_some, List.append_nil, b_X12_unitAt_11, b2i_z, l3, at_2, b_X5_get_16, b_X11_unitAt_8]
  have hi := in_ixp (a := a) (N := n) (by omega)
  by_cases h : ixp a n
  · obtain ⟨k, hk, rfl⟩ := ixp_of (by omega) h
    refine ⟨S.1 2 k, S, S, ?_, ?_, hS⟩
    · rw [if_pos h.2]
      simp only [Option.bind_some, Option.toList_some, List.append_nil, b_X11_unitAt_8]
      rw [av_nI (by omega) (by decide)]
    · rw [l3, if_neg (not_not_intro (hi.mpr h)), if_neg (nI_out (by omega) (by decide)), nI_clamp (by omega), l4]
  · refine ⟨-1, S, S, ?_, ?_, hS⟩
    · by_cases h0 : a < 0
      · rw [av_neg h0]
        simp only [Option.bind_some, Option.toList_some, List.append_nil, b_X11_unitAt_8, ite_self]
      · rw [if_neg (fun q => h ⟨h0, q⟩)]
        simp only [Option.bind_some, Option.toList_some, List.append_nil, b_X11_unitAt_8]
    · rw [l3, if_pos (fun q => h (hi.mp q))]
