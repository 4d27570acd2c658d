/-! ===== longs; cost and mark (the wb_ rows: a starting text of kit/laws) ===== -/
theorem wb_tb (n : Nat) : (lN n).toBitVec = BitVec.ofNat 64 n := rfl
theorem wb_inj {a b : Int64} (h : a.toBitVec = b.toBitVec) : a = b := Int64.toBitVec_inj.mp h
theorem wb_tn {n : Nat} (h : n < 2 ^ 64) : (lN n).toBitVec.toNat = n := by rw [wb_tb, BitVec.toNat_ofNat, Nat.mod_eq_of_lt h]
theorem wb_of (x : Int64) : ∃ n, n < 2 ^ 64 ∧ x = lN n := ⟨x.toBitVec.toNat, x.toBitVec.isLt, wb_inj (by rw [wb_tb]; simp)⟩
theorem wb_of32 (x : Int32) : ∃ n, n < 2 ^ 32 ∧ x = nI n := ⟨x.toBitVec.toNat, x.toBitVec.isLt, Int32.toBitVec_inj.mp (by show _ = BitVec.ofNat 32 _; simp)⟩
theorem wb_c : ∀ k, k < 64 → ((nI k).toInt64 &&& 63) = lN k := by decide +kernel
theorem wb_cu : ∀ k, k < 64 → ((nI k).toInt64.toUInt64 &&& Int64.toUInt64 63) = UInt64.ofNat k := by decide +kernel
theorem wb_sm : ∀ k, k < 64 → (BitVec.ofNat 64 k).smod 64 = BitVec.ofNat 64 k := by decide +kernel
theorem wb_pw {a b : Nat} (h : a ≤ b) : 2 ^ b = 2 ^ a * 2 ^ (b - a) := by rw [← Nat.pow_add]; congr 1; omega
theorem wb_lt2 {a b : Nat} (h : a < b) : 2 ^ a < 2 ^ b := Nat.pow_lt_pow_right (by decide) h
theorem wb_mod (n : Nat) : lN n = lN (n % 2 ^ 64) := wb_inj (by rw [wb_tb, wb_tb]; apply BitVec.eq_of_toNat_eq; rw [BitVec.toNat_ofNat, BitVec.toNat_ofNat, Nat.mod_mod])
theorem wb_shl (n : Nat) {k : Nat} (hk : k < 64) : lN n <<< ((nI k).toInt64 &&& 63) = lN (n * 2 ^ k) := by
  rw [wb_c k hk]
  apply wb_inj
  rw [Int64.toBitVec_shiftLeft, wb_tb, wb_tb, wb_tb, wb_sm k hk]
  apply BitVec.eq_of_toNat_eq
  rw [BitVec.shiftLeft_eq', BitVec.toNat_shiftLeft, BitVec.toNat_ofNat, BitVec.toNat_ofNat, BitVec.toNat_ofNat, Nat.mod_eq_of_lt (show k < 2 ^ 64 by omega), Nat.shiftLeft_eq, Nat.mul_mod, Nat.mod_mod, ← Nat.mul_mod]
theorem wb_and {a b : Nat} (ha : a < 2 ^ 64) (hb : b < 2 ^ 64) : lN a &&& lN b = lN (a &&& b) := by
  apply wb_inj
  rw [Int64.toBitVec_and, wb_tb, wb_tb, wb_tb]
  apply BitVec.eq_of_toNat_eq
  rw [BitVec.toNat_and, BitVec.toNat_ofNat, BitVec.toNat_ofNat, BitVec.toNat_ofNat, Nat.mod_eq_of_lt ha, Nat.mod_eq_of_lt hb, Nat.mod_eq_of_lt (Nat.and_lt_two_pow _ hb)]
theorem wb_or {a b : Nat} (ha : a < 2 ^ 64) (hb : b < 2 ^ 64) : lN a ||| lN b = lN (a ||| b) := by
  apply wb_inj
  rw [Int64.toBitVec_or, wb_tb, wb_tb, wb_tb]
  apply BitVec.eq_of_toNat_eq
  rw [BitVec.toNat_or, BitVec.toNat_ofNat, BitVec.toNat_ofNat, BitVec.toNat_ofNat, Nat.mod_eq_of_lt ha, Nat.mod_eq_of_lt hb, Nat.mod_eq_of_lt (Nat.or_lt_two_pow ha hb)]
theorem wb_mask {n k : Nat} (hn : n < 2 ^ 64) (hk : k < 64) : lN n &&& lN (2 ^ k - 1) = lN (n % 2 ^ k) := by
  rw [wb_and hn (by have := wb_lt2 hk; omega), Nat.and_two_pow_sub_one_eq_mod]
theorem wb_a1 {n : Nat} (hn : n < 2 ^ 64) : lN n &&& 1 = lN (n % 2) := wb_mask (k := 1) hn (by decide)
theorem lN_63 {n : Nat} (h : n < 2 ^ 63) : (lN n).toInt = (n : Int) := by
  show (Int64.ofNat n).toInt = _
  exact Int64.toInt_ofNat_of_lt h
theorem lN_lt63 {a b : Nat} (ha : a < 2 ^ 63) (hb : b < 2 ^ 63) : lN a < lN b ↔ a < b := by
  rw [Int64.lt_iff_toInt_lt, lN_63 ha, lN_63 hb]
  omega
theorem lN_le63 {a b : Nat} (ha : a < 2 ^ 63) (hb : b < 2 ^ 63) : lN a ≤ lN b ↔ a ≤ b := by
  rw [Int64.le_iff_toInt_le, lN_63 ha, lN_63 hb]
  omega
theorem lN_eq63 {a b : Nat} (ha : a < 2 ^ 63) (hb : b < 2 ^ 63) : lN a = lN b ↔ a = b := by
  constructor
  · intro h
    have := congrArg Int64.toInt h
    rw [lN_63 ha, lN_63 hb] at this
    omega
  · intro h; rw [h]
theorem lN_sshr {n k : Nat} (hn : n < 2 ^ 63) (hk : k < 64) : lN n >>> ((nI k).toInt64 &&& 63) = lN (n / 2 ^ k) := by
  rw [wb_c k hk]
  apply wb_inj
  rw [Int64.toBitVec_shiftRight, wb_tb, wb_tb, wb_tb, wb_sm k hk]
  apply BitVec.eq_of_toNat_eq
  have hm : (BitVec.ofNat 64 n).msb = false := by
    rw [BitVec.msb_eq_false_iff_two_mul_lt, BitVec.toNat_ofNat, Nat.mod_eq_of_lt (by omega)]
    omega
  have e1 : (BitVec.ofNat 64 k).toNat = k := by rw [BitVec.toNat_ofNat, Nat.mod_eq_of_lt (by omega)]
  show ((BitVec.ofNat 64 n).sshiftRight (BitVec.ofNat 64 k).toNat).toNat = _
  rw [e1, BitVec.sshiftRight_eq_of_msb_false hm, BitVec.toNat_ushiftRight, BitVec.toNat_ofNat, BitVec.toNat_ofNat, Nat.mod_eq_of_lt (by omega), Nat.shiftRight_eq_div_pow, Nat.mod_eq_of_lt]
  exact Nat.lt_of_le_of_lt (Nat.div_le_self _ _) (by omega)
theorem e_ms_lt {w : Nat → Nat} : ∀ d i, (∀ j, i ≤ j → j < i + d → w j < 8) → e_ms w i d < 8 ^ d := by
  intro d
  induction d with
  | zero => intro i _; exact Nat.lt_succ_self 0
  | succ d ih =>
    intro i h
    have h1 := ih (i + 1) (fun j a b => h j (by omega) (by omega))
    have h2 := h i (by omega) (by omega)
    show w i * 8 ^ d + e_ms w (i + 1) d < 8 ^ (d + 1)
    have h3 : w i * 8 ^ d ≤ 7 * 8 ^ d := Nat.mul_le_mul_right _ (by omega)
    have h4 : 8 ^ (d + 1) = 8 * 8 ^ d := by rw [Nat.pow_succ, Nat.mul_comm]
    omega
theorem e_dig {w : Nat → Nat} : ∀ d i t j, (∀ j, i ≤ j → j < i + d → w j < 8) → j < d → (t * 8 ^ d + e_ms w i d) / 8 ^ (d - 1 - j) % 8 = w (i + j) := by
  intro d
  induction d with
  | zero => intro i t j _ h; omega
  | succ d ih =>
    intro i t j h hj
    have e : t * 8 ^ (d + 1) + e_ms w i (d + 1) = (8 * t + w i) * 8 ^ d + e_ms w (i + 1) d := by
      show t * 8 ^ (d + 1) + (w i * 8 ^ d + e_ms w (i + 1) d) = _
      rw [Nat.pow_succ, Nat.add_mul, ← Nat.add_assoc]
      congr 2
      rw [Nat.mul_comm (8 ^ d) 8, ← Nat.mul_assoc, Nat.mul_comm t 8]
    rw [e]
    cases j with
    | zero =>
      have h1 := e_ms_lt (w := w) d (i + 1) (fun j a b => h j (by omega) (by omega))
      have h2 := h i (by omega) (by omega)
      rw [show d + 1 - 1 - 0 = d by omega, Nat.add_comm, Nat.add_mul_div_right _ _ (Nat.pow_pos (by decide)), Nat.div_eq_of_lt h1, Nat.add_zero]
      omega
    | succ j =>
      rw [show d + 1 - 1 - (j + 1) = d - 1 - j by omega, ih (i + 1) _ j (fun j a b => h j (by omega) (by omega)) (by omega), show i + 1 + j = i + (j + 1) by omega]
theorem e_pow {k : Nat} (hk : k ≤ 14) (c : Nat) : c * 8 ^ 14 = c * 8 ^ (14 - k) * 8 ^ k := by
  rw [Nat.mul_assoc, ← Nat.pow_add, Nat.sub_add_cancel hk]
/-- what stands for a way: its cost, its marks from place k on, n words in all -/
abbrev e_way (c : Nat) (w : Nat → Nat) (k d : Nat) : Nat := c * 8 ^ 14 + e_ms w k d
theorem e_way_lt {c : Nat} {w : Nat → Nat} {k d : Nat} (hc : c ≤ 1000) (hd : d ≤ 14) (h : ∀ j, k ≤ j → j < k + d → w j < 8) : e_way c w k d < 2 ^ 53 := by
  have h1 := e_ms_lt (w := w) d k h
  have h2 : 8 ^ d ≤ 8 ^ 14 := Nat.pow_le_pow_right (by decide) hd
  have h3 : c * 8 ^ 14 ≤ 1000 * 8 ^ 14 := Nat.mul_le_mul_right _ hc
  have h4 : 1001 * 8 ^ 14 < 2 ^ 53 := by decide
  unfold e_way
  omega
theorem mark_of {c : Nat} {w : Nat → Nat} {n j : Nat} {S : a_M} (hc : c ≤ 1000) (hn : n ≤ 14) (h : ∀ j, j < n → w j < 8) (hj : j < n) : x_X7_markOf [.long (lN (e_way c w 0 n)), .int (nI j), .int (nI n)] S = some (some (.int (nI (w j))), S) := by
  have hlt := e_way_lt (k := 0) hc hn (fun j _ a => h j (by omega))
  rw [e_X7_markOf, show nI n - 1 = nI (n - 1) from by rw [show (1 : Int32) = nI 1 from rfl, pk_sub (by omega)], pk_sub (by omega), show (3 : Int32) = nI 3 from rfl, pk_mul, lN_sshr (by omega) (by omega), lN_i, pk_and _ 3 (by decide)]
  have e1 : (nI (e_way c w 0 n / 2 ^ (3 * (n - 1 - j)))).toBitVec.toNat = e_way c w 0 n / 2 ^ (3 * (n - 1 - j)) % 2 ^ 32 := BitVec.toNat_ofNat _ _
  rw [e1, Nat.mod_mod_of_dvd _ (show 2 ^ 3 ∣ 2 ^ 32 from ⟨2 ^ 29, by decide⟩), Nat.pow_mul]
  have e2 := e_dig (w := w) n 0 (c * 8 ^ (14 - n)) j (fun j _ a => h j (by omega)) hj
  rw [← e_pow hn, Nat.zero_add] at e2
  show some (some (Value.int (nI (e_way c w 0 n / 8 ^ (n - 1 - j) % 8))), S) = _
  rw [show e_way c w 0 n / 8 ^ (n - 1 - j) % 8 = w j from e2]
theorem op_cost : i_Op (fun S => x_X11_cost [.ref 0] S) (fun S => x_X12_cost [.ref 56] S) := by
  rintro S ⟨⟨n, m, N, W, H, Z, T, U, R, G, D, hP⟩, hX⟩
  have hS : i_I S := ⟨⟨n, m, N, W, H, Z, T, U, R, G, D, hP⟩, hX⟩
  obtain ⟨k, w, c, h1, h2, h3, h4, h5, h6, h7⟩ := hP.2.2.2.2.2.2.2.2.2.1
  dsimp only
  have hw : ∀ j, 0 ≤ j → j < 0 + k → w j < 8 := fun j _ a => by have := (h6 j (by omega)).1; omega
  have hlt := e_way_lt (k := 0) h5 h1 hw
  have hms := e_ms_lt (w := w) k 0 hw
  have h8 : 8 ^ k ≤ 8 ^ 14 := Nat.pow_le_pow_right (by decide) h1
  have e1 : (lN (e_way c w 0 k) >>> ((42 : Int32).toInt64 &&& 63)).toInt32 = nI c := by
    rw [show (42 : Int32) = nI 42 from rfl, lN_sshr (by omega) (by decide), lN_i]
    congr 1
    show (c * 8 ^ 14 + e_ms w 0 k) / 8 ^ 14 = c
    rw [Nat.add_comm, Nat.add_mul_div_right _ _ (by decide), Nat.div_eq_of_lt (by omega), Nat.zero_add]
  rw [e_X11_cost, e_X7_latestCost, h7]
  simp only [Option.bind_some, Option.toList_some, List.append_nil, b_X11_cost_7, e_X12_cost]
  exact ⟨_, S, S, rfl, by rw [h4]; exact congrArg (fun x => some (some (Value.int x), S)) e1.symm, hS⟩
theorem op_mark (a : Int32) : i_Op (fun S => x_X11_mark [.ref 0, .int a] S) (fun S => x_X12_mark [.ref 56, .int a] S) := by
  rintro S ⟨⟨n, m, N, W, H, Z, T, U, R, G, D, hP⟩, hX⟩
  have hS : i_I S := ⟨⟨n, m, N, W, H, Z, T, U, R, G, D, hP⟩, hX⟩
  obtain ⟨k, w, c, h1, h2, h3, h4, h5, h6, h7⟩ := hP.2.2.2.2.2.2.2.2.2.1
  have m5 : x_X12_mark [.ref 56, .int a] S = if ¬ ixp a k then some (some (.int (-1)), S) else (if a < 0 ∨ 14 ≤ a.toNatClampNeg then none else some (some (.int (S.1 84 a.toNatClampNeg)), S)) := by
    rw [e_X12_mark, X12_in, h3, b2i_c (in_ixp (by omega))]
    simp only [Option.bind_some, Option.toList_some, List.append_nil, b_X12_mark_11, b2i_z]
  dsimp only
  rw [e_X11_mark, e_X7_latestMark, h2, h7]
  by_cases ha : ixp a k
  · rw [if_neg (not_not_intro ha)] at m5
    obtain ⟨j, hj, rfl⟩ := ixp_of (by omega) ha
    have hw : ∀ j, j < k → w j < 8 := fun j a => by have := (h6 j a).1; omega
    rw [if_neg ha.1, if_pos ha.2]
    have hmk := mark_of (S := S) h5 h1 hw hj
    unfold e_way at hmk
    rw [hmk]
    simp only [Option.bind_some, Option.toList_some, List.append_nil, b_X7_latestMark_24, b_X11_mark_8]
    refine ⟨_, S, S, rfl, ?_, hS⟩
    rw [m5, if_neg (nI_out (by omega) (by decide)), nI_clamp (by omega), (h6 j hj).2]
  · rw [if_pos ha] at m5
    refine ⟨-1, S, S, ?_, m5, hS⟩
    by_cases h0 : a < 0
    · rw [if_pos h0]
      simp only [Option.bind_some, Option.toList_some, List.append_nil, b_X11_mark_8]
    · rw [if_neg h0, if_neg (fun q => ha ⟨h0, q⟩)]
      simp only [Option.bind_some, Option.toList_some, List.append_nil, b_X11_mark_8]
