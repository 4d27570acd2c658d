/-! ===== slips ===== -/
theorem J9_max (a b : Int32) (S : a_M) : x_J9_max_7cf53 [.int a, .int b] S = some (some (.int (if a < b then b else a)), S) := rfl
theorem J9_min (a b : Int32) (S : a_M) : x_J9_min_7cf53 [.int a, .int b] S = some (some (.int (if b < a then b else a)), S) := rfl
theorem J9_minl (a b : Int64) (S : a_M) : x_J9_min_f86c9 [.long a, .long b] S = some (some (.long (if b < a then b else a)), S) := rfl
/-- how many of the first n hold, one behind the other -/
def run (p : Nat → Bool) : Nat → Nat
  | 0 => 0
  | n + 1 => if run p n = n ∧ p n = true then n + 1 else run p n
theorem run_le (p : Nat → Bool) : ∀ n, run p n ≤ n := by
  intro n
  induction n with
  | zero => exact Nat.le_refl _
  | succ n ih =>
    unfold run
    split <;> omega
theorem run_all (p : Nat → Bool) : ∀ n i, i < run p n → p i = true := by
  intro n
  induction n with
  | zero => intro i h; exact absurd h (Nat.not_lt_zero _)
  | succ n ih =>
    intro i h
    unfold run at h
    split at h
    · rename_i h1
      rcases Nat.lt_or_ge i n with h2 | h2
      · exact ih i (by omega)
      · rw [show i = n by omega]; exact h1.2
    · exact ih i h
theorem run_stop (p : Nat → Bool) : ∀ n, run p n < n → p (run p n) = false := by
  intro n
  induction n with
  | zero => intro h; exact absurd h (Nat.not_lt_zero _)
  | succ n ih =>
    intro h
    have hle := run_le p n
    unfold run at h ⊢
    by_cases h1 : run p n = n ∧ p n = true
    · rw [if_pos h1] at h; omega
    · rw [if_neg h1] at h ⊢
      by_cases h2 : run p n = n
      · cases hx : p (run p n)
        · rfl
        · exact absurd ⟨h2, by rw [h2] at hx; exact hx⟩ h1
      · exact ih (by omega)
theorem run_eq {p : Nat → Bool} {n r : Nat} (h1 : r ≤ n) (h2 : ∀ i, i < r → p i = true) (h3 : r = n ∨ p r = false) : run p n = r := by
  have a1 := run_le p n
  rcases Nat.lt_trichotomy (run p n) r with h | h | h
  · have := run_stop p n (by omega)
    rw [h2 _ h] at this; cases this
  · exact h
  · rcases h3 with h3 | h3
    · omega
    · have := run_all p n r h
      rw [h3] at this; cases this
/-- a loop that counts how far p holds -/
theorem lp_run {β : Type} (g : Nat → β) (out : Nat → β) (p : Nat → Bool) (n : Nat) (h1 : ∀ i, i < n → g i = if p i = true then g (i + 1) else out i) (h2 : g n = out n) : g 0 = out (run p n) := by
  have key := lp_first g n (fun i => ¬ p i = true) out (fun i hi hq => by rw [h1 i hi, if_neg hq]) (fun i hi hq => by rw [h1 i hi, if_pos (Decidable.not_not.mp hq)])
  rcases key with ⟨i, k1, k2, k3, k4⟩ | ⟨k1, k2⟩
  · rw [k4, run_eq (r := i) (by omega) (fun j hj => Decidable.not_not.mp (k3 j hj)) (Or.inr (by cases hx : p i <;> simp_all))]
  · rw [k2, h2, run_eq (r := n) (Nat.le_refl _) (fun j hj => Decidable.not_not.mp (k1 j hj)) (Or.inl rfl)]
/-- signs f of a word of b signs and word k of the line: alike ahead, alike behind -/
abbrev sl_a (P : q_P) (k b : Nat) (f : Nat → Int32) : Nat := run (fun i => decide (q_sg P k i = f i)) (min (q_len P k) b)
abbrev sl_b (P : q_P) (k b : Nat) (f : Nat → Int32) : Nat := run (fun i => decide (q_sg P k (q_len P k - 1 - i) = f (b - 1 - i))) (min (q_len P k) b - sl_a P k b f)
abbrev slp (P : q_P) (k b : Nat) (f : Nat → Int32) : Prop := 4 ≤ b ∧ q_len P k ≤ b + 1 ∧ b ≤ q_len P k + 1 ∧ sl_a P k b f + sl_b P k b f = max (q_len P k) b - 1
theorem run_congr {p q : Nat → Bool} : ∀ n, (∀ i, i < n → p i = q i) → run p n = run q n := by
  intro n
  induction n with
  | zero => intro _; rfl
  | succ n ih =>
    intro h
    unfold run
    rw [ih (fun i hi => h i (by omega)), h n (by omega)]
theorem slp_congr {P : q_P} {k b : Nat} {f g : Nat → Int32} (h : ∀ i, i < b → f i = g i) : slp P k b f ↔ slp P k b g := by
  have e1 : sl_a P k b f = sl_a P k b g := run_congr _ (fun i hi => by rw [h i (by omega)])
  have e2 : sl_b P k b f = sl_b P k b g := by
    unfold sl_b
    rw [e1]
    refine run_congr _ (fun i hi => ?_)
    rw [h (b - 1 - i) (by omega)]
  unfold slp
  rw [e1, e2]
theorem X2_hasOneSlip {P : q_P} {S : a_M} {k w b : Nat} (ok : q_ok P) (hc : q_c P S) (hk : k < P.1) (hw : w < 240) (hb : S.1 14 w = nI b) (hb16 : b ≤ 16) : x_X2_hasOneSlip [.ref 41, .int (nI k), .int (nI w)] S = some (some (.int (b2i (slp P k b (fun i => S.1 13 (w * 16 + i))))), S) := by
  have ha := ok.1.2.2.1 k hk
  generalize hR : b2i (slp P k b (fun i => S.1 13 (w * 16 + i))) = rr
  rw [e_X2_hasOneSlip, X10_lengthOf ok hc hk]
  simp only [Option.bind_some, Option.toList_some, List.append_nil, b_X2_hasOneSlip_8]
  rw [X0_lengthOf hw, hb]
  simp only [Option.bind_some, Option.toList_some, List.append_nil, b_X2_hasOneSlip_17, J9_max, b_X2_hasOneSlip_25, J9_min, b_X2_hasOneSlip_33]
  have emax : (if nI (q_len P k) < nI b then nI b else nI (q_len P k)) = nI (max (q_len P k) b) := by
    by_cases h : q_len P k < b
    · rw [if_pos (nI_lt h (by omega)), Nat.max_eq_right (by omega)]
    · rw [if_neg (nI_nlt (by omega) (by omega)), Nat.max_eq_left (by omega)]
  have emin : (if nI b < nI (q_len P k) then nI b else nI (q_len P k)) = nI (min (q_len P k) b) := by
    by_cases h : b < q_len P k
    · rw [if_pos (nI_lt h (by omega)), Nat.min_eq_right (by omega)]
    · rw [if_neg (nI_nlt (by omega) (by omega)), Nat.min_eq_left (by omega)]
  rw [emax, emin, pk_sub (by omega)]
  by_cases h4 : b < 4
  · rw [if_pos (show nI b < 4 from nI_lt (b := 4) h4 (by decide)), ← hR, b2i_f (fun q => by have := q.1; omega)]
  rw [if_neg (show ¬ nI b < 4 from nI_nlt (b := 4) (by omega) (by omega))]
  by_cases h1 : 1 < max (q_len P k) b - min (q_len P k) b
  · rw [if_pos (show (1 : Int32) < nI (max (q_len P k) b - min (q_len P k) b) from nI_lt (a := 1) h1 (by omega)), ← hR, b2i_f (fun q => by have := q.2.1; have := q.2.2.1; omega)]
  rw [if_neg (show ¬ (1 : Int32) < nI (max (q_len P k) b - min (q_len P k) b) from fun q => h1 ((nI_ltI (a := 1) (by decide) (by omega)).mp q))]
  obtain ⟨mn, hmn⟩ : ∃ mn, mn = min (q_len P k) b := ⟨_, rfl⟩
  obtain ⟨mx, hmx⟩ : ∃ mx, mx = max (q_len P k) b := ⟨_, rfl⟩
  rw [← hmn, ← hmx]
  have loop1 := lp_run (fun i => g_X2_hasOneSlip 58 [.ref 41, .int (nI k), .int (nI w), .int (nI (q_len P k)), .int (nI b), .int (nI mx), .int (nI mn), .int (nI i), .int (nI i), .null] [] S)
    (fun r => g_X2_hasOneSlip 97 [.ref 41, .int (nI k), .int (nI w), .int (nI (q_len P k)), .int (nI b), .int (nI mx), .int (nI mn), .int (nI r), .null, .null] [] S) (fun i => decide (q_sg P k i = S.1 13 (w * 16 + i))) mn
    (fun i hi => by
      rw [b_X2_hasOneSlip_58, if_pos (nI_lt hi (by omega)), X10_signAt ok hc hk (by omega)]
      simp only [Option.bind_some, Option.toList_some, List.append_nil, b_X2_hasOneSlip_75]
      rw [X0_signAt hw hb hb16 (by omega), if_pos (by omega)]
      simp only [Option.bind_some, Option.toList_some, List.cons_append, List.nil_append, b_X2_hasOneSlip_85, decide_eq_true_eq]
      unfold q_sat
      rw [if_pos (show i < q_len P k by omega), nI_1])
    (by rw [b_X2_hasOneSlip_58, if_neg (nI_nlt (Nat.le_refl _) (by omega))])
  rw [nI_0] at loop1
  rw [loop1, b_X2_hasOneSlip_97]
  obtain ⟨A, hA⟩ : ∃ A, A = run (fun i => decide (q_sg P k i = S.1 13 (w * 16 + i))) mn := ⟨_, rfl⟩
  have hAle := run_le (fun i => decide (q_sg P k i = S.1 13 (w * 16 + i))) mn
  rw [← hA] at hAle ⊢
  have loop2 := lp_run (fun i => g_X2_hasOneSlip 103 [.ref 41, .int (nI k), .int (nI w), .int (nI (q_len P k)), .int (nI b), .int (nI mx), .int (nI mn), .int (nI A), .int (nI i), .int (nI (i + 1))] [] S)
    (fun r => g_X2_hasOneSlip 150 [.null, .null, .null, .null, .null, .int (nI mx), .null, .int (nI A), .int (nI r), .null] [] S) (fun i => decide (q_sg P k (q_len P k - 1 - i) = S.1 13 (w * 16 + (b - 1 - i)))) (mn - A)
    (fun i hi => by
      rw [b_X2_hasOneSlip_103, pk_sub (by omega), if_neg (nI_nlt (by omega) (by omega)), pk_sub (by omega), show q_len P k - (i + 1) = q_len P k - 1 - i by omega, X10_signAt ok hc hk (by omega)]
      simp only [Option.bind_some, Option.toList_some, List.append_nil, b_X2_hasOneSlip_125]
      rw [pk_sub (by omega), show b - (i + 1) = b - 1 - i by omega, X0_signAt hw hb hb16 (by omega), if_pos (by omega)]
      simp only [Option.bind_some, Option.toList_some, List.cons_append, List.nil_append, b_X2_hasOneSlip_138, decide_eq_true_eq]
      unfold q_sat
      rw [if_pos (show q_len P k - 1 - i < q_len P k by omega), nI_1, nI_1])
    (by rw [b_X2_hasOneSlip_103, pk_sub (by omega), if_pos (nI_lt (by omega) (by omega))])
  rw [nI_0, show nI (0 + 1) = (1 : Int32) from rfl] at loop2
  rw [loop2]
  obtain ⟨B, hB⟩ : ∃ B, B = run (fun i => decide (q_sg P k (q_len P k - 1 - i) = S.1 13 (w * 16 + (b - 1 - i)))) (mn - A) := ⟨_, rfl⟩
  have hBle := run_le (fun i => decide (q_sg P k (q_len P k - 1 - i) = S.1 13 (w * 16 + (b - 1 - i)))) (mn - A)
  rw [← hB] at hBle ⊢
  have e1 : sl_a P k b (fun i => S.1 13 (w * 16 + i)) = A := by rw [hA, hmn]
  have e2 : sl_b P k b (fun i => S.1 13 (w * 16 + i)) = B := by unfold sl_b; rw [e1, hB, hmn]
  rw [b_X2_hasOneSlip_150, nI_add, show nI mx - 1 = nI (mx - 1) by rw [show (1 : Int32) = nI 1 from rfl, pk_sub (by omega)]]
  have hi : slp P k b (fun i => S.1 13 (w * 16 + i)) ↔ A + B = mx - 1 := by
    unfold slp
    rw [e1, e2, ← hmx]
    exact ⟨fun q => q.2.2.2, fun q => ⟨by omega, by omega, by omega, q⟩⟩
  by_cases h : A + B = mx - 1
  · rw [if_pos (by rw [h]), ← hR, b2i_t (hi.mpr h)]
  · rw [if_neg (nI_ne (by omega) (by omega) h), ← hR, b2i_f (fun q => h (hi.mp q))]
theorem X12_isSlip {P : q_P} {S : a_M} {k a j b : Nat} (ok : q_ok P) (hm : m_w P S) (hk : k < P.1) (ha60 : a < 60) (hj : j < 4) (hb : S.1 65 (a * 4 + j) = nI b) (hb16 : b ≤ 16) : x_X12_isSlip [.ref 56, .int (nI k), .int (nI a), .int (nI j)] S = some (some (.int (b2i (slp P k b (fun i => S.1 66 ((a * 4 + j) * 16 + i))))), S) := by
  have ha := ok.1.2.2.1 k hk
  have hn := ok.1.1
  obtain ⟨c1, -, c3⟩ := hm k hk
  generalize hR : b2i (slp P k b (fun i => S.1 66 ((a * 4 + j) * 16 + i))) = rr
  have ck : (nI k).toNatClampNeg = k := nI_clamp (by omega)
  have nk : ¬ (nI k < 0 ∨ 14 ≤ k) := nI_out2 (by omega) (by omega)
  rw [e_X12_isSlip, ck, if_neg nk, show (4 : Int32) * nI a + nI j = nI (a * 4 + j) by rw [show (4 : Int32) = nI 4 from rfl, pk_mul, nI_add, Nat.mul_comm], if_neg (nI_out (by omega) (by decide)), nI_clamp (by omega), hb, c1, nI_1, nI_1]
  by_cases h4 : b < 4
  · rw [if_pos (show nI b < 4 from nI_lt (b := 4) h4 (by decide)), ← hR, b2i_f (fun q => by have := q.1; omega)]
  rw [if_neg (show ¬ nI b < 4 from nI_nlt (b := 4) (by omega) (by omega))]
  by_cases h1 : b + 1 < q_len P k
  · rw [if_pos (nI_lt h1 (by omega)), ← hR, b2i_f (fun q => by have := q.2.1; omega)]
  rw [if_neg (nI_nlt (by omega) (by omega))]
  by_cases h2 : q_len P k + 1 < b
  · rw [if_pos (nI_lt h2 (by omega)), ← hR, b2i_f (fun q => by have := q.2.2.1; omega)]
  rw [if_neg (nI_nlt (by omega) (by omega))]
  obtain ⟨mn, hmn⟩ : ∃ mn, mn = min (q_len P k) b := ⟨_, rfl⟩
  have loop1 := lp_run (fun i => g_X12_isSlip 53 [.ref 56, .int (nI k), .null, .null, .int (nI (a * 4 + j)), .int (nI (q_len P k)), .int (nI b), .int (nI i), .null, .null] [] S)
    (fun r => g_X12_isSlip 104 [.ref 56, .int (nI k), .null, .null, .int (nI (a * 4 + j)), .int (nI (q_len P k)), .int (nI b), .int (nI r), .int 0, .null] [] S) (fun i => decide (q_sg P k i = S.1 66 ((a * 4 + j) * 16 + i))) mn
    (fun i hi => by
      rw [b_X12_isSlip_53, if_pos (nI_lt (by omega) (by omega)), if_pos (nI_lt (by omega) (by omega)), show (16 : Int32) * nI k + nI i = nI (16 * k + i) by rw [show (16 : Int32) = nI 16 from rfl, pk_mul, nI_add], show (16 : Int32) * nI (a * 4 + j) + nI i = nI ((a * 4 + j) * 16 + i) by rw [show (16 : Int32) = nI 16 from rfl, pk_mul, nI_add, Nat.mul_comm], if_neg (nI_out (by omega) (by decide)), if_neg (nI_out (by omega) (by decide)), nI_clamp (by omega), nI_clamp (by omega), c3 i (by omega), nI_1]
      simp only [decide_eq_true_eq])
    (by
      rw [b_X12_isSlip_53]
      by_cases hx : mn < q_len P k
      · rw [if_pos (nI_lt hx (by omega)), if_neg (nI_nlt (by omega) (by omega))]
      · rw [if_neg (nI_nlt (by omega) (by omega))])
  rw [nI_0] at loop1
  rw [loop1]
  obtain ⟨A, hA⟩ : ∃ A, A = run (fun i => decide (q_sg P k i = S.1 66 ((a * 4 + j) * 16 + i))) mn := ⟨_, rfl⟩
  have hAle := run_le (fun i => decide (q_sg P k i = S.1 66 ((a * 4 + j) * 16 + i))) mn
  rw [← hA] at hAle ⊢
  have loop2 := lp_run (fun i => g_X12_isSlip 104 [.ref 56, .int (nI k), .null, .null, .int (nI (a * 4 + j)), .int (nI (q_len P k)), .int (nI b), .int (nI A), .int (nI i), .null] [] S)
    (fun r => g_X12_isSlip 168 [.null, .null, .null, .null, .null, .int (nI (q_len P k)), .int (nI b), .int (nI A), .int (nI r), .null] [] S) (fun i => decide (q_sg P k (q_len P k - 1 - i) = S.1 66 ((a * 4 + j) * 16 + (b - 1 - i)))) (mn - A)
    (fun i hi => by
      have f1 : (16 : Int32) * nI k + nI (q_len P k) - 1 - nI i = nI (16 * k + (q_len P k - 1 - i)) := by
        rw [show (16 : Int32) = nI 16 from rfl, pk_mul, nI_add, show (1 : Int32) = nI 1 from rfl, pk_sub (by omega), pk_sub (by omega), show 16 * k + q_len P k - 1 - i = 16 * k + (q_len P k - 1 - i) by omega]
      have f2 : (16 : Int32) * nI (a * 4 + j) + nI b - 1 - nI i = nI ((a * 4 + j) * 16 + (b - 1 - i)) := by
        rw [show (16 : Int32) = nI 16 from rfl, pk_mul, nI_add, show (1 : Int32) = nI 1 from rfl, pk_sub (by omega), pk_sub (by omega), show 16 * (a * 4 + j) + b - 1 - i = (a * 4 + j) * 16 + (b - 1 - i) by omega]
      rw [b_X12_isSlip_104, pk_sub (by omega), pk_sub (by omega), if_pos (nI_lt (by omega) (by omega)), if_pos (nI_lt (by omega) (by omega)), f1, f2, if_neg (nI_out (by omega) (by decide)), if_neg (nI_out (by omega) (by decide)), nI_clamp (by omega), nI_clamp (by omega), c3 _ (by omega), nI_1]
      simp only [decide_eq_true_eq])
    (by
      rw [b_X12_isSlip_104, pk_sub (by omega), pk_sub (by omega)]
      by_cases hx : mn - A < q_len P k - A
      · rw [if_pos (nI_lt hx (by omega)), if_neg (nI_nlt (by omega) (by omega))]
      · rw [if_neg (nI_nlt (by omega) (by omega))])
  rw [nI_0] at loop2
  rw [loop2]
  obtain ⟨B, hB⟩ : ∃ B, B = run (fun i => decide (q_sg P k (q_len P k - 1 - i) = S.1 66 ((a * 4 + j) * 16 + (b - 1 - i)))) (mn - A) := ⟨_, rfl⟩
  have hBle := run_le (fun i => decide (q_sg P k (q_len P k - 1 - i) = S.1 66 ((a * 4 + j) * 16 + (b - 1 - i)))) (mn - A)
  rw [← hB] at hBle ⊢
  have e1 : sl_a P k b (fun i => S.1 66 ((a * 4 + j) * 16 + i)) = A := by rw [hA, hmn]
  have e2 : sl_b P k b (fun i => S.1 66 ((a * 4 + j) * 16 + i)) = B := by unfold sl_b; rw [e1, hB, hmn]
  have e182 : g_X12_isSlip 168 [.null, .null, .null, .null, .null, .int (nI (q_len P k)), .int (nI b), .int (nI A), .int (nI B), .null] [] S = g_X12_isSlip 182 [.null, .null, .null, .null, .null, .null, .null, .int (nI A), .int (nI B), .null] [.int (nI (max (q_len P k) b))] S := by
    rw [b_X12_isSlip_168]
    by_cases hx : b < q_len P k
    · rw [if_pos (nI_lt hx (by omega)), Nat.max_eq_left (by omega)]
    · rw [if_neg (nI_nlt (by omega) (by omega)), Nat.max_eq_right (by omega)]
  rw [e182, b_X12_isSlip_182, nI_add, show nI (max (q_len P k) b) - 1 = nI (max (q_len P k) b - 1) by rw [show (1 : Int32) = nI 1 from rfl, pk_sub (by omega)]]
  have hi : slp P k b (fun i => S.1 66 ((a * 4 + j) * 16 + i)) ↔ A + B = max (q_len P k) b - 1 := by
    unfold slp
    rw [e1, e2]
    exact ⟨fun q => q.2.2.2, fun q => ⟨by omega, by omega, by omega, q⟩⟩
  by_cases h : A + B = max (q_len P k) b - 1
  · rw [if_pos (by rw [h]), ← hR, b2i_t (hi.mpr h)]
  · rw [if_neg (nI_ne (by omega) (by omega) h), ← hR, b2i_f (fun q => h (hi.mp q))]
