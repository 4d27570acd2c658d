/-! ===== what a word may be ===== -/
def ld (P : q_P) (k : Nat) : Nat := q_lead (q_sg P k) (q_len P k)
theorem ld_le (P : q_P) (k : Nat) : ld P k ≤ q_len P k := q_lead_le _ _
abbrev isNum (P : q_P) (k : Nat) : Prop := 1 ≤ ld P k ∧ ld P k ≤ 5 ∧ (q_len P k = ld P k ∨ (q_len P k = ld P k + 1 ∧ p_small (q_sg P k (ld P k))))
abbrev isCod (P : q_P) (k : Nat) : Prop := ld P k = 5 ∧ q_len P k = 5
theorem X11_small (a : Int32) (S : a_M) : x_X11_isSmallLetter [.int a] S = some (some (.int (b2i (p_small a))), S) := by
  rw [e_X11_isSmallLetter]
  by_cases h1 : a < 97 <;> by_cases h2 : 122 < a <;> simp [b2i, h1, h2]
theorem X10_isNumber {P : q_P} {T : a_M} (ok : q_ok P) (h : q_c P T) {k : Nat} (hk : k < P.1) : x_X10_isNumber [.ref 7, .int (nI k)] T = some (some (.int (b2i (isNum P k))), T) := by
  have hn := ok.1.1
  have hl := ok.1.2.2.1 k hk
  obtain ⟨a1, a2, a3, a4⟩ := h.2.2.2.2 k hk
  have a3 : T.1 10 k = nI (ld P k) := a3
  have hld := ld_le P k
  obtain ⟨l, hL⟩ : ∃ l, l = ld P k := ⟨_, rfl⟩
  obtain ⟨n, hN⟩ : ∃ n, n = q_len P k := ⟨_, rfl⟩
  generalize hR : b2i (isNum P k) = r
  have hld' : l ≤ n := by rw [hL, hN]; exact hld
  have hl' : n ≤ 16 := by rw [hN]; exact hl
  rw [e_X10_isNumber, at_10, av_nI (by omega) (by decide), a3, ← hL]
  simp only [Option.bind_some, Option.toList_some, List.append_nil, b_X10_isNumber_8]
  unfold isNum at hR
  rw [← hL, ← hN] at hR
  by_cases h1 : 1 ≤ l
  · rw [if_neg (show ¬ nI l < 1 from nI_nlt (b := 1) h1 (by omega))]
    by_cases h2 : l ≤ 5
    · rw [if_neg (show ¬ (5 : Int32) < nI l from nI_nlt (a := 5) h2 (by decide)), at_9, av_nI (by omega) (by decide), a1, ← hN]
      simp only [Option.bind_some, Option.toList_some, List.append_nil, b_X10_isNumber_29]
      rw [pk_sub hld']
      by_cases h3 : n = l
      · rw [if_pos (show nI (n - l) = 0 by rw [h3, Nat.sub_self]; rfl), ← hR, b2i_t ⟨h1, h2, Or.inl h3⟩]
      · rw [if_neg (show ¬ nI (n - l) = 0 from nI_ne0 (by omega) (by omega))]
        by_cases h4 : n = l + 1
        · have hq := X10_signAt (i := l) ok h hk (by omega)
          rw [if_pos (show nI (n - l) = 1 by rw [h4, Nat.add_sub_cancel_left]; rfl), hq]
          simp only [Option.bind_some, Option.toList_some, List.append_nil, b_X10_isNumber_47, X11_small, b_X10_isNumber_50, b2i_z]
          unfold q_sat
          rw [← hN, if_pos (show l < n by omega)]
          by_cases h5 : p_small (q_sg P k l)
          · rw [if_neg (fun q => q h5), ← hR, b2i_t ⟨h1, h2, Or.inr ⟨h4, h5⟩⟩]
          · rw [if_pos h5, ← hR, b2i_f (fun q => q.2.2.elim h3 (fun q => h5 q.2))]
        · rw [if_neg (show ¬ nI (n - l) = 1 from nI_ne (b := 1) (by omega) (by decide) (by omega)), ← hR, b2i_f (fun q => q.2.2.elim h3 (fun q => h4 q.1))]
    · rw [if_pos (show (5 : Int32) < nI l from nI_lt (a := 5) (by omega) (by omega)), ← hR, b2i_f (fun q => h2 q.2.1)]
  · rw [if_pos (show nI l < 1 from nI_lt (b := 1) (by omega) (by decide)), ← hR, b2i_f (fun q => h1 q.1)]
theorem X10_isCode {P : q_P} {T : a_M} (ok : q_ok P) (h : q_c P T) {k : Nat} (hk : k < P.1) : x_X10_isCode [.ref 7, .int (nI k)] T = some (some (.int (b2i (isCod P k))), T) := by
  have hn := ok.1.1
  have hl := ok.1.2.2.1 k hk
  obtain ⟨a1, a2, a3, a4⟩ := h.2.2.2.2 k hk
  have a3 : T.1 10 k = nI (ld P k) := a3
  have hld := ld_le P k
  generalize hR : b2i (isCod P k) = r
  rw [e_X10_isCode, at_10, av_nI (by omega) (by decide), a3]
  simp only [Option.bind_some, Option.toList_some, List.append_nil, b_X10_isCode_8]
  by_cases h1 : ld P k = 5
  · rw [if_pos (show nI (ld P k) = 5 by rw [h1]; rfl), at_9, av_nI (by omega) (by decide), a1]
    simp only [Option.bind_some, Option.toList_some, List.append_nil, b_X10_isCode_20]
    by_cases h2 : q_len P k = 5
    · rw [if_pos (show nI (q_len P k) = 5 by rw [h2]; rfl), ← hR, b2i_t ⟨h1, h2⟩]
    · rw [if_neg (show ¬ nI (q_len P k) = 5 from nI_ne (b := 5) (by omega) (by decide) h2), ← hR, b2i_f (fun q => h2 q.2)]
  · rw [if_neg (show ¬ nI (ld P k) = 5 from nI_ne (b := 5) (by omega) (by decide) h1), ← hR, b2i_f (fun q => h1 q.1)]
theorem X12_figures {P : q_P} {T : a_M} (ok : q_ok P) (hm : m_w P T) {k : Nat} (hk : k < P.1) : x_X12_figures [.ref 56, .int (nI k)] T = some (some (.int (nI (ld P k))), T) := by
  have hn := ok.1.1
  have hl := ok.1.2.2.1 k hk
  obtain ⟨c1, -, c3⟩ := hm k hk
  have ck : (nI k).toNatClampNeg = k := nI_clamp (by omega)
  have nk : ¬ (nI k < 0 ∨ 14 ≤ k) := nI_out2 (by omega) (by omega)
  have st : ∀ i, i < q_len P k → g_X12_figures 2 [.ref 56, .int (nI k), .int (nI i)] [] T = if p_fig (q_sg P k i) then g_X12_figures 2 [.ref 56, .int (nI k), .int (nI (i + 1))] [] T else some (some (.int (nI i)), T) := by
    intro i hi
    have e1 : (16 : Int32) * nI k + nI i = nI (16 * k + i) := by rw [show (16 : Int32) = nI 16 from rfl, pk_mul, nI_add]
    rw [b_X12_figures_2, ck, if_neg nk, c1, if_pos (nI_lt hi (by omega)), e1, if_neg (nI_out (by omega) (by decide)), nI_clamp (by omega), c3 i hi, X12_in]
    simp only [Option.bind_some, Option.toList_some, List.append_nil, b_X12_figures_30, b2i_z]
    by_cases hf : p_fig (q_sg P k i)
    · rw [if_neg (fun q => q hf), if_pos hf, nI_1]
    · rw [if_pos hf, if_neg hf]
  have key := lp_first (fun i => g_X12_figures 2 [.ref 56, .int (nI k), .int (nI i)] [] T) (q_len P k) (fun i => ¬ p_fig (q_sg P k i)) (fun i => some (some (.int (nI i)), T))
    (fun i hi hq => by rw [st i hi, if_neg hq]) (fun i hi hq => by rw [st i hi, if_pos (Decidable.not_not.mp hq)])
  rw [nI_0] at key
  rw [e_X12_figures]
  rcases key with ⟨i, k1, k2, k3, k4⟩ | ⟨k1, k2⟩
  · rw [k4, show ld P k = i from q_lead_eq (by omega) (fun j hj => Decidable.not_not.mp (k3 j hj)) (Or.inr k2)]
  · rw [k2, show ld P k = q_len P k from q_lead_eq (Nat.le_refl _) (fun j hj => Decidable.not_not.mp (k1 j hj)) (Or.inl rfl), b_X12_figures_2, ck, if_neg nk, c1, if_neg (nI_nlt (Nat.le_refl _) (by omega))]
theorem X12_isNumber {P : q_P} {T : a_M} (ok : q_ok P) (hm : m_w P T) {k : Nat} (hk : k < P.1) : x_X12_isNumber [.ref 56, .int (nI k)] T = some (some (.int (b2i (isNum P k))), T) := by
  have hn := ok.1.1
  have hl := ok.1.2.2.1 k hk
  obtain ⟨c1, -, c3⟩ := hm k hk
  have ck : (nI k).toNatClampNeg = k := nI_clamp (by omega)
  have nk : ¬ (nI k < 0 ∨ 14 ≤ k) := nI_out2 (by omega) (by omega)
  have hld := ld_le P k
  obtain ⟨l, hL⟩ : ∃ l, l = ld P k := ⟨_, rfl⟩
  obtain ⟨n, hN⟩ : ∃ n, n = q_len P k := ⟨_, rfl⟩
  generalize hR : b2i (isNum P k) = r
  have hld' : l ≤ n := by rw [hL, hN]; exact hld
  have hl' : n ≤ 16 := by rw [hN]; exact hl
  have fin : ∀ v : Int32, (v = 0 ∨ v = 1) → g_X12_isNumber 54 [.null, .null, .int (nI l), .null] [.int v] T = some (some (.int (b2i (¬ v = 0 ∧ 1 ≤ l ∧ l ≤ 5))), T) := by
    intro v hv
    rw [b_X12_isNumber_54, X12_in]
    simp only [Option.bind_some, Option.toList_some, List.append_nil, b_X12_isNumber_61, b2i_z]
    by_cases h1 : 1 ≤ l ∧ l ≤ 5
    · rw [if_neg (fun q => q ⟨show ¬ nI l < nI 1 from nI_nlt h1.1 (by omega), show ¬ nI 5 < nI l from nI_nlt h1.2 (by decide)⟩)]
      rcases hv with rfl | rfl
      · rw [if_pos rfl, b2i_f (fun q => q.1 rfl)]
      · rw [if_neg (by decide), b2i_t ⟨by decide, h1⟩]
    · rw [if_pos, b2i_f (fun q => h1 q.2)]
      rintro ⟨q1, q2⟩
      exact h1 ⟨by rcases Nat.lt_or_ge l 1 with g | g; exact absurd (show nI l < nI 1 from nI_lt g (by decide)) q1; exact g, by rcases Nat.lt_or_ge 5 l with g | g; exact absurd (show nI 5 < nI l from nI_lt g (by omega)) q2; exact g⟩
  unfold isNum at hR
  rw [← hL, ← hN] at hR
  rw [e_X12_isNumber, X12_figures ok hm hk, ← hL]
  simp only [Option.bind_some, Option.toList_some, List.append_nil, b_X12_isNumber_5]
  rw [ck, if_neg nk, c1, ← hN, if_neg nk]
  by_cases h1 : n = l
  · rw [if_pos (by rw [h1]), b_X12_isNumber_49, fin 1 (Or.inr rfl), ← hR]
    exact congrArg (fun x => some (some (Value.int x), T)) (b2i_c ⟨fun q => ⟨q.2.1, q.2.2, Or.inl h1⟩, fun q => ⟨by decide, q.1, q.2.1⟩⟩)
  · rw [if_neg (nI_ne (by omega) (by omega) h1), nI_1]
    by_cases h2 : n = l + 1
    · have e1 : (16 : Int32) * nI k + nI l = nI (16 * k + l) := by rw [show (16 : Int32) = nI 16 from rfl, pk_mul, nI_add]
      rw [if_pos (by rw [h2]), e1, if_neg (nI_out (by omega) (by decide)), nI_clamp (by omega), c3 l (by omega), X12_in]
      simp only [Option.bind_some, Option.toList_some, List.append_nil, b_X12_isNumber_46, b2i_z, b_X12_isNumber_49, b_X12_isNumber_53]
      by_cases h3 : p_small (q_sg P k l)
      · rw [if_neg (fun q => q h3), fin 1 (Or.inr rfl), ← hR]
        exact congrArg (fun x => some (some (Value.int x), T)) (b2i_c ⟨fun q => ⟨q.2.1, q.2.2, Or.inr ⟨h2, h3⟩⟩, fun q => ⟨by decide, q.1, q.2.1⟩⟩)
      · rw [if_pos h3, fin 0 (Or.inl rfl), ← hR]
        exact congrArg (fun x => some (some (Value.int x), T)) (b2i_c ⟨fun q => absurd rfl q.1, fun q => (q.2.2.elim h1 (fun q => h3 q.2)).elim⟩)
    · rw [if_neg (nI_ne (by omega) (by omega) h2), b_X12_isNumber_53, fin 0 (Or.inl rfl), ← hR]
      exact congrArg (fun x => some (some (Value.int x), T)) (b2i_c ⟨fun q => absurd rfl q.1, fun q => (q.2.2.elim h1 (fun q => h2 q.1)).elim⟩)
/-- the value of the first n figures -/
def vl (f : Nat → Int32) : Nat → Int32
  | 0 => 0
  | i + 1 => 10 * vl f i + f i - 48
theorem vl_le (f : Nat → Int32) : ∀ n, n ≤ 5 → (∀ i, i < n → p_fig (f i)) → ∃ v, v < 10 ^ n ∧ vl f n = nI v := by
  intro n
  induction n with
  | zero => intro _ _; exact ⟨0, by decide, rfl⟩
  | succ n ih =>
    intro h1 h2
    obtain ⟨v, v1, v2⟩ := ih (by omega) (fun i hi => h2 i (by omega))
    obtain ⟨g1, g2⟩ := h2 n (by omega)
    obtain ⟨j, j1, j2⟩ := nI_of (x := f n) (fun q => g1 (Int32.lt_trans q (by decide)))
    have h10 : 10 ^ n ≤ 10 ^ 4 := Nat.pow_le_pow_right (by decide) (by omega)
    rw [j2] at g1 g2
    have j3 : 48 ≤ j := by
      rcases Nat.lt_or_ge j 48 with g | g
      · exact absurd (show nI j < nI 48 from nI_lt g (by decide)) g1
      · exact g
    have j4 : j ≤ 57 := by
      rcases Nat.lt_or_ge 57 j with g | g
      · exact absurd (show nI 57 < nI j from nI_lt g (by omega)) g2
      · exact g
    refine ⟨10 * v + (j - 48), by rw [Nat.pow_succ]; omega, ?_⟩
    show 10 * vl f n + f n - 48 = _
    rw [v2, j2, show (10 : Int32) = nI 10 from rfl, pk_mul, nI_add, show (48 : Int32) = nI 48 from rfl, pk_sub (by omega)]
    congr 1
    omega
theorem X10_numberOf {P : q_P} {T : a_M} (ok : q_ok P) (h : q_c P T) {k : Nat} (hk : k < P.1) (h5 : ld P k ≤ 5) : x_X10_numberOf [.ref 7, .int (nI k)] T = some (some (.int (vl (q_sg P k) (ld P k))), T) := by
  have hn := ok.1.1
  have hl := ok.1.2.2.1 k hk
  obtain ⟨a1, a2, a3, a4⟩ := h.2.2.2.2 k hk
  have a3 : T.1 10 k = nI (ld P k) := a3
  have hld := ld_le P k
  have key : ∀ d i, i + d = ld P k → g_X10_numberOf 4 [.ref 7, .int (nI k), .int (vl (q_sg P k) i), .int (nI i)] [] T = some (some (.int (vl (q_sg P k) (ld P k))), T) := by
    intro d
    induction d with
    | zero =>
      intro i hi
      obtain rfl : i = ld P k := by omega
      rw [b_X10_numberOf_4]
      by_cases h6 : ld P k < 5
      · rw [if_pos (show nI (ld P k) < 5 from nI_lt (b := 5) h6 (by decide)), at_10, av_nI (by omega) (by decide), a3]
        simp only [Option.bind_some, Option.toList_some, List.cons_append, List.nil_append, b_X10_numberOf_18]
        rw [if_neg (nI_nlt (Nat.le_refl _) (by omega))]
      · rw [if_neg (show ¬ nI (ld P k) < 5 from nI_nlt (b := 5) (by omega) (by omega))]
    | succ d ih =>
      intro i hi
      rw [b_X10_numberOf_4, if_pos (show nI i < 5 from nI_lt (b := 5) (by omega) (by decide)), at_10, av_nI (by omega) (by decide), a3]
      simp only [Option.bind_some, Option.toList_some, List.cons_append, List.nil_append, b_X10_numberOf_18]
      rw [if_pos (nI_lt (by omega) (by omega)), X10_signAt ok h hk (by omega)]
      simp only [Option.bind_some, Option.toList_some, List.cons_append, List.nil_append, b_X10_numberOf_31]
      rw [nI_1]
      unfold q_sat
      rw [if_pos (show i < q_len P k by omega)]
      exact ih (i + 1) (by omega)
  have := key (ld P k) 0 (by omega)
  rw [nI_0] at this
  rw [e_X10_numberOf]
  exact this
theorem X12_valueOf {P : q_P} {T : a_M} (ok : q_ok P) (hm : m_w P T) {k : Nat} (hk : k < P.1) : x_X12_valueOf [.ref 56, .int (nI k)] T = some (some (.int (vl (q_sg P k) (ld P k))), T) := by
  have hn := ok.1.1
  have hl := ok.1.2.2.1 k hk
  obtain ⟨c1, -, c3⟩ := hm k hk
  have hld := ld_le P k
  have key : ∀ d i, i + d = ld P k → g_X12_valueOf 4 [.ref 56, .int (nI k), .int (vl (q_sg P k) i), .int (nI i)] [] T = some (some (.int (vl (q_sg P k) (ld P k))), T) := by
    intro d
    induction d with
    | zero =>
      intro i hi
      obtain rfl : i = ld P k := by omega
      rw [b_X12_valueOf_4, X12_figures ok hm hk]
      simp only [Option.bind_some, Option.toList_some, List.cons_append, List.nil_append, b_X12_valueOf_10]
      rw [if_neg (nI_nlt (Nat.le_refl _) (by omega))]
    | succ d ih =>
      intro i hi
      have e1 : (16 : Int32) * nI k + nI i = nI (16 * k + i) := by rw [show (16 : Int32) = nI 16 from rfl, pk_mul, nI_add]
      rw [b_X12_valueOf_4, X12_figures ok hm hk]
      simp only [Option.bind_some, Option.toList_some, List.cons_append, List.nil_append, b_X12_valueOf_10]
      rw [if_pos (nI_lt (by omega) (by omega)), e1, if_neg (nI_out (by omega) (by decide)), nI_clamp (by omega), c3 i (by omega), nI_1]
      exact ih (i + 1) (by omega)
  have := key (ld P k) 0 (by omega)
  rw [nI_0] at this
  rw [e_X12_valueOf]
  exact this
/-- the letter behind the figures, or 0 -/
def lt_ (P : q_P) (k : Nat) : Int32 := if ld P k < q_len P k then q_sg P k (ld P k) else 0
theorem X10_letterOf {P : q_P} {T : a_M} (ok : q_ok P) (h : q_c P T) {k : Nat} (hk : k < P.1) (hz : ld P k < q_len P k → p_small (q_sg P k (ld P k))) : x_X10_letterOf [.ref 7, .int (nI k)] T = some (some (.int (lt_ P k)), T) := by
  have hn := ok.1.1
  have hl := ok.1.2.2.1 k hk
  obtain ⟨a1, a2, a3, a4⟩ := h.2.2.2.2 k hk
  have a3 : T.1 10 k = nI (ld P k) := a3
  have hld := ld_le P k
  rw [e_X10_letterOf, at_10, av_nI (by omega) (by decide), a3]
  simp only [Option.bind_some, Option.toList_some, List.cons_append, List.nil_append, b_X10_letterOf_11]
  rw [X10_signAt ok h hk (by omega)]
  simp only [Option.bind_some, Option.toList_some, List.cons_append, List.nil_append, b_X10_letterOf_14, J9_max, List.append_nil, b_X10_letterOf_17]
  unfold q_sat lt_
  by_cases h1 : ld P k < q_len P k
  · rw [if_pos h1, if_pos h1, if_pos]
    rcases Int32.lt_or_eq_of_le (Int32.not_lt.mp (hz h1).1) with q | q
    · exact Int32.lt_trans (by decide) q
    · rw [← q]; decide
  · rw [if_neg h1, if_neg h1, if_neg (by decide)]
