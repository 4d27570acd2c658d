/-! ===== words of the line and words of the book ===== -/
/-- word k of the line is word w of the book -/
abbrev wlk (P : q_P) (wl sg : Nat → Int32) (k w : Nat) : Prop := q_len P k = cl (wl w) ∧ ∀ i, i < q_len P k → q_sg P k i = sg (w * 16 + i)
abbrev wlike (P : q_P) (S : a_M) (k w : Nat) : Prop := wlk P (S.1 14) (S.1 13) k w
theorem X0_lengthOf {w : Nat} {S : a_M} (hw : w < 240) : x_X0_lengthOf [.ref 12, .int (nI w)] S = some (some (.int (S.1 14 w)), S) := by
  rw [e_X0_lengthOf, at_14]
  simp only [Option.bind_some, Option.toList_some, List.append_nil, b_X0_lengthOf_8]
  rw [av_nI hw (by decide)]
theorem X0_signAt {w i l : Nat} {S : a_M} (hw : w < 240) (hl : S.1 14 w = nI l) (hl16 : l ≤ 16) (hi : i < 2 ^ 31) : x_X0_signAt [.ref 12, .int (nI w), .int (nI i)] S = some (some (.int (if i < l then S.1 13 (w * 16 + i) else -1)), S) := by
  rw [e_X0_signAt, if_neg (nI_pos hi), at_14]
  simp only [Option.bind_some, Option.toList_some, List.cons_append, List.nil_append, b_X0_signAt_13]
  rw [av_nI hw (by decide), hl]
  by_cases h : i < l
  · rw [if_pos (nI_lt h (by omega)), if_pos h, show (16 : Int32) = nI 16 from rfl, pk_mul, nI_add, at_13]
    simp only [Option.bind_some, Option.toList_some, List.append_nil, b_X0_signAt_29]
    rw [av_nI (by omega) (by decide)]
  · rw [if_neg (nI_nlt (by omega) hi), if_neg h]
theorem X0_isLike {P : q_P} {S : a_M} {k w : Nat} (ok : q_ok P) (hc : q_c P S) (hk : k < P.1) (hw : w < 240) (hl : S.1 14 w = nI (cl (S.1 14 w))) (hl16 : cl (S.1 14 w) ≤ 16) : x_X0_isLike [.ref 12, .ref 7, .int (nI k), .int (nI w)] S = some (some (.int (b2i (wlike P S k w))), S) := by
  have hq := ok.1.2.2.1 k hk
  rw [e_X0_isLike, X0_lengthOf hw]
  simp only [Option.bind_some, Option.toList_some, List.append_nil, b_X0_isLike_5]
  rw [X10_lengthOf ok hc hk]
  simp only [Option.bind_some, Option.toList_some, List.append_nil, b_X0_isLike_12]
  generalize hb : b2i (wlike P S k w) = rr
  rw [hl]
  by_cases h : q_len P k = cl (S.1 14 w)
  · rw [if_pos (by rw [h])]
    have key := lp_find (fun i => g_X0_isLike 22 [.ref 12, .ref 7, .int (nI k), .int (nI w), .int (nI (cl (S.1 14 w))), .int (nI i)] [] S) (q_len P k) (fun i => ¬ q_sg P k i = S.1 13 (w * 16 + i)) (some (some (.int 0), S))
      (by
        intro i hi hq
        rw [b_X0_isLike_22, if_pos (nI_lt (by omega) (by omega)), X10_signAt ok hc hk (by omega)]
        simp only [Option.bind_some, Option.toList_some, List.append_nil, b_X0_isLike_36]
        rw [X0_signAt hw hl hl16 (by omega), if_pos (by omega)]
        simp only [Option.bind_some, Option.toList_some, List.cons_append, List.nil_append, b_X0_isLike_43]
        unfold q_sat
        rw [if_pos hi, if_neg hq])
      (by
        intro i hi hq
        rw [b_X0_isLike_22, if_pos (nI_lt (by omega) (by omega)), X10_signAt ok hc hk (by omega)]
        simp only [Option.bind_some, Option.toList_some, List.append_nil, b_X0_isLike_36]
        rw [X0_signAt hw hl hl16 (by omega), if_pos (by omega)]
        simp only [Option.bind_some, Option.toList_some, List.cons_append, List.nil_append, b_X0_isLike_43]
        unfold q_sat
        rw [if_pos hi, if_pos (Decidable.not_not.mp hq), nI_1])
    rw [nI_0] at key
    rcases key with ⟨⟨i, h1, h2⟩, h3⟩ | ⟨h1, h2⟩
    · rw [h3, ← hb, b2i_f (fun q => h2 (q.2 i h1))]
    · rw [h2, b_X0_isLike_22, if_neg (nI_nlt (by omega) (by omega)), ← hb, b2i_t ⟨h, fun i hi => Decidable.not_not.mp (h1 i hi)⟩]
  · rw [if_neg (nI_ne (by omega) (by omega) h), ← hb, b2i_f (fun q => h q.1)]
/-- the first word of the book that word k is, or -1 -/
def lkf (P : q_P) (wl sg : Nat → Int32) (W k : Nat) : Int32 := match (List.range W).find? (fun w => decide (wlk P wl sg k w)) with
  | some w => nI w
  | none => -1
theorem lkf_spec (P : q_P) (wl sg : Nat → Int32) (W k : Nat) : (∃ w, w < W ∧ wlk P wl sg k w ∧ lkf P wl sg W k = nI w) ∨ ((∀ w, w < W → ¬ wlk P wl sg k w) ∧ lkf P wl sg W k = -1) := by
  unfold lkf
  cases h : (List.range W).find? (fun w => decide (wlk P wl sg k w)) with
  | some w =>
    have h1 := List.find?_some h
    exact Or.inl ⟨w, List.mem_range.mp (List.mem_of_find?_eq_some h), of_decide_eq_true h1, rfl⟩
  | none =>
    refine Or.inr ⟨fun w hw hq => ?_, rfl⟩
    have := List.find?_eq_none.mp h w (List.mem_range.mpr hw)
    simp only [decide_eq_true_eq] at this
    exact this hq
theorem lkf_of {P : q_P} {wl sg : Nat → Int32} {W k w : Nat} (hw : w < W) (h : wlk P wl sg k w) (hf : ∀ v, v < w → ¬ wlk P wl sg k v) : lkf P wl sg W k = nI w := by
  unfold lkf
  have : (List.range W).find? (fun w => decide (wlk P wl sg k w)) = some w := by
    rw [List.find?_range_eq_some]
    refine ⟨by simpa using h, List.mem_range.mpr hw, fun j hj => ?_⟩
    have := decide_eq_false (hf j hj)
    simp only [this, Bool.not_false]
  rw [this]
theorem lkf_no {P : q_P} {wl sg : Nat → Int32} {W k : Nat} (h : ∀ w, w < W → ¬ wlk P wl sg k w) : lkf P wl sg W k = -1 := by
  rcases lkf_spec P wl sg W k with ⟨w, h1, h2, -⟩ | ⟨-, h1⟩
  · exact absurd h2 (h w h1)
  · exact h1
/-- the book's words have lengths -/
abbrev bk_len (W : Nat) (wl : Nat → Int32) : Prop := ∀ w, w < W → 1 ≤ cl (wl w) ∧ cl (wl w) ≤ 16 ∧ wl w = nI (cl (wl w))
theorem X0_wordLike {P : q_P} {S : a_M} {k W : Nat} (ok : q_ok P) (hc : q_c P S) (hk : k < P.1) (hW : W ≤ 240) (h7 : S.1 12 7 = nI W) (hl : bk_len W (S.1 14)) : x_X0_wordLike [.ref 12, .ref 7, .int (nI k)] S = some (some (.int (lkf P (S.1 14) (S.1 13) W k)), S) := by
  have step : ∀ w, w < W → g_X0_wordLike 2 [.ref 12, .ref 7, .int (nI k), .int (nI w)] [] S = if ¬ wlike P S k w then g_X0_wordLike 2 [.ref 12, .ref 7, .int (nI k), .int (nI (w + 1))] [] S else some (some (.int (nI w)), S) := by
    intro w hw
    obtain ⟨a1, a2, a3⟩ := hl w hw
    rw [b_X0_wordLike_2, h7, if_pos (nI_lt hw (by omega)), X0_isLike ok hc hk (by omega) a3 a2]
    simp only [Option.bind_some, Option.toList_some, List.append_nil, b_X0_wordLike_17, b2i_z]
    rw [nI_1]
  have key := lp_first (fun w => g_X0_wordLike 2 [.ref 12, .ref 7, .int (nI k), .int (nI w)] [] S) W (wlike P S k) (fun w => some (some (.int (nI w)), S))
    (fun w hw hq => by rw [step w hw, if_neg (not_not_intro hq)]) (fun w hw hq => by rw [step w hw, if_pos hq])
  rw [nI_0, ← e_X0_wordLike] at key
  rcases key with ⟨w, h1, h2, h3, h4⟩ | ⟨h1, h2⟩
  · rw [h4, lkf_of h1 h2 h3]
  · rw [h2, lkf_no h1, b_X0_wordLike_2, h7, if_neg (nI_nlt (Nat.le_refl _) (by omega))]
/-- word t of the line is the word that stands at place x of the reference's names -/
abbrev mlike (P : q_P) (S : a_M) (t x : Nat) : Prop := q_len P t = cl (S.1 65 x) ∧ ∀ i, i < q_len P t → q_sg P t i = S.1 66 (x * 16 + i)
theorem X12_isWordOf {P : q_P} {S : a_M} {t k j : Nat} (ok : q_ok P) (hm : m_w P S) (ht : t < P.1) (hk : k < 60) (hj : j < 4) (hl : S.1 65 (k * 4 + j) = nI (cl (S.1 65 (k * 4 + j)))) (hl16 : cl (S.1 65 (k * 4 + j)) ≤ 16) :
    x_X12_isWordOf [.ref 56, .int (nI t), .int (nI k), .int (nI j)] S = some (some (.int (b2i (mlike P S t (k * 4 + j)))), S) := by
  have hq := ok.1.2.2.1 t ht
  have hn := ok.1.1
  obtain ⟨c1, -, c3⟩ := hm t ht
  have ct : (nI t).toNatClampNeg = t := nI_clamp (by omega)
  have nt : ¬ (nI t < 0 ∨ 14 ≤ t) := nI_out2 (by omega) (by omega)
  have e1 : (4 : Int32) * nI k + nI j = nI (k * 4 + j) := by rw [show (4 : Int32) = nI 4 from rfl, pk_mul, nI_add, Nat.mul_comm]
  rw [e_X12_isWordOf, ct, if_neg nt, e1, if_neg (nI_out (by omega) (by decide)), nI_clamp (by omega), c1]
  generalize hb : b2i (mlike P S t (k * 4 + j)) = rr
  rw [hl]
  have fin : ∀ v : Int32, (v = 0 ∨ v = 1) → ∀ i, q_len P t ≤ i → i < 2 ^ 31 → g_X12_isWordOf 33 [.ref 56, .int (nI t), .null, .null, .int (nI (k * 4 + j)), .int v, .int (nI i)] [] S = some (some (.int v), S) := by
    intro v hv i h1 h2
    rw [b_X12_isWordOf_33, ct, if_neg nt, c1, if_neg (nI_nlt h1 (by omega)), if_pos hv]
    rfl
  have zero : ∀ i, i < 2 ^ 31 → g_X12_isWordOf 33 [.ref 56, .int (nI t), .null, .null, .int (nI (k * 4 + j)), .int 0, .int (nI i)] [] S = some (some (.int 0), S) := by
    intro i h2
    rcases Nat.lt_or_ge i (q_len P t) with h1 | h1
    · rw [b_X12_isWordOf_33, ct, if_neg nt, c1, if_pos (nI_lt h1 (by omega)), if_pos rfl, if_pos (Or.inl rfl)]
      rfl
    · exact fin 0 (Or.inl rfl) i h1 h2
  by_cases h : q_len P t = cl (S.1 65 (k * 4 + j))
  · rw [if_pos (by rw [h])]
    have e16 : ∀ i, i < q_len P t → g_X12_isWordOf 33 [.ref 56, .int (nI t), .null, .null, .int (nI (k * 4 + j)), .int 1, .int (nI i)] [] S = if q_sg P t i = S.1 66 ((k * 4 + j) * 16 + i) then g_X12_isWordOf 33 [.ref 56, .int (nI t), .null, .null, .int (nI (k * 4 + j)), .int 1, .int (nI (i + 1))] [] S else some (some (.int 0), S) := by
      intro i hi
      have f1 : (16 : Int32) * nI t + nI i = nI (16 * t + i) := by rw [show (16 : Int32) = nI 16 from rfl, pk_mul, nI_add]
      have f2 : (16 : Int32) * nI (k * 4 + j) + nI i = nI ((k * 4 + j) * 16 + i) := by rw [show (16 : Int32) = nI 16 from rfl, pk_mul, nI_add, Nat.mul_comm]
      rw [b_X12_isWordOf_33, ct, if_neg nt, c1, if_pos (nI_lt hi (by omega)), if_neg (by decide), f1, f2, if_neg (nI_out (by omega) (by decide)), if_neg (nI_out (by omega) (by decide)), nI_clamp (by omega), nI_clamp (by omega), c3 i hi, nI_1, zero (i + 1) (by omega)]
    have key := lp_find (fun i => g_X12_isWordOf 33 [.ref 56, .int (nI t), .null, .null, .int (nI (k * 4 + j)), .int 1, .int (nI i)] [] S) (q_len P t) (fun i => ¬ q_sg P t i = S.1 66 ((k * 4 + j) * 16 + i)) (some (some (.int 0), S))
      (fun i hi hq => by rw [e16 i hi, if_neg hq]) (fun i hi hq => by rw [e16 i hi, if_pos (Decidable.not_not.mp hq)])
    rw [nI_0] at key
    rcases key with ⟨⟨i, h1, h2⟩, h3⟩ | ⟨h1, h2⟩
    · rw [h3, ← hb, b2i_f (fun q => h2 (q.2 i h1))]
    · rw [h2, fin 1 (Or.inr rfl) _ (Nat.le_refl _) (by omega), ← hb, b2i_t ⟨h, fun i hi => Decidable.not_not.mp (h1 i hi)⟩]
  · have hz := zero 0 (by decide)
    rw [nI_0] at hz
    rw [if_neg (nI_ne (by omega) (by omega) h), hz, ← hb, b2i_f (fun q => h q.1)]
/-- the book's word at place j of name k -/
abbrev b_id (S : a_M) (k j : Nat) : Nat := cl (S.1 15 (k * 4 + j))
abbrev b_sz (S : a_M) (k : Nat) : Nat := cl (S.1 16 k)
theorem mlike_iff {N W : Nat} {S : a_M} {P : q_P} {t k j : Nat} (hB : i_B N W S) (hk : k < N) (hj : j < b_sz S k) : mlike P S t (k * 4 + j) ↔ wlike P S t (b_id S k j) := by
  obtain ⟨-, -, -, -, -, -, -, b8, -⟩ := hB
  obtain ⟨a1, a2, a3, a4⟩ := b8 k j hk hj
  unfold mlike wlike wlk
  rw [a3]
  constructor
  · rintro ⟨h1, h2⟩
    exact ⟨h1, fun i hi => (h2 i hi).trans (a4 i (Nat.lt_of_lt_of_eq hi h1))⟩
  · rintro ⟨h1, h2⟩
    exact ⟨h1, fun i hi => (h2 i hi).trans (a4 i (Nat.lt_of_lt_of_eq hi h1)).symm⟩
theorem mlen {N W : Nat} {S : a_M} {k j : Nat} (hB : i_B N W S) (hk : k < N) (hj : j < b_sz S k) : S.1 65 (k * 4 + j) = nI (cl (S.1 65 (k * 4 + j))) ∧ cl (S.1 65 (k * 4 + j)) ≤ 16 ∧ 1 ≤ cl (S.1 65 (k * 4 + j)) := by
  obtain ⟨-, -, -, -, -, -, -, b8, b9, -⟩ := hB
  obtain ⟨a1, a2, a3, a4⟩ := b8 k j hk hj
  obtain ⟨c1, c2, c3⟩ := b9 _ a1
  rw [a3]
  exact ⟨c3, c2, c1⟩
