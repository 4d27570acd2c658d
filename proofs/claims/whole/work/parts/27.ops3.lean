/-! ===== shorten, street, also, town, unit, range ===== -/
theorem X0_hasName {N : Nat} (a : Int32) {S : a_M} (h : S.1 12 8 = nI N) : x_X0_hasName [.ref 12, .int a] S = some (some (.int (b2i (ixp a N))), S) := by
  rw [e_X0_hasName, h]
  by_cases h1 : a < 0 <;> by_cases h2 : a < nI N <;> simp [b2i, h1, h2]
theorem X12_isName {N : Nat} (a : Int32) {S : a_M} (hN : N < 2 ^ 31) (h : S.1 56 10 = nI N) : x_X12_isName [.ref 56, .int a] S = some (some (.int (b2i (ixp a N))), S) := by
  rw [e_X12_isName, h, X12_in, b2i_c (in_ixp hN)]
  simp only [Option.bind_some, Option.toList_some, List.append_nil, b_X12_isName_11]
  rw [if_pos (b2i_01 _)]
  rfl
theorem X0_sizeOf {k : Nat} {S : a_M} (hk : k < 60) : x_X0_sizeOf [.ref 12, .int (nI k)] S = some (some (.int (S.1 16 k)), S) := by
  rw [e_X0_sizeOf, at_16]
  simp only [Option.bind_some, Option.toList_some, List.append_nil, b_X0_sizeOf_8]
  rw [av_nI hk (by decide)]
theorem X6_has1 {Z : Nat} (a : Int32) {S : a_M} (h : S.1 20 13 = nI Z) : x_X6_has [.ref 20, .int 1, .int a] S = some (some (.int (b2i (ixp a Z))), S) := by
  rw [e_X6_has, e_X6_sizeOf, if_pos rfl, h]
  simp only [Option.bind_some, Option.toList_some, List.cons_append, List.nil_append, b_X6_has_10]
  by_cases h1 : a < 0 <;> by_cases h2 : a < nI Z <;> simp [b2i, h1, h2]
theorem X6_has3 {T : Nat} (a : Int32) {S : a_M} (h : S.1 20 14 = nI T) : x_X6_has [.ref 20, .int 3, .int a] S = some (some (.int (b2i (ixp a T))), S) := by
  rw [e_X6_has, e_X6_sizeOf, if_neg (show ¬ (3 : Int32) = 1 by decide), h]
  simp only [Option.bind_some, Option.toList_some, List.cons_append, List.nil_append, b_X6_has_10]
  by_cases h1 : a < 0 <;> by_cases h2 : a < nI T <;> simp [b2i, h1, h2]
abbrev p_span (a b : Int32) : Prop := ¬ a < 0 ∧ ¬ b < a ∧ ¬ 99999 < b
theorem X11_isSpan (a b : Int32) (S : a_M) : x_X11_isSpan [.int a, .int b] S = some (some (.int (b2i (p_span a b))), S) := by
  rw [e_X11_isSpan]
  by_cases h1 : a < 0 <;> by_cases h2 : b < a <;> by_cases h3 : 99999 < b <;> simp [b2i, h1, h2, h3]
theorem X12_isSpan (a b : Int32) (S : a_M) : x_X12_isSpan [.int a, .int b] S = some (some (.int (b2i (p_span a b))), S) := by
  rw [e_X12_isSpan, X12_in]
  simp only [Option.bind_some, Option.toList_some, List.append_nil, b_X12_isSpan_7, X12_in, b_X12_isSpan_17, b2i_z]
  by_cases h1 : a < 0
  · rw [if_pos (fun q => q.1 h1), b2i_f (fun q => q.1 h1)]
  · by_cases h2 : ¬ b < a ∧ ¬ 99999 < b
    · have h3 : ¬ 99999 < a := by
        intro q
        obtain ⟨h4, h5⟩ := h2
        rw [Int32.lt_iff_toInt_lt] at q h4 h5
        omega
      rw [if_neg (not_not_intro ⟨h1, h3⟩), if_neg (not_not_intro h2), b2i_t ⟨h1, h2.1, h2.2⟩]
    · rw [if_pos h2, b2i_f (fun q => h2 q.2)]
      split <;> rfl
theorem i_text_w {S T : a_M} (hX : c_text S) (e : ∀ c, c < 12 → T.1 c = S.1 c) : c_text T :=
  i_text_c hX (by rw [e 0 (by decide)]) (by rw [e 1 (by decide)]) (e 2 (by decide)) (by rw [e 3 (by decide)]) (e 4 (by decide)) (e 5 (by decide)) (e 6 (by decide)) (fun c _ c2 => e c (by omega))
theorem nI_ne {a b : Nat} (ha : a < 2 ^ 31) (hb : b < 2 ^ 31) (h : a ≠ b) : ¬ nI a = nI b := fun q => h ((nI_eq ha hb).mp q)
theorem X0_hasShort {H : Nat} (x y : Int32) {S : a_M} (hH : H ≤ 30) (h : S.1 12 9 = nI H) : ((∃ i, i < H ∧ S.1 17 i = x ∧ S.1 18 i = y) ∧ x_X0_hasShort [.ref 12, .int x, .int y] S = some (some (.int 1), S)) ∨ ((∀ i, i < H → ¬ (S.1 17 i = x ∧ S.1 18 i = y)) ∧ x_X0_hasShort [.ref 12, .int x, .int y] S = some (some (.int 0), S)) := by
  have key := lp_find (fun i => g_X0_hasShort 2 [.ref 12, .int x, .int y, .int (nI i)] [] S) H (fun i => S.1 17 i = x ∧ S.1 18 i = y) (some (some (.int 1), S))
    (by
      intro i hi hq
      rw [b_X0_hasShort_2, h, if_pos (nI_lt hi (by omega)), at_17]
      simp only [Option.bind_some, Option.toList_some, List.append_nil, b_X0_hasShort_18]
      rw [av_nI (by omega) (by decide), if_pos hq.1, at_18]
      simp only [Option.bind_some, Option.toList_some, List.append_nil, b_X0_hasShort_30]
      rw [av_nI (by omega) (by decide), if_pos hq.2])
    (by
      intro i hi hq
      rw [b_X0_hasShort_2, h, if_pos (nI_lt hi (by omega)), at_17]
      simp only [Option.bind_some, Option.toList_some, List.append_nil, b_X0_hasShort_18]
      rw [av_nI (by omega) (by decide), nI_1]
      by_cases h1 : S.1 17 i = x
      · rw [if_pos h1, at_18]
        simp only [Option.bind_some, Option.toList_some, List.append_nil, b_X0_hasShort_30]
        rw [av_nI (by omega) (by decide), if_neg (fun q => hq ⟨h1, q⟩), nI_1]
      · rw [if_neg h1])
  rw [nI_0, ← e_X0_hasShort] at key
  rcases key with ⟨h1, h2⟩ | ⟨h1, h2⟩
  · exact Or.inl ⟨h1, h2⟩
  · refine Or.inr ⟨h1, h2.trans ?_⟩
    rw [b_X0_hasShort_2, h, if_neg (nI_nlt (Nat.le_refl _) (by omega))]
theorem X12_shortl {H : Nat} (x y : Int32) {S : a_M} (hH : H ≤ 30) (h : S.1 56 14 = nI H) : ((∃ i, i < H ∧ S.1 67 i = x ∧ S.1 68 i = y) ∧ g_X12_shorten 39 [.ref 56, .int x, .int y, .int 0] [] S = some (some (.int (-7)), S)) ∨ ((∀ i, i < H → ¬ (S.1 67 i = x ∧ S.1 68 i = y)) ∧ g_X12_shorten 39 [.ref 56, .int x, .int y, .int 0] [] S = g_X12_shorten 39 [.ref 56, .int x, .int y, .int (nI H)] [] S) := by
  have key := lp_find (fun i => g_X12_shorten 39 [.ref 56, .int x, .int y, .int (nI i)] [] S) H (fun i => S.1 67 i = x ∧ S.1 68 i = y) (some (some (.int (-7)), S))
    (by
      intro i hi hq
      rw [b_X12_shorten_39, h, if_pos (nI_lt hi (by omega)), if_neg (nI_out (by omega) (by decide)), nI_clamp (by omega), if_pos hq.1, if_neg (nI_out2 (by omega) (by omega)), if_pos hq.2])
    (by
      intro i hi hq
      rw [b_X12_shorten_39, h, if_pos (nI_lt hi (by omega)), if_neg (nI_out (by omega) (by decide)), nI_clamp (by omega), nI_1]
      by_cases h1 : S.1 67 i = x
      · rw [if_pos h1, if_neg (nI_out2 (by omega) (by omega)), if_neg (fun q => hq ⟨h1, q⟩)]
      · rw [if_neg h1])
  rw [nI_0] at key
  exact key
theorem op_shorten (a b : Int32) : i_Op (fun S => x_X11_shorten [.ref 0, .int a, .int b] S) (fun S => x_X12_shorten [.ref 56, .int a, .int b] S) := by
  rintro S ⟨⟨n, m, N, W, H, Z, T, U, R, G, D, hP⟩, hX⟩
  have hS : i_I S := ⟨⟨n, m, N, W, H, Z, T, U, R, G, D, hP⟩, hX⟩
  obtain ⟨b1, b2, b3, b4, b5, b6, b7, -⟩ := hP.2.2.1
  obtain ⟨s1, s2, s3, s4, s5, s6⟩ := hP.2.2.2.1
  have m5 : ∀ S1 : a_M, S1.1 56 10 = nI N → x_X12_shorten [.ref 56, .int a, .int b] S1 = if ¬ ixp a N then some (some (.int (-2)), S1) else if ¬ ixp b N then some (some (.int (-2)), S1) else g_X12_shorten 13 [.ref 56, .int a, .int b, .null] [.int (b2i (ixp b N))] S1 := by
    intro S1 q
    rw [e_X12_shorten, X12_isName a (by omega) q]
    simp only [Option.bind_some, Option.toList_some, List.append_nil, b_X12_shorten_5, b2i_z]
    rw [X12_isName b (by omega) q]
    simp only [Option.bind_some, Option.toList_some, List.append_nil]
    by_cases hb : ixp b N
    · rw [if_neg (not_not_intro hb)]
    · rw [if_pos hb, b_X12_shorten_13, if_pos (b2i_f hb)]
  dsimp only
  rw [e_X11_shorten, X0_hasName a b3]
  simp only [Option.bind_some, Option.toList_some, List.append_nil, b_X11_shorten_8, b2i_z]
  by_cases ha : ixp a N
  · rw [if_neg (not_not_intro ha), X0_hasName b b3]
    simp only [Option.bind_some, Option.toList_some, List.append_nil, b_X11_shorten_19, b2i_z]
    by_cases hb : ixp b N
    · rw [if_neg (not_not_intro hb)]
      have m6 : ∀ S1 : a_M, S1.1 56 10 = nI N → x_X12_shorten [.ref 56, .int a, .int b] S1 = if a = b then some (some (.int (-2)), S1) else (if a < 0 ∨ 60 ≤ a.toNatClampNeg then none else (if (1 : Int32) < S1.1 64 a.toNatClampNeg then some (some (.int (-6)), S1) else g_X12_shorten 39 [.ref 56, .int a, .int b, .int (0)] [] S1)) := by
        intro S1 q
        rw [m5 S1 q, if_neg (not_not_intro ha), if_neg (not_not_intro hb), b_X12_shorten_13, if_neg (by rw [b2i_t hb]; decide)]
      obtain ⟨x, hx, rfl⟩ := ixp_of (by omega) ha
      obtain ⟨y, hy, rfl⟩ := ixp_of (by omega) hb
      by_cases hab : nI x = nI y
      · rw [if_pos hab]
        exact ⟨_, S, S, rfl, by rw [m6 S b4, if_pos hab], hS⟩
      · rw [if_neg hab, X0_sizeOf (by omega)]
        simp only [Option.bind_some, Option.toList_some, List.append_nil, b_X11_shorten_38]
        obtain ⟨c1, c2, c3⟩ := b7 x hx
        by_cases h1 : cl (S.1 16 x) = 1
        · have e1 : S.1 16 x = 1 := by rw [c3, h1]; rfl
          rw [if_pos e1]
          have m7 : ∀ S1 : a_M, S1.1 56 10 = nI N → S1.1 64 = S.1 64 → x_X12_shorten [.ref 56, .int (nI x), .int (nI y)] S1 = g_X12_shorten 39 [.ref 56, .int (nI x), .int (nI y), .int (0)] [] S1 := by
            intro S1 q q2
            rw [m6 S1 q, if_neg hab, if_neg (nI_out (by omega) (by decide)), nI_clamp (by omega), q2, ← b6, e1, if_neg (by decide)]
          rcases X0_hasShort (nI x) (nI y) s1 s2 with ⟨⟨i, hi, hi2⟩, h2⟩ | ⟨h2, h3⟩
          · rw [h2]
            simp only [Option.bind_some, Option.toList_some, List.append_nil, b_X11_shorten_54]
            rw [if_neg (by decide)]
            refine ⟨_, S, S, rfl, ?_, hS⟩
            rw [m7 S b4 rfl]
            rcases X12_shortl (nI x) (nI y) s1 s3 with ⟨-, h4⟩ | ⟨h4, -⟩
            · exact h4
            · exact absurd (by rw [← s4, ← s5]; exact hi2) (h4 i hi)
          · rw [h3]
            simp only [Option.bind_some, Option.toList_some, List.append_nil, b_X11_shorten_54]
            rw [if_pos (by decide), s2]
            have e4 : ∀ S1 : a_M, S1.1 56 10 = nI N → S1.1 64 = S.1 64 → S1.1 56 14 = nI H → S1.1 67 = S.1 67 → S1.1 68 = S.1 68 → x_X12_shorten [.ref 56, .int (nI x), .int (nI y)] S1 = g_X12_shorten 39 [.ref 56, .int (nI x), .int (nI y), .int (nI H)] [] S1 := by
              intro S1 q q2 q3 q4 q5
              rw [m7 S1 q q2]
              rcases X12_shortl (S := S1) (nI x) (nI y) s1 q3 with ⟨⟨i, hi, hi2⟩, h4⟩ | ⟨-, h4⟩
              · rw [q4, q5, ← s4, ← s5] at hi2
                exact absurd hi2 (h2 i hi)
              · exact h4
            by_cases hH : H < 30
            · rw [if_pos (show nI H < 30 from nI_lt (b := 30) hH (by decide)), e_X0_addShort, s2, put_17, pv_nI hH (by decide)]
              simp only [Option.bind_some, Option.toList_none, List.append_nil, b_X0_addShort_12, put_18, b_X0_addShort_24, b_X11_shorten_84]
              have q1 : (a_wi S 17 H (nI x)).1 12 9 = nI H := by rw [wi_n (by decide)]; exact s2
              rw [q1, pv_nI hH (by decide)]
              have q1 : (a_wi (a_wi S 17 H (nI x)) 18 H (nI y)).1 12 9 = nI H := by rw [wi_n (by decide), wi_n (by decide)]; exact s2
              rw [q1, nI_1]
              have q2 : (a_wi (a_wi (a_wi S 17 H (nI x)) 18 H (nI y)) 12 9 (nI (H + 1))).1 56 14 = nI H := by simp (disch := decide) only [wi_n]; exact s3
              refine ⟨_, _, a_wi (a_wi (a_wi (a_wi (a_wi (a_wi S 17 H (nI x)) 18 H (nI y)) 12 9 (nI (H + 1))) 67 H (nI x)) 68 H (nI y)) 56 14 (nI (H + 1)), rfl, ?_, ⟨n, m, N, W, H + 1, Z, T, U, R, G, D, ?_⟩, i_text_w hX (fun c hc => by simp (disch := omega) only [wi_n])⟩
              · rw [e4 _ (by simp (disch := decide) only [wi_n]; exact b4) (by simp (disch := decide) only [wi_n]) q2 (by simp (disch := decide) only [wi_n]) (by simp (disch := decide) only [wi_n]), b_X12_shorten_39, q2, if_neg (nI_nlt (Nat.le_refl _) (by omega)), if_neg (show ¬ nI H = 30 from nI_ne (b := 30) (by omega) (by decide) (by omega)), if_neg (nI_out hH (by decide)), if_neg (nI_out hH (by decide)), nI_clamp (by omega), nI_1]
              · unfold i_P i_L i_F i_B i_H i_Z i_T i_U i_R i_G i_A i_D at hP ⊢
                simp (disch := decide) only [wi_n, wi_e, up_e, up_n, wi_2]
                refine ⟨hP.1, hP.2.1, hP.2.2.1, ⟨by omega, rfl, rfl, by rw [s4], by rw [s5], fun i hi => ?_⟩, hP.2.2.2.2⟩
                rw [up_x, up_x]
                by_cases ei : i = H
                · rw [if_pos ei, if_pos ei, cl_nI (by omega), cl_nI (by omega)]
                  exact ⟨hx, rfl, hy, rfl, h1⟩
                · rw [if_neg ei, if_neg ei]
                  exact s6 i (by omega)
            · rw [if_neg (show ¬ nI H < 30 from nI_nlt (b := 30) (by omega) (by omega))]
              refine ⟨_, S, S, rfl, ?_, hS⟩
              rw [e4 S b4 rfl s3 rfl rfl, b_X12_shorten_39, s3, if_neg (nI_nlt (Nat.le_refl _) (by omega)), if_pos (show nI H = 30 by rw [show H = 30 by omega]; rfl)]
        · have e1 : ¬ S.1 16 x = 1 := by rw [c3]; exact nI_ne (b := 1) (by omega) (by decide) h1
          rw [if_neg e1]
          refine ⟨_, S, S, rfl, ?_, hS⟩
          rw [m6 S b4, if_neg hab, if_neg (nI_out (by omega) (by decide)), nI_clamp (by omega), ← b6, c3, if_pos (show (1 : Int32) < nI (cl (S.1 16 x)) from nI_lt (a := 1) (by omega) (by omega))]
    · rw [if_pos hb]
      exact ⟨_, S, S, rfl, by rw [m5 S b4, if_neg (not_not_intro ha), if_pos hb], hS⟩
  · rw [if_pos ha]
    exact ⟨_, S, S, rfl, by rw [m5 S b4, if_pos ha], hS⟩
theorem op_street (a : Int32) : i_Op (fun S => x_X11_street [.ref 0, .int a] S) (fun S => x_X12_street [.ref 56, .int a] S) := by
  rintro S ⟨⟨n, m, N, W, H, Z, T, U, R, G, D, hP⟩, hX⟩
  have hS : i_I S := ⟨⟨n, m, N, W, H, Z, T, U, R, G, D, hP⟩, hX⟩
  obtain ⟨b1, b2, b3, b4, b5, b6, b7, -⟩ := hP.2.2.1
  obtain ⟨s1, s2, s3, s4, s5, s6, s7, s8⟩ := hP.2.2.2.2.1
  have m5 : ∀ S1 : a_M, S1.1 56 10 = nI N → x_X12_street [.ref 56, .int a] S1 = g_X12_street 5 [.ref 56, .int a] [.int (b2i (ixp a N))] S1 := by
    intro S1 q
    rw [e_X12_street, X12_isName a (by omega) q]
    simp only [Option.bind_some, Option.toList_some, List.append_nil]
  dsimp only
  rw [e_X11_street, X0_hasName a b3]
  simp only [Option.bind_some, Option.toList_some, List.append_nil, b_X11_street_8, b2i_z]
  by_cases ha : ixp a N
  · rw [if_neg (not_not_intro ha), s2]
    obtain ⟨x, hx, rfl⟩ := ixp_of (by omega) ha
    by_cases hZ : Z < 30
    · rw [if_pos (show nI Z < 30 from nI_lt (b := 30) hZ (by decide)), e_X6_addStreet, s2, e_X6_addStreetName, e_X6_namesOf, if_pos rfl, at_22, nI_1, nI_pred]
      simp only [Option.bind_some, Option.toList_some, List.append_nil, b_X6_namesOf_13, b_X6_addStreetName_6, put_21]
      have q1 : av (a_wi S 20 13 (nI (Z + 1))) 22 30 (nI Z) = 0 := by rw [av_nI hZ (by decide), wi_n (by decide)]; exact s8 Z (Nat.le_refl _) hZ
      have q2 : nI Z * 4 + 0 = nI (Z * 4) := by rw [show (4 : Int32) = nI 4 from rfl, pk_mul, show (0 : Int32) = nI 0 from rfl, nI_add, Nat.add_zero]
      rw [q1, q2, pv_nI (by omega) (by decide)]
      simp only [Option.bind_some, Option.toList_none, List.append_nil, b_X6_addStreetName_20, put_22, b_X6_addStreetName_31, Option.toList_some, b_X6_addStreet_21, b_X11_street_39]
      rw [pv_nI hZ (by decide)]
      have q3 : (a_wi (a_wi (a_wi S 20 13 (nI (Z + 1))) 21 (Z * 4) (nI x)) 22 Z (0 + 1)).1 20 13 = nI (Z + 1) := by simp (disch := decide) only [wi_n, wi_e, up_e]
      have q4 : (a_wi (a_wi (a_wi S 20 13 (nI (Z + 1))) 21 (Z * 4) (nI x)) 22 Z (0 + 1)).1 56 17 = nI Z := by simp (disch := decide) only [wi_n]; exact s3
      rw [q3, nI_pred]
      refine ⟨_, _, a_wi (a_wi (a_wi (a_wi (a_wi (a_wi S 20 13 (nI (Z + 1))) 21 (Z * 4) (nI x)) 22 Z (0 + 1)) 69 Z 1) 70 (4 * Z) (nI x)) 56 17 (nI (Z + 1)), rfl, ?_, ⟨n, m, N, W, H, Z + 1, T, U, R, G, D, ?_⟩, i_text_w hX (fun c hc => by simp (disch := omega) only [wi_n])⟩
      · rw [m5 _ (by simp (disch := decide) only [wi_n]; exact b4), b_X12_street_5, if_neg (by rw [b2i_t ha]; decide), q4, if_neg (show ¬ nI Z = 30 from nI_ne (b := 30) (by omega) (by decide) (by omega)), if_neg (nI_out hZ (by decide)), show (4 : Int32) = nI 4 from rfl, pk_mul, if_neg (nI_out (by omega) (by decide)), nI_clamp (by omega), nI_clamp (by omega), nI_1, nI_pred]
      · unfold i_P i_L i_F i_B i_H i_Z i_T i_U i_R i_G i_A i_D at hP ⊢
        simp (disch := decide) only [wi_n, wi_e, up_e, up_n, wi_2]
        obtain ⟨p1, p2, p3, p4, p5, p6, p7, p8, p9, p10, p11⟩ := hP
        refine ⟨p1, p2, p3, p4, ⟨by omega, rfl, rfl, by rw [s4]; rfl, by rw [s5, Nat.mul_comm], fun k hk => ?_, fun k j hk hj => ?_, fun k k1 k2 => ?_⟩, p6, p7, p8, p9, p10, ?_⟩
        · rw [up_x]
          by_cases e : k = Z
          · rw [if_pos e]; exact ⟨by decide, by decide, by decide⟩
          · rw [if_neg e]; exact s6 k (by omega)
        · rw [up_x] at hj ⊢
          by_cases e : k = Z
          · subst e
            rw [if_pos rfl] at hj
            have : j = 0 := by have : cl ((0 : Int32) + 1) = 1 := by decide
                               omega
            rw [if_pos (by omega), cl_nI (by omega)]
            exact ⟨hx, rfl⟩
          · rw [if_neg e] at hj
            have := s6 k (by omega)
            rw [if_neg (by omega)]
            exact s7 k j (by omega) hj
        · rw [up_n (by omega)]; exact s8 k (by omega) k2
        · obtain ⟨d1, d2, d3, d4⟩ := p11
          refine ⟨d1, d2, d3, fun d hd => ?_⟩
          obtain ⟨r1, r2, r3, r4, r5, r6, r7, r8, r9, r10, t1, t2, t3, t4, t5⟩ := d4 d hd
          refine ⟨r1, r2, r3, r4, r5, r6, r7, r8, r9, r10, t1, t2.imp (fun q => ⟨q.1, ?_⟩) id, t3, t4, t5⟩
          obtain ⟨v, v1, v2⟩ := q.2
          exact ⟨v, by omega, v2⟩
    · rw [if_neg (show ¬ nI Z < 30 from nI_nlt (b := 30) (by omega) (by omega))]
      refine ⟨_, S, S, rfl, ?_, hS⟩
      rw [m5 S b4, b_X12_street_5, if_neg (by rw [b2i_t ha]; decide), s3, if_pos (show nI Z = 30 by rw [show Z = 30 by omega]; rfl)]
  · rw [if_pos ha]
    exact ⟨_, S, S, rfl, by rw [m5 S b4, b_X12_street_5, if_pos (b2i_f ha)], hS⟩
