/-! ===== range, grammar ===== -/
theorem op_range (a b c d e f : Int32) : i_Op (fun S => x_X11_range [.ref 0, .int a, .int b, .int c, .int d, .int e, .int f] S) (fun S => x_X12_range [.ref 56, .int a, .int b, .int c, .int d, .int e, .int f] S) := by
  rintro S ⟨⟨n, m, N, W, H, Z, T, U, R, G, D, hP⟩, hX⟩
  have hS : i_I S := ⟨⟨n, m, N, W, H, Z, T, U, R, G, D, hP⟩, hX⟩
  obtain ⟨z1, z2, z3, -⟩ := hP.2.2.2.2.1
  obtain ⟨t1, t2, t3, -⟩ := hP.2.2.2.2.2.1
  obtain ⟨s1, s2, s3, s4, s5, s6, s7, s8, s9, s10⟩ := hP.2.2.2.2.2.2.2.1
  have m5 : ∀ S1 : a_M, S1.1 56 17 = nI Z → S1.1 56 20 = nI T → S1.1 56 26 = nI R → x_X12_range [.ref 56, .int a, .int b, .int c, .int d, .int e, .int f] S1 = if ¬ ixp a Z then some (some (.int (-2)), S1) else if ¬ p_span b c then some (some (.int (-2)), S1) else if ¬ (¬ d < 0 ∧ ¬ 2 < d) then some (some (.int (-2)), S1) else if ¬ ixp e T then some (some (.int (-2)), S1) else if ¬ (¬ f < 0 ∧ ¬ 999 < f) then some (some (.int (-2)), S1) else (if nI R = 60 then some (some (.int (-8)), S1) else some (some (.int (nI R)), (a_wi (a_wi (a_wi (a_wi (a_wi (a_wi (a_wi S1 75 R a) 76 R b) 77 R c) 78 R d) 79 R e) 80 R f) 56 26 (nI (R + 1))))) := by
    intro S1 q1 q2 q3
    rw [e_X12_range, X12_in, q1, b2i_c (in_ixp (by omega))]
    simp only [Option.bind_some, Option.toList_some, List.append_nil, b_X12_range_11, b2i_z, X12_isSpan, b_X12_range_19, X12_in, b_X12_range_29, q2, b_X12_range_44]
    simp only [in_ixp (a := e) (N := T) (by omega), b_X12_range_56, b2i_z, q3]
    by_cases h : R = 60
    · rw [if_pos (show nI R = 60 by rw [h]; rfl), if_pos (show nI R = 60 by rw [h]; rfl)]
    · rw [if_neg (show ¬ nI R = 60 from nI_ne (b := 60) (by omega) (by decide) h), if_neg (show ¬ nI R = 60 from nI_ne (b := 60) (by omega) (by decide) h), if_neg (nI_out (by omega) (by decide)), if_neg (nI_out (by omega) (by decide)), if_neg (nI_out (by omega) (by decide)), if_neg (nI_out (by omega) (by decide)), if_neg (nI_out (by omega) (by decide)), if_neg (nI_out (by omega) (by decide)), nI_clamp (by omega), nI_1, nI_pred]
  dsimp only
  rw [e_X11_range, X6_has1 a z2]
  simp only [Option.bind_some, Option.toList_some, List.append_nil, b_X11_range_9, b2i_z, X11_isSpan, b_X11_range_17]
  by_cases ha : ixp a Z
  · rw [if_neg (not_not_intro ha)]
    by_cases hb : p_span b c
    · rw [if_neg (not_not_intro hb)]
      by_cases hd1 : d < 0
      · rw [if_pos hd1]
        exact ⟨_, S, S, rfl, by rw [m5 S z3 t3 s3, if_neg (not_not_intro ha), if_neg (not_not_intro hb), if_pos (fun q => q.1 hd1)], hS⟩
      rw [if_neg hd1]
      by_cases hd2 : 2 < d
      · rw [if_pos hd2]
        exact ⟨_, S, S, rfl, by rw [m5 S z3 t3 s3, if_neg (not_not_intro ha), if_neg (not_not_intro hb), if_pos (fun q => q.2 hd2)], hS⟩
      rw [if_neg hd2, X6_has3 e t2]
      simp only [Option.bind_some, Option.toList_some, List.append_nil, b_X11_range_44, b2i_z]
      by_cases he : ixp e T
      · rw [if_neg (not_not_intro he)]
        by_cases hf1 : f < 0
        · rw [if_pos hf1]
          exact ⟨_, S, S, rfl, by rw [m5 S z3 t3 s3, if_neg (not_not_intro ha), if_neg (not_not_intro hb), if_neg (not_not_intro ⟨hd1, hd2⟩), if_neg (not_not_intro he), if_pos (fun q => q.1 hf1)], hS⟩
        rw [if_neg hf1]
        by_cases hf2 : 999 < f
        · rw [if_pos hf2]
          exact ⟨_, S, S, rfl, by rw [m5 S z3 t3 s3, if_neg (not_not_intro ha), if_neg (not_not_intro hb), if_neg (not_not_intro ⟨hd1, hd2⟩), if_neg (not_not_intro he), if_pos (fun q => q.2 hf2)], hS⟩
        rw [if_neg hf2, s2]
        have m6 : ∀ S1 : a_M, S1.1 56 17 = nI Z → S1.1 56 20 = nI T → S1.1 56 26 = nI R → x_X12_range [.ref 56, .int a, .int b, .int c, .int d, .int e, .int f] S1 = (if nI R = 60 then some (some (.int (-8)), S1) else some (some (.int (nI R)), (a_wi (a_wi (a_wi (a_wi (a_wi (a_wi (a_wi S1 75 R a) 76 R b) 77 R c) 78 R d) 79 R e) 80 R f) 56 26 (nI (R + 1))))) := by
          intro S1 q1 q2 q3
          rw [m5 S1 q1 q2 q3, if_neg (not_not_intro ha), if_neg (not_not_intro hb), if_neg (not_not_intro ⟨hd1, hd2⟩), if_neg (not_not_intro he), if_neg (not_not_intro ⟨hf1, hf2⟩)]
        by_cases h : R < 60
        · have h60 : ¬ nI R = 60 := nI_ne (b := 60) (by omega) (by decide) (by omega)
          rw [if_pos (show nI R < 60 from nI_lt (b := 60) h (by decide)), e_X6_addRange, s2, put_28, pv_nI h (by decide)]
          have st : ∀ {S' : a_M}, S'.1 20 = S.1 20 → S'.1 20 16 = nI R := fun q => by rw [q]; exact s2
          simp only [Option.bind_some, Option.toList_none, List.append_nil, b_X6_addRange_12, put_29]
          rw [st (by simp (disch := decide) only [wi_n]), pv_nI h (by decide)]
          simp only [Option.bind_some, Option.toList_none, List.append_nil, b_X6_addRange_24, put_30]
          rw [st (by simp (disch := decide) only [wi_n]), pv_nI h (by decide)]
          simp only [Option.bind_some, Option.toList_none, List.append_nil, b_X6_addRange_36, put_31]
          rw [st (by simp (disch := decide) only [wi_n]), pv_nI h (by decide)]
          simp only [Option.bind_some, Option.toList_none, List.append_nil, b_X6_addRange_49, put_32]
          rw [st (by simp (disch := decide) only [wi_n]), pv_nI h (by decide)]
          simp only [Option.bind_some, Option.toList_none, List.append_nil, b_X6_addRange_62, put_33]
          rw [st (by simp (disch := decide) only [wi_n]), pv_nI h (by decide)]
          simp only [Option.bind_some, Option.toList_none, List.append_nil, b_X6_addRange_75, Option.toList_some, b_X11_range_96]
          rw [st (by simp (disch := decide) only [wi_n]), nI_1, nI_pred]
          refine ⟨_, _, a_wi (a_wi (a_wi (a_wi (a_wi (a_wi (a_wi (a_wi (a_wi (a_wi (a_wi (a_wi (a_wi (a_wi S 28 R a) 29 R b) 30 R c) 31 R d) 32 R e) 33 R f) 20 16 (nI (R + 1))) 75 R a) 76 R b) 77 R c) 78 R d) 79 R e) 80 R f) 56 26 (nI (R + 1)), rfl, ?_, ⟨⟨n, m, N, W, H, Z, T, U, R + 1, G, D, ?_⟩, ?_⟩⟩
          · rw [m6 _ (by simp (disch := decide) only [wi_n]; exact z3) (by simp (disch := decide) only [wi_n]; exact t3) (by simp (disch := decide) only [wi_n]; exact s3), if_neg h60]
          · unfold i_P i_L i_F i_B i_H i_Z i_T i_U i_R i_G i_A i_D at hP ⊢
            simp (disch := decide) only [wi_n, wi_e, up_e, up_n, wi_2]
            obtain ⟨p1, p2, p3, p4, p5, p6, p7, p8, p9⟩ := hP
            refine ⟨p1, p2, p3, p4, p5, p6, p7, ⟨by omega, rfl, rfl, by rw [s4], by rw [s5], by rw [s6], by rw [s7], by rw [s8], by rw [s9], fun k hk => ?_⟩, p9⟩
            rw [up_x, up_x, up_x]
            by_cases ek : k = R
            · rw [if_pos ek, if_pos ek, if_pos ek]
              obtain ⟨y, hy, rfl⟩ := ixp_of (by omega) he
              rw [cl_nI (by omega)]
              refine ⟨hy, rfl, ?_, hb.1⟩
              obtain ⟨v, v1, v2, rfl⟩ := rg_of (a := 0) (b := 2) rfl rfl (by decide) (by decide) hd1 hd2
              have : v = 0 ∨ v = 1 ∨ v = 2 := by omega
              rcases this with rfl | rfl | rfl
              · exact Or.inl rfl
              · exact Or.inr (Or.inl rfl)
              · exact Or.inr (Or.inr rfl)
            · rw [if_neg ek, if_neg ek, if_neg ek]
              exact s10 k (by omega)
          · exact i_text_w hX (fun c hc => by simp (disch := omega) only [wi_n])
        · rw [if_neg (show ¬ nI R < 60 from nI_nlt (b := 60) (by omega) (by omega))]
          refine ⟨_, S, S, rfl, ?_, hS⟩
          rw [m6 S z3 t3 s3, if_pos (show nI R = 60 by rw [show R = 60 by omega]; rfl)]
      · rw [if_pos he]
        exact ⟨_, S, S, rfl, by rw [m5 S z3 t3 s3, if_neg (not_not_intro ha), if_neg (not_not_intro hb), if_neg (not_not_intro ⟨hd1, hd2⟩), if_pos he], hS⟩
    · rw [if_pos hb]
      exact ⟨_, S, S, rfl, by rw [m5 S z3 t3 s3, if_neg (not_not_intro ha), if_pos hb], hS⟩
  · rw [if_pos ha]
    exact ⟨_, S, S, rfl, by rw [m5 S z3 t3 s3, if_pos ha], hS⟩
/-- whether the parts of an order from place i on are parts and none of those seen -/
def gm_ok (o : Int32) : Nat → Nat → Int32 → Bool
  | 0, _, _ => true
  | d + 1, i, s => decide (g_at o i < 5) && (!decide ((s >>> (g_at o i &&& 31)) &&& 1 = 1) && gm_ok o d (i + 1) (s ||| (1 <<< (g_at o i &&& 31))))
theorem gm_bits : ∀ s, s < 32 → ∀ p, p < 5 → (nI s ||| (1 <<< (nI p &&& 31))) = nI (s ||| (1 <<< p)) ∧ s ||| (1 <<< p) < 32 ∧ (((nI s >>> (nI p &&& 31)) &&& 1 = 1) ↔ s.testBit p = true) ∧ ∀ q, q < 5 → (s ||| (1 <<< p)).testBit q = (decide (q = p) || s.testBit q) := by decide +kernel
theorem gm_sound (o : Int32) : ∀ d i s, s < 32 → gm_ok o d i (nI s) = true → ∀ k, k < d → cl (g_at o (i + k)) < 5 ∧ g_at o (i + k) = nI (cl (g_at o (i + k))) ∧ s.testBit (cl (g_at o (i + k))) = false ∧ ∀ l, k < l → l < d → g_at o (i + k) ≠ g_at o (i + l) := by
  intro d
  induction d with
  | zero => intro i s _ _ k hk; omega
  | succ d ih =>
    intro i s hs h k hk
    unfold gm_ok at h
    rw [Bool.and_eq_true, Bool.and_eq_true, decide_eq_true_iff, Bool.not_eq_true', decide_eq_false_iff_not] at h
    obtain ⟨h1, h2, h3⟩ := h
    obtain ⟨p, hp, hpe⟩ : ∃ p, p < 8 ∧ g_at o i = nI p := pk_andE _ 3 rfl
    have hp5 : p < 5 := by rw [hpe] at h1; exact (nI_ltI (b := 5) (by omega) (by decide)).mp h1
    rw [hpe] at h2 h3
    obtain ⟨g1, g2, g3, g4⟩ := gm_bits s hs p hp5
    rw [g1] at h3
    have hb : s.testBit p = false := by
      cases hx : s.testBit p
      · rfl
      · exact absurd (g3.mpr hx) h2
    have rest := ih (i + 1) (s ||| (1 <<< p)) g2 h3
    have rest2 : ∀ k, k < d → g_at o (i + 1 + k) ≠ nI p ∧ s.testBit (cl (g_at o (i + 1 + k))) = false := by
      intro k hk
      obtain ⟨r1, r2, r3, -⟩ := rest k hk
      rw [g4 _ r1, Bool.or_eq_false_iff, decide_eq_false_iff_not] at r3
      refine ⟨fun q => r3.1 ?_, r3.2⟩
      rw [q, cl_nI (by omega)]
    cases k with
    | zero =>
      rw [Nat.add_zero, hpe, cl_nI (by omega)]
      refine ⟨hp5, rfl, hb, fun l h4 h5 => ?_⟩
      obtain ⟨l', rfl⟩ : ∃ l', l = l' + 1 := ⟨l - 1, by omega⟩
      rw [show i + (l' + 1) = i + 1 + l' by omega]
      exact fun q => (rest2 l' (by omega)).1 q.symm
    | succ k =>
      obtain ⟨r1, r2, r3, r4⟩ := rest k (by omega)
      rw [show i + (k + 1) = i + 1 + k by omega]
      refine ⟨r1, r2, (rest2 k (by omega)).2, fun l h4 h5 => ?_⟩
      obtain ⟨l', rfl⟩ : ∃ l', l = l' + 1 := ⟨l - 1, by omega⟩
      rw [show i + (l' + 1) = i + 1 + l' by omega]
      exact r4 l' (by omega) (by omega)
theorem X4_isGl {P : Nat} (o : Int32) (S : a_M) (hP : P ≤ 5) : ∀ d i s, i + d = P → g_X4_isGrammar 34 [.int (nI P), .int o, .null, .int s, .int (nI i), .null] [] S = some (some (.int (b2i (gm_ok o d i s = true))), S) := by
  intro d
  induction d with
  | zero =>
    intro i s h
    rw [b_X4_isGrammar_34, if_neg (nI_nlt (by omega) (by omega))]
    rfl
  | succ d ih =>
    intro i s h
    rw [b_X4_isGrammar_34, if_pos (nI_lt (by omega) (by omega)), e_X4_partAt]
    simp only [Option.bind_some, Option.toList_some, List.append_nil, b_X4_isGrammar_46]
    change (if g_at o i < 5 then (if (s >>> (g_at o i &&& 31)) &&& 1 = 1 then some (some (.int 0), S) else g_X4_isGrammar 34 [.int (nI P), .int o, .null, .int (s ||| (1 <<< (g_at o i &&& 31))), .int (nI i + 1), .null] [] S) else some (some (.int 0), S)) = _
    rw [nI_1, ih (i + 1) _ (by omega)]
    have hu : (gm_ok o (d + 1) i s = true) ↔ (g_at o i < 5 ∧ (¬ (s >>> (g_at o i &&& 31)) &&& 1 = 1) ∧ gm_ok o d (i + 1) (s ||| (1 <<< (g_at o i &&& 31))) = true) := by
      conv => lhs; unfold gm_ok
      rw [Bool.and_eq_true, Bool.and_eq_true, decide_eq_true_iff, Bool.not_eq_true', decide_eq_false_iff_not]
    rw [b2i_c hu]
    by_cases h1 : g_at o i < 5
    · rw [if_pos h1]
      by_cases h2 : (s >>> (g_at o i &&& 31)) &&& 1 = 1
      · rw [if_pos h2, b2i_f (fun q => q.2.1 h2)]
      · rw [if_neg h2]
        by_cases h3 : gm_ok o d (i + 1) (s ||| (1 <<< (g_at o i &&& 31))) = true
        · rw [b2i_t h3, b2i_t ⟨h1, h2, h3⟩]
        · rw [b2i_f h3, b2i_f (fun q => h3 q.2.2)]
    · rw [if_neg h1, b2i_f (fun q => h1 q.1)]
theorem X12_graml {P : Nat} (o u : Int32) (S : a_M) (hP : P ≤ 5) : ∀ d i s, i + d = P → ∃ s', g_X12_grammar 35 [.ref 56, .int (nI P), .int o, .int u, .int s, .int (nI i), .null] [] S = if gm_ok o d i s = true then g_X12_grammar 35 [.ref 56, .int (nI P), .int o, .int u, .int s', .int (nI P), .null] [] S else some (some (.int (-2)), S) := by
  intro d
  induction d with
  | zero =>
    intro i s h
    refine ⟨s, ?_⟩
    rw [if_pos (show gm_ok o 0 i s = true from rfl), show i = P by omega]
  | succ d ih =>
    intro i s h
    obtain ⟨s', hs'⟩ := ih (i + 1) (s ||| (1 <<< (g_at o i &&& 31))) (by omega)
    refine ⟨s', ?_⟩
    rw [b_X12_grammar_35, if_pos (nI_lt (by omega) (by omega))]
    change (if (4 : Int32) < g_at o i then some (some (.int (-2)), S) else (if (s >>> (g_at o i &&& 31)) &&& 1 = 1 then some (some (.int (-2)), S) else g_X12_grammar 35 [.ref 56, .int (nI P), .int o, .int u, .int (s ||| (1 <<< (g_at o i &&& 31))), .int (nI i + 1), .null] [] S)) = _
    rw [nI_1, hs']
    have hu : (gm_ok o (d + 1) i s = true) ↔ (g_at o i < 5 ∧ (¬ (s >>> (g_at o i &&& 31)) &&& 1 = 1) ∧ gm_ok o d (i + 1) (s ||| (1 <<< (g_at o i &&& 31))) = true) := by
      conv => lhs; unfold gm_ok
      rw [Bool.and_eq_true, Bool.and_eq_true, decide_eq_true_iff, Bool.not_eq_true', decide_eq_false_iff_not]
    have h45 : g_at o i < 5 ↔ ¬ 4 < g_at o i := p_lt_le _ _ _ (by decide)
    by_cases h1 : g_at o i < 5
    · rw [if_neg (h45.mp h1)]
      by_cases h2 : (s >>> (g_at o i &&& 31)) &&& 1 = 1
      · rw [if_pos h2, if_neg (fun q => (hu.mp q).2.1 h2)]
      · rw [if_neg h2]
        by_cases h3 : gm_ok o d (i + 1) (s ||| (1 <<< (g_at o i &&& 31))) = true
        · rw [if_pos h3, if_pos (hu.mpr ⟨h1, h2, h3⟩)]
        · rw [if_neg h3, if_neg (fun q => h3 (hu.mp q).2.2)]
    · rw [if_pos (Decidable.not_not.mp (fun q => h1 (h45.mpr q))), if_neg (fun q => h1 (hu.mp q).1)]
/-- the reference's rows of a grammar, laid -/
theorem X12_gramw {P G : Nat} (o u : Int32) (hP : P ≤ 5) (hG : G < 8) : ∀ d i S, i + d = P → S.1 56 33 = nI G → ∃ S', g_X12_grammar 112 [.ref 56, .int (nI P), .int o, .int u, .null, .int (nI i), .null] [] S = some (some (.int (nI G)), a_wi S' 56 33 (nI (G + 1))) ∧ (∀ c, c ≠ 82 → c ≠ 83 → S'.1 c = S.1 c) ∧ S'.2 = S.2 ∧
    (∀ j, S'.1 82 j = if 5 * G + i ≤ j ∧ j < 5 * G + P then g_at o (j - 5 * G) else S.1 82 j) ∧ ∀ j, S'.1 83 j = if 5 * G + i ≤ j ∧ j < 5 * G + P then b2i ((u >>> (nI (j - 5 * G) &&& 31)) &&& 1 = 1) else S.1 83 j := by
  intro d
  induction d with
  | zero =>
    intro i S h h1
    rw [b_X12_grammar_112, if_neg (nI_nlt (by omega) (by omega)), h1, nI_1, nI_pred]
    exact ⟨S, rfl, fun _ _ _ => rfl, rfl, fun j => by rw [if_neg (by omega)], fun j => by rw [if_neg (by omega)]⟩
  | succ d ih =>
    intro i S h h1
    have e1 : (5 : Int32) * nI G + nI i = nI (5 * G + i) := by rw [show (5 : Int32) = nI 5 from rfl, pk_mul, nI_add]
    have goal : ∀ w, w = b2i ((u >>> (nI i &&& 31)) &&& 1 = 1) → ∃ S', g_X12_grammar 112 [.ref 56, .int (nI P), .int o, .int u, .null, .int (nI (i + 1)), .null] [] (a_wi (a_wi S 82 (5 * G + i) (g_at o i)) 83 (5 * G + i) w) = some (some (.int (nI G)), a_wi S' 56 33 (nI (G + 1))) ∧ (∀ c, c ≠ 82 → c ≠ 83 → S'.1 c = S.1 c) ∧ S'.2 = S.2 ∧
    (∀ j, S'.1 82 j = if 5 * G + i ≤ j ∧ j < 5 * G + P then g_at o (j - 5 * G) else S.1 82 j) ∧ ∀ j, S'.1 83 j = if 5 * G + i ≤ j ∧ j < 5 * G + P then b2i ((u >>> (nI (j - 5 * G) &&& 31)) &&& 1 = 1) else S.1 83 j := by
      intro w hw
      obtain ⟨S', f1, f2, f3, f4, f5⟩ := ih (i + 1) (a_wi (a_wi S 82 (5 * G + i) (g_at o i)) 83 (5 * G + i) w) (by omega) (by simp (disch := decide) only [wi_n]; exact h1)
      refine ⟨S', f1, fun c c1 c2 => by rw [f2 c c1 c2, wi_n c2, wi_n c1], f3, fun j => ?_, fun j => ?_⟩
      · rw [f4, wi_n (by decide), wi_at, if_pos rfl]
        by_cases ej : j = 5 * G + i
        · rw [if_neg (by omega), if_pos ej, if_pos (by omega), ej, Nat.add_sub_cancel_left]
        · rw [if_neg ej]
          by_cases e2 : 5 * G + (i + 1) ≤ j ∧ j < 5 * G + P
          · rw [if_pos e2, if_pos (by omega)]
          · rw [if_neg e2, if_neg (by omega)]
      · rw [f5, wi_at, if_pos rfl, wi_n (by decide)]
        by_cases ej : j = 5 * G + i
        · rw [if_neg (by omega), if_pos ej, if_pos (by omega), ej, Nat.add_sub_cancel_left]
          exact hw
        · rw [if_neg ej]
          by_cases e2 : 5 * G + (i + 1) ≤ j ∧ j < 5 * G + P
          · rw [if_pos e2, if_pos (by omega)]
          · rw [if_neg e2, if_neg (by omega)]
    rw [b_X12_grammar_112, if_pos (nI_lt (by omega) (by omega)), h1, e1, nI_1]
    rw [if_neg (nI_out (by omega) (by decide)), nI_clamp (by omega)]
    by_cases hu : (u >>> (nI i &&& 31)) &&& 1 = 1
    · rw [if_pos hu, if_neg (nI_out2 (by omega) (by omega))]
      exact goal 1 (b2i_t hu).symm
    · rw [if_neg hu, if_neg (nI_out2 (by omega) (by omega))]
      exact goal 0 (b2i_f hu).symm
theorem gm_pow : ∀ k, k < 6 → ((1 : Int32) <<< (nI k &&& 31)) = nI (2 ^ k) := by decide +kernel
theorem op_grammar (a b c : Int32) : i_Op (fun S => x_X11_grammar [.ref 0, .int a, .int b, .int c] S) (fun S => x_X12_grammar [.ref 56, .int a, .int b, .int c] S) := by
  rintro S ⟨⟨n, m, N, W, H, Z, T, U, R, G, D, hP⟩, hX⟩
  have hS : i_I S := ⟨⟨n, m, N, W, H, Z, T, U, R, G, D, hP⟩, hX⟩
  obtain ⟨s1, s2, s3, s4, s5⟩ := hP.2.2.2.2.2.2.2.2.1
  have m5 : ∀ S1 : a_M, x_X12_grammar [.ref 56, .int a, .int b, .int c] S1 = if ¬ (¬ a < 1 ∧ ¬ 5 < a) then some (some (.int (-2)), S1) else if b < 0 then some (some (.int (-2)), S1) else if ¬ (¬ c < 0 ∧ ¬ ((1 : Int32) <<< (a &&& 31)) - 1 < c) then some (some (.int (-2)), S1) else g_X12_grammar 35 [.ref 56, .int a, .int b, .int c, .int 0, .int 0, .null] [] S1 := by
    intro S1
    rw [e_X12_grammar, X12_in]
    simp only [Option.bind_some, Option.toList_some, List.append_nil, b_X12_grammar_6, b2i_z, X12_in, b_X12_grammar_23]
  dsimp only
  rw [e_X11_grammar, e_X4_isGrammar]
  by_cases ha1 : a < 1
  · rw [if_pos ha1]
    simp only [Option.bind_some, Option.toList_some, List.append_nil, b_X11_grammar_6]
    rw [if_pos trivial]
    exact ⟨_, S, S, rfl, by rw [m5 S, if_pos (fun q => q.1 ha1)], hS⟩
  rw [if_neg ha1]
  by_cases ha2 : 5 < a
  · rw [if_pos ha2]
    simp only [Option.bind_some, Option.toList_some, List.append_nil, b_X11_grammar_6]
    rw [if_pos trivial]
    exact ⟨_, S, S, rfl, by rw [m5 S, if_pos (fun q => q.2 ha2)], hS⟩
  rw [if_neg ha2]
  by_cases hb : b < 0
  · rw [if_pos hb]
    simp only [Option.bind_some, Option.toList_some, List.append_nil, b_X11_grammar_6]
    rw [if_pos trivial]
    exact ⟨_, S, S, rfl, by rw [m5 S, if_neg (not_not_intro ⟨ha1, ha2⟩), if_pos hb], hS⟩
  rw [if_neg hb]
  obtain ⟨P, p1, p2, rfl⟩ := rg_of (a := 1) (b := 5) rfl rfl (by decide) (by decide) ha1 ha2
  have hp2 : 2 ^ P ≤ 32 := by
    have : P = 1 ∨ P = 2 ∨ P = 3 ∨ P = 4 ∨ P = 5 := by omega
    rcases this with rfl | rfl | rfl | rfl | rfl <;> decide
  have m6 : ∀ S1 : a_M, x_X12_grammar [.ref 56, .int (nI P), .int b, .int c] S1 = if ¬ ixp c (2 ^ P) then some (some (.int (-2)), S1) else g_X12_grammar 35 [.ref 56, .int (nI P), .int b, .int c, .int 0, .int 0, .null] [] S1 := by
    intro S1
    rw [m5 S1, if_neg (not_not_intro ⟨ha1, ha2⟩), if_neg hb, gm_pow P (by omega)]
    by_cases h : ixp c (2 ^ P)
    · rw [if_neg (not_not_intro ((in_ixp (by omega)).mpr h)), if_neg (not_not_intro h)]
    · rw [if_pos (fun q => h ((in_ixp (by omega)).mp q)), if_pos h]
  rw [gm_pow P (by omega)]
  by_cases hc : ixp c (2 ^ P)
  · rw [if_neg hc.1, if_pos hc.2]
    have hl := X4_isGl (P := P) b S p2 P 0 0 (by omega)
    rw [nI_0] at hl
    rw [hl]
    simp only [Option.bind_some, Option.toList_some, List.append_nil, b_X11_grammar_6, b2i_z]
    have m7 : ∀ S1 : a_M, ∃ s', x_X12_grammar [.ref 56, .int (nI P), .int b, .int c] S1 = if gm_ok b P 0 0 = true then g_X12_grammar 35 [.ref 56, .int (nI P), .int b, .int c, .int s', .int (nI P), .null] [] S1 else some (some (.int (-2)), S1) := by
      intro S1
      obtain ⟨s', h⟩ := X12_graml (P := P) b c S1 p2 P 0 0 (by omega)
      rw [nI_0] at h
      exact ⟨s', by rw [m6 S1, if_neg (not_not_intro hc), h]⟩
    by_cases hg : gm_ok b P 0 0 = true
    · rw [if_neg (not_not_intro hg), s2]
      have snd := gm_sound b P 0 0 (by decide) (by rw [nI_0]; exact hg)
      by_cases h : G < 8
      · rw [if_pos (show nI G < 8 from nI_lt (b := 8) h (by decide)), e_X4_add, s2, put_35, pv_nI h (by decide)]
        simp only [Option.bind_some, Option.toList_none, List.append_nil, b_X4_add_12, put_36]
        have st : ∀ {S' : a_M}, S'.1 34 = S.1 34 → S'.1 34 3 = nI G := fun q => by rw [q]; exact s2
        rw [st (by simp (disch := decide) only [wi_n]), pv_nI h (by decide)]
        simp only [Option.bind_some, Option.toList_none, List.append_nil, b_X4_add_24, put_37]
        rw [st (by simp (disch := decide) only [wi_n]), pv_nI h (by decide)]
        simp only [Option.bind_some, Option.toList_none, List.append_nil, b_X4_add_36, Option.toList_some, b_X11_grammar_39]
        rw [st (by simp (disch := decide) only [wi_n]), nI_1, nI_pred]
        obtain ⟨S1, hS1⟩ : ∃ S1, S1 = a_wi (a_wi (a_wi (a_wi S 35 G (nI P)) 36 G b) 37 G c) 34 3 (nI (G + 1)) := ⟨_, rfl⟩
        rw [← hS1]
        obtain ⟨s', hs'⟩ := m7 S1
        have q33 : S1.1 56 33 = nI G := by rw [hS1]; simp (disch := decide) only [wi_n]; exact s3
        obtain ⟨S2, f1, f2, f3, f4, f5⟩ := X12_gramw (P := P) (G := G) b c p2 h P 0 (a_wi S1 81 G (nI P)) (by omega) (by rw [wi_n (by decide)]; exact q33)
        rw [nI_0] at f1
        have e2 : ∀ c, c ≠ 82 → c ≠ 83 → c ≠ 81 → S2.1 c = S1.1 c := fun c c1 c2 c3 => by rw [f2 c c1 c2, wi_n c3]
        have e81 : S2.1 81 = upd (S.1 81) G (nI P) := by rw [f2 81 (by decide) (by decide), wi_e, hS1]; simp (disch := decide) only [wi_n]
        refine ⟨_, S1, a_wi S2 56 33 (nI (G + 1)), rfl, ?_, ⟨n, m, N, W, H, Z, T, U, R, G + 1, D, ?_⟩, i_text_w hX (fun c hc => ?_)⟩
        · rw [hs', if_pos hg, b_X12_grammar_35, if_neg (nI_nlt (Nat.le_refl _) (by omega)), q33, if_neg (show ¬ nI G = 8 from nI_ne (b := 8) (by omega) (by decide) (by omega)), if_neg (nI_out h (by decide)), nI_clamp (by omega), f1]
        · unfold i_P i_L i_F i_B i_H i_Z i_T i_U i_R i_G i_A i_D at hP ⊢
          rw [wi_2, f3, wi_2]
          simp (disch := decide) only [wi_n, wi_e, up_e, up_n, e2, e81]
          rw [hS1]
          simp (disch := decide) only [wi_n, wi_e, up_e, up_n, wi_2]
          obtain ⟨r1, r2, r3, r4, r5, r6, r7, r8, r9, r10⟩ := hP
          refine ⟨r1, r2, r3, r4, r5, r6, r7, r8, ⟨by omega, rfl, rfl, by rw [s4], fun g hg2 => ?_⟩, r10⟩
          simp only [up_x, f4, f5]
          by_cases eg : g = G
          · subst eg
            simp only [if_pos]
            rw [cl_nI (by omega)]
            refine ⟨p1, p2, rfl, fun i hi => ?_, fun i j hi hj q => ?_⟩
            · rw [if_pos (by omega), if_pos (by omega), Nat.add_sub_cancel_left]
              obtain ⟨k1, k2, -, -⟩ := snd i hi
              rw [Nat.zero_add] at k1 k2
              exact ⟨rfl, by omega, k2, rfl⟩
            · rw [if_pos (by omega), if_pos (by omega), Nat.add_sub_cancel_left, Nat.add_sub_cancel_left] at q
              rcases Nat.lt_trichotomy i j with h5 | h5 | h5
              · have := (snd i hi).2.2.2 j h5 hj
                rw [Nat.zero_add, Nat.zero_add] at this
                exact absurd q this
              · exact h5
              · have := (snd j hj).2.2.2 i h5 hi
                rw [Nat.zero_add, Nat.zero_add] at this
                exact absurd q.symm this
          · simp only [if_neg eg]
            obtain ⟨k1, k2, k3, k4, k5⟩ := s5 g (by omega)
            have e82 : ∀ j, (a_wi S1 81 G (nI P)).1 82 j = S.1 82 j := fun j => by rw [hS1]; simp (disch := decide) only [wi_n]
            have e83 : ∀ j, (a_wi S1 81 G (nI P)).1 83 j = S.1 83 j := fun j => by rw [hS1]; simp (disch := decide) only [wi_n]
            refine ⟨k1, k2, k3, fun i hi => ?_, fun i j hi hj q => ?_⟩
            · rw [if_neg (by omega), if_neg (by omega), e82, e83]; exact k4 i hi
            · rw [if_neg (by omega), if_neg (by omega), e82, e82] at q; exact k5 i j hi hj q
        · rw [wi_n (by omega), e2 c (by omega) (by omega) (by omega), hS1]
          simp (disch := omega) only [wi_n]
      · rw [if_neg (show ¬ nI G < 8 from nI_nlt (b := 8) (by omega) (by omega))]
        obtain ⟨s', hs'⟩ := m7 S
        refine ⟨_, S, S, rfl, ?_, hS⟩
        rw [hs', if_pos hg, b_X12_grammar_35, if_neg (nI_nlt (Nat.le_refl _) (by omega)), s3, if_pos (show nI G = 8 by rw [show G = 8 by omega]; rfl)]
    · rw [if_pos hg]
      obtain ⟨s', hs'⟩ := m7 S
      exact ⟨_, S, S, rfl, by rw [hs', if_neg hg], hS⟩
  · refine ⟨-2, S, S, ?_, by rw [m6 S, if_pos hc], hS⟩
    by_cases h0 : c < 0
    · rw [if_pos h0]
      simp only [Option.bind_some, Option.toList_some, List.append_nil, b_X11_grammar_6]
      rw [if_pos trivial]
    · rw [if_neg h0, if_neg (fun q => hc ⟨h0, q⟩)]
      simp only [Option.bind_some, Option.toList_some, List.append_nil, b_X11_grammar_6]
      rw [if_pos trivial]
