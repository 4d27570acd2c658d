/-! ===== also, town, unit, range ===== -/
theorem X6_namesOf1 {s : Nat} {S : a_M} (hs : s < 30) : x_X6_namesOf [.ref 20, .int 1, .int (nI s)] S = some (some (.int (S.1 22 s)), S) := by
  rw [e_X6_namesOf, if_pos rfl, at_22]
  simp only [Option.bind_some, Option.toList_some, List.append_nil, b_X6_namesOf_13]
  rw [av_nI hs (by decide)]
theorem X6_nameOf1 {s i : Nat} {S : a_M} (hs : s * 4 + i < 120) : x_X6_nameOf [.ref 20, .int 1, .int (nI s), .int (nI i)] S = some (some (.int (S.1 21 (s * 4 + i))), S) := by
  rw [e_X6_nameOf, if_pos rfl, at_21]
  simp only [Option.bind_some, Option.toList_some, List.append_nil, b_X6_nameOf_17]
  rw [show (4 : Int32) = nI 4 from rfl, pk_mul, nI_add, av_nI hs (by decide)]
theorem X6_streetHas {s z : Nat} (x : Int32) {S : a_M} (hs : s < 30) (hz : z ≤ 4) (h : S.1 22 s = nI z) : ((∃ i, i < z ∧ S.1 21 (s * 4 + i) = x) ∧ x_X6_streetHasName [.ref 20, .int (nI s), .int x] S = some (some (.int 1), S)) ∨ ((∀ i, i < z → ¬ S.1 21 (s * 4 + i) = x) ∧ x_X6_streetHasName [.ref 20, .int (nI s), .int x] S = some (some (.int 0), S)) := by
  have st : ∀ i : Nat, g_X6_streetHasName 2 [.ref 20, .int (nI s), .int x, .int (nI i)] [] S = g_X6_streetHasName 9 [.ref 20, .int (nI s), .int x, .int (nI i)] [.int (nI z), .int (nI i)] S := by
    intro i
    rw [b_X6_streetHasName_2, X6_namesOf1 hs, h]
    simp only [Option.bind_some, Option.toList_some, List.cons_append, List.nil_append]
  have key := lp_find (fun i => g_X6_streetHasName 2 [.ref 20, .int (nI s), .int x, .int (nI i)] [] S) z (fun i => S.1 21 (s * 4 + i) = x) (some (some (.int 1), S))
    (by
      intro i hi hq
      rw [st, b_X6_streetHasName_9, if_pos (nI_lt hi (by omega)), X6_nameOf1 (by omega)]
      simp only [Option.bind_some, Option.toList_some, List.append_nil, b_X6_streetHasName_19]
      rw [if_pos hq])
    (by
      intro i hi hq
      rw [st, b_X6_streetHasName_9, if_pos (nI_lt hi (by omega)), X6_nameOf1 (by omega)]
      simp only [Option.bind_some, Option.toList_some, List.append_nil, b_X6_streetHasName_19]
      rw [if_neg hq, nI_1])
  rw [nI_0, ← e_X6_streetHasName] at key
  rcases key with ⟨h1, h2⟩ | ⟨h1, h2⟩
  · exact Or.inl ⟨h1, h2⟩
  · refine Or.inr ⟨h1, h2.trans ?_⟩
    rw [st, b_X6_streetHasName_9, if_neg (nI_nlt (Nat.le_refl _) (by omega))]
theorem X12_alsol {s z : Nat} (x : Int32) {S : a_M} (hs : s < 30) (hz : z ≤ 4) (h : S.1 69 s = nI z) : ((∃ i, i < z ∧ S.1 70 (s * 4 + i) = x) ∧ g_X12_also 27 [.ref 56, .int (nI s), .int x, .int 0] [] S = some (some (.int (-7)), S)) ∨ ((∀ i, i < z → ¬ S.1 70 (s * 4 + i) = x) ∧ g_X12_also 27 [.ref 56, .int (nI s), .int x, .int 0] [] S = g_X12_also 27 [.ref 56, .int (nI s), .int x, .int (nI z)] [] S) := by
  have hc : (nI s).toNatClampNeg = s := nI_clamp (by omega)
  have key := lp_find (fun i => g_X12_also 27 [.ref 56, .int (nI s), .int x, .int (nI i)] [] S) z (fun i => S.1 70 (s * 4 + i) = x) (some (some (.int (-7)), S))
    (by
      intro i hi hq
      rw [b_X12_also_27, if_neg (nI_out hs (by decide)), hc, h, if_pos (nI_lt hi (by omega)), show (4 : Int32) = nI 4 from rfl, pk_mul, nI_add, if_neg (nI_out (by omega) (by decide)), nI_clamp (by omega), if_pos (by rw [Nat.mul_comm]; exact hq)])
    (by
      intro i hi hq
      rw [b_X12_also_27, if_neg (nI_out hs (by decide)), hc, h, if_pos (nI_lt hi (by omega)), show (4 : Int32) = nI 4 from rfl, pk_mul, nI_add, if_neg (nI_out (by omega) (by decide)), nI_clamp (by omega), if_neg (by rw [Nat.mul_comm]; exact hq), nI_1])
  rw [nI_0] at key
  exact key
theorem op_also (a b : Int32) : i_Op (fun S => x_X11_also [.ref 0, .int a, .int b] S) (fun S => x_X12_also [.ref 56, .int a, .int b] S) := by
  rintro S ⟨⟨n, m, N, W, H, Z, T, U, R, G, D, hP⟩, hX⟩
  have hS : i_I S := ⟨⟨n, m, N, W, H, Z, T, U, R, G, D, hP⟩, hX⟩
  obtain ⟨b1, b2, b3, b4, b5, b6, b7, -⟩ := hP.2.2.1
  obtain ⟨s1, s2, s3, s4, s5, s6, s7, s8⟩ := hP.2.2.2.2.1
  have m5 : ∀ S1 : a_M, S1.1 56 10 = nI N → S1.1 56 17 = nI Z → x_X12_also [.ref 56, .int a, .int b] S1 = if ¬ ixp a Z then some (some (.int (-2)), S1) else if ¬ ixp b N then some (some (.int (-2)), S1) else g_X12_also 27 [.ref 56, .int a, .int b, .int 0] [] S1 := by
    intro S1 q q2
    rw [e_X12_also, X12_in, q2, b2i_c (in_ixp (by omega))]
    simp only [Option.bind_some, Option.toList_some, List.append_nil, b_X12_also_11, b2i_z]
    rw [X12_isName b (by omega) q]
    simp only [Option.bind_some, Option.toList_some, List.append_nil, b_X12_also_19, b2i_z]
  dsimp only
  rw [e_X11_also, X6_has1 a s2]
  simp only [Option.bind_some, Option.toList_some, List.append_nil, b_X11_also_9, b2i_z]
  by_cases ha : ixp a Z
  · rw [if_neg (not_not_intro ha), X0_hasName b b3]
    simp only [Option.bind_some, Option.toList_some, List.append_nil, b_X11_also_20, b2i_z]
    by_cases hb : ixp b N
    · rw [if_neg (not_not_intro hb)]
      have m6 : ∀ S1 : a_M, S1.1 56 10 = nI N → S1.1 56 17 = nI Z → x_X12_also [.ref 56, .int a, .int b] S1 = g_X12_also 27 [.ref 56, .int a, .int b, .int 0] [] S1 := by
        intro S1 q q2
        rw [m5 S1 q q2, if_neg (not_not_intro ha), if_neg (not_not_intro hb)]
      obtain ⟨s, hs, rfl⟩ := ixp_of (by omega) ha
      obtain ⟨y, hy, rfl⟩ := ixp_of (by omega) hb
      obtain ⟨c1, c2, c3⟩ := s6 s hs
      obtain ⟨z, hz⟩ : ∃ z, z = cl (S.1 22 s) := ⟨_, rfl⟩
      rw [← hz] at c1 c2 c3
      rcases X6_streetHas (nI y) (by omega) c2 c3 with ⟨⟨i, hi, hi2⟩, h2⟩ | ⟨h2, h3⟩
      · rw [h2]
        simp only [Option.bind_some, Option.toList_some, List.append_nil, b_X11_also_35]
        rw [if_neg (by decide)]
        refine ⟨_, S, S, rfl, ?_, hS⟩
        rw [m6 S b4 s3]
        rcases X12_alsol (s := s) (S := S) (nI y) (by omega) c2 (by rw [← s4]; exact c3) with ⟨-, h4⟩ | ⟨h4, -⟩
        · exact h4
        · exact absurd (by rw [← s5]; exact hi2) (h4 i hi)
      · rw [h3]
        simp only [Option.bind_some, Option.toList_some, List.append_nil, b_X11_also_35]
        rw [if_pos (by decide), X6_namesOf1 (by omega), c3]
        simp only [Option.bind_some, Option.toList_some, List.append_nil, b_X11_also_50]
        have e4 : ∀ S1 : a_M, S1.1 56 10 = nI N → S1.1 56 17 = nI Z → S1.1 69 = S.1 69 → S1.1 70 = S.1 70 → x_X12_also [.ref 56, .int (nI s), .int (nI y)] S1 = g_X12_also 27 [.ref 56, .int (nI s), .int (nI y), .int (nI z)] [] S1 := by
          intro S1 q q2 q3 q4
          rw [m6 S1 q q2]
          rcases X12_alsol (s := s) (S := S1) (nI y) (by omega) c2 (by rw [q3, ← s4]; exact c3) with ⟨⟨i, hi, hi2⟩, h4⟩ | ⟨-, h4⟩
          · rw [q4, ← s5] at hi2
            exact absurd hi2 (h2 i hi)
          · exact h4
        have hc : (nI s).toNatClampNeg = s := nI_clamp (by omega)
        by_cases h4 : z < 4
        · rw [if_pos (show nI z < 4 from nI_lt (b := 4) h4 (by decide)), e_X6_addStreetName, X6_namesOf1 (by omega), c3]
          simp only [Option.bind_some, Option.toList_some, List.append_nil, b_X6_addStreetName_6, put_21, Option.toList_none, b_X6_addStreetName_20, put_22, b_X6_addStreetName_31, b_X11_also_68]
          rw [show (4 : Int32) = nI 4 from rfl, pk_mul, nI_add, pv_nI (by omega) (by decide), pv_nI (by omega) (by decide), nI_1]
          refine ⟨_, _, a_wi (a_wi (a_wi (a_wi S 21 (s * 4 + z) (nI y)) 22 s (nI (z + 1))) 70 (s * 4 + z) (nI y)) 69 s (nI (z + 1)), rfl, ?_, ⟨n, m, N, W, H, Z, T, U, R, G, D, ?_⟩, i_text_w hX (fun c hc => by simp (disch := omega) only [wi_n])⟩
          · have q3 : (a_wi (a_wi S 21 (s * 4 + z) (nI y)) 22 s (nI (z + 1))).1 69 s = nI z := by simp (disch := decide) only [wi_n]; rw [← s4]; exact c3
            rw [e4 _ (by simp (disch := decide) only [wi_n]; exact b4) (by simp (disch := decide) only [wi_n]; exact s3) (by simp (disch := decide) only [wi_n]) (by simp (disch := decide) only [wi_n]), b_X12_also_27, if_neg (nI_out (by omega) (by decide)), hc, q3, if_neg (nI_nlt (Nat.le_refl _) (by omega)), if_neg (nI_out2 (by omega) (by omega)), if_neg (show ¬ nI z = 4 from nI_ne (b := 4) (by omega) (by decide) (by omega)), if_neg (nI_out2 (by omega) (by omega)), show (4 : Int32) = nI 4 from rfl, pk_mul, nI_add, if_neg (nI_out (by omega) (by decide)), if_neg (nI_out2 (by omega) (by omega)), if_neg (nI_out2 (by omega) (by omega)), if_neg (nI_out2 (by omega) (by omega)), nI_clamp (by omega), nI_1, wi_v, Nat.mul_comm 4 s]
          · unfold i_P i_L i_F i_B i_H i_Z i_T i_U i_R i_G i_A i_D at hP ⊢
            simp (disch := decide) only [wi_n, wi_e, up_e, up_n, wi_2]
            obtain ⟨p1, p2, p3, p4, p5, p6⟩ := hP
            refine ⟨p1, p2, p3, p4, ⟨s1, s2, s3, by rw [s4], by rw [s5], fun k hk => ?_, fun k j hk hj => ?_, fun k k1 k2 => ?_⟩, p6⟩
            · rw [up_x]
              by_cases e : k = s
              · rw [if_pos e, cl_nI (by omega)]; exact ⟨by omega, by omega, rfl⟩
              · rw [if_neg e]; exact s6 k hk
            · rw [up_x] at hj ⊢
              by_cases e : k = s
              · subst e
                rw [if_pos rfl, cl_nI (by omega)] at hj
                by_cases e2 : j = z
                · rw [if_pos (by omega), cl_nI (by omega)]; exact ⟨hy, rfl⟩
                · rw [if_neg (by omega)]; exact s7 k j hk (by rw [← hz]; omega)
              · rw [if_neg e] at hj
                have := s6 k hk
                rw [if_neg (by omega)]
                exact s7 k j hk hj
            · rw [up_n (by omega)]; exact s8 k k1 k2
        · rw [if_neg (show ¬ nI z < 4 from nI_nlt (b := 4) (by omega) (by omega))]
          refine ⟨_, S, S, rfl, ?_, hS⟩
          rw [e4 S b4 s3 rfl rfl, b_X12_also_27, if_neg (nI_out (by omega) (by decide)), hc, ← s4, c3, if_neg (nI_nlt (Nat.le_refl _) (by omega)), if_neg (nI_out2 (by omega) (by omega)), if_pos (show nI z = 4 by rw [show z = 4 by omega]; rfl)]
    · rw [if_pos hb]
      exact ⟨_, S, S, rfl, by rw [m5 S b4 s3, if_neg (not_not_intro ha), if_pos hb], hS⟩
  · rw [if_pos ha]
    exact ⟨_, S, S, rfl, by rw [m5 S b4 s3, if_pos ha], hS⟩
theorem i_rec_mono {N Z T N' Z' T' : Nat} {sz sz' : Nat → Int32} (hs : ∀ v, v < N → cl (sz' v) = cl (sz v)) (h1 : N ≤ N') (h2 : Z ≤ Z') (h3 : T ≤ T') {h0 ha hb hc hd num let_ str unm usz twn cod : Int32} (h : i_rec N Z T sz h0 ha hb hc hd num let_ str unm usz twn cod) : i_rec N' Z' T' sz' h0 ha hb hc hd num let_ str unm usz twn cod := by
  obtain ⟨t1, t2, t3, t4, t5⟩ := h
  refine ⟨t1, t2.imp ?_ id, t3.imp ?_ id, t4.imp ?_ id, t5⟩
  · rintro ⟨q, v, v1, v2⟩; exact ⟨q, v, by omega, v2⟩
  · rintro ⟨q, ⟨v, v1, vz, v2⟩, q3⟩; exact ⟨q, ⟨v, by omega, by rw [hs v v1]; exact vz, v2⟩, q3⟩
  · rintro ⟨q, v, v1, v2⟩; exact ⟨q, v, by omega, v2⟩
theorem i_del_mono {N Z T N' Z' T' D : Nat} {sz sz' : Nat → Int32} (hs : ∀ v, v < N → cl (sz' v) = cl (sz v)) (h1 : N ≤ N') (h2 : Z ≤ Z') (h3 : T ≤ T') {c c' : Int32} {F has num let_ str unm usz usg twn cod oft : Nat → Int32} (h : i_del N Z T D sz c c' F has num let_ str unm usz usg twn cod oft) : i_del N' Z' T' D sz' c c' F has num let_ str unm usz usg twn cod oft := by
  obtain ⟨d1, d2, d3, d4⟩ := h
  refine ⟨d1, d2, d3, fun d hd => ?_⟩
  obtain ⟨r1, r2, r3, r4, r5, r6, r7, r8, r9, r10, t⟩ := d4 d hd
  exact ⟨r1, r2, r3, r4, r5, r6, r7, r8, r9, r10, i_rec_mono hs h1 h2 h3 t⟩
theorem op_town (a b c : Int32) : i_Op (fun S => x_X11_town [.ref 0, .int a, .int b, .int c] S) (fun S => x_X12_town [.ref 56, .int a, .int b, .int c] S) := by
  rintro S ⟨⟨n, m, N, W, H, Z, T, U, R, G, D, hP⟩, hX⟩
  have hS : i_I S := ⟨⟨n, m, N, W, H, Z, T, U, R, G, D, hP⟩, hX⟩
  obtain ⟨b1, b2, b3, b4, b5, b6, b7, -⟩ := hP.2.2.1
  obtain ⟨s1, s2, s3, s4, s5, s6, s7⟩ := hP.2.2.2.2.2.1
  have m5 : ∀ S1 : a_M, S1.1 56 10 = nI N → x_X12_town [.ref 56, .int a, .int b, .int c] S1 = if ¬ ixp a N then some (some (.int (-2)), S1) else if ¬ p_span b c then some (some (.int (-2)), S1) else g_X12_town 13 [.ref 56, .int a, .int b, .int c] [.int (b2i (p_span b c))] S1 := by
    intro S1 q
    rw [e_X12_town, X12_isName a (by omega) q]
    simp only [Option.bind_some, Option.toList_some, List.append_nil, b_X12_town_5, b2i_z]
    rw [X12_isSpan]
    simp only [Option.bind_some, Option.toList_some, List.append_nil]
    by_cases hb : p_span b c
    · rw [if_neg (not_not_intro hb)]
    · rw [if_pos hb, b_X12_town_13, if_pos (b2i_f hb)]
  dsimp only
  rw [e_X11_town, X0_hasName a b3]
  simp only [Option.bind_some, Option.toList_some, List.append_nil, b_X11_town_8, b2i_z]
  by_cases ha : ixp a N
  · rw [if_neg (not_not_intro ha), X11_isSpan]
    simp only [Option.bind_some, Option.toList_some, List.append_nil, b_X11_town_16, b2i_z]
    by_cases hb : p_span b c
    · rw [if_neg (not_not_intro hb), s2]
      have m6 : ∀ S1 : a_M, S1.1 56 10 = nI N → x_X12_town [.ref 56, .int a, .int b, .int c] S1 = g_X12_town 13 [.ref 56, .int a, .int b, .int c] [.int 1] S1 := by
        intro S1 q
        rw [m5 S1 q, if_neg (not_not_intro ha), if_neg (not_not_intro hb), b2i_t hb]
      by_cases h : T < 20
      · rw [if_pos (show nI T < 20 from nI_lt (b := 20) h (by decide)), e_X6_addTown, s2, put_23, pv_nI h (by decide)]
        simp only [Option.bind_some, Option.toList_none, List.append_nil, b_X6_addTown_12, put_24, b_X6_addTown_24, put_25, b_X6_addTown_36, Option.toList_some, b_X11_town_49]
        have q1 : (a_wi S 23 T a).1 20 14 = nI T := by simp (disch := decide) only [wi_n]; exact s2
        rw [q1, pv_nI h (by decide)]
        have q1 : (a_wi (a_wi S 23 T a) 24 T b).1 20 14 = nI T := by simp (disch := decide) only [wi_n]; exact s2
        rw [q1, pv_nI h (by decide)]
        have q1 : (a_wi (a_wi (a_wi S 23 T a) 24 T b) 25 T c).1 20 14 = nI T := by simp (disch := decide) only [wi_n]; exact s2
        rw [q1, nI_1, nI_pred]
        have q2 : (a_wi (a_wi (a_wi (a_wi S 23 T a) 24 T b) 25 T c) 20 14 (nI (T + 1))).1 56 20 = nI T := by simp (disch := decide) only [wi_n]; exact s3
        refine ⟨_, _, a_wi (a_wi (a_wi (a_wi (a_wi (a_wi (a_wi (a_wi S 23 T a) 24 T b) 25 T c) 20 14 (nI (T + 1))) 71 T a) 72 T b) 73 T c) 56 20 (nI (T + 1)), rfl, ?_, ⟨n, m, N, W, H, Z, T + 1, U, R, G, D, ?_⟩, i_text_w hX (fun c hc => by simp (disch := omega) only [wi_n])⟩
        · rw [m6 _ (by simp (disch := decide) only [wi_n]; exact b4), b_X12_town_13, if_neg (by decide), q2, if_neg (show ¬ nI T = 20 from nI_ne (b := 20) (by omega) (by decide) (by omega)), if_neg (nI_out h (by decide)), if_neg (nI_out h (by decide)), if_neg (nI_out h (by decide)), nI_clamp (by omega), nI_1, nI_pred]
        · unfold i_P i_L i_F i_B i_H i_Z i_T i_U i_R i_G i_A i_D at hP ⊢
          simp (disch := decide) only [wi_n, wi_e, up_e, up_n, wi_2]
          obtain ⟨p1, p2, p3, p4, p5, p6, p7, p8, p9, p10, p11⟩ := hP
          obtain ⟨r1, r2, r3, r4, r5, r6, r7, r8, r9, r10⟩ := p8
          refine ⟨p1, p2, p3, p4, p5, ⟨by omega, rfl, rfl, by rw [s4], by rw [s5], by rw [s6], fun k hk => ?_⟩, p7, ⟨r1, r2, r3, r4, r5, r6, r7, r8, r9, fun k hk => ?_⟩, p9, p10, i_del_mono (fun _ _ => rfl) (Nat.le_refl _) (Nat.le_refl _) (by omega) p11⟩
          · rw [up_x]
            obtain ⟨x, hx, rfl⟩ := ixp_of (by omega) ha
            by_cases e : k = T
            · rw [if_pos e, cl_nI (by omega)]; exact ⟨hx, rfl⟩
            · rw [if_neg e]; exact s7 k (by omega)
          · have := r10 k hk
            exact ⟨by omega, this.2⟩
      · rw [if_neg (show ¬ nI T < 20 from nI_nlt (b := 20) (by omega) (by omega))]
        refine ⟨_, S, S, rfl, ?_, hS⟩
        rw [m6 S b4, b_X12_town_13, if_neg (by decide), s3, if_pos (show nI T = 20 by rw [show T = 20 by omega]; rfl)]
    · rw [if_pos hb]
      exact ⟨_, S, S, rfl, by rw [m5 S b4, if_neg (not_not_intro ha), if_pos hb], hS⟩
  · rw [if_pos ha]
    exact ⟨_, S, S, rfl, by rw [m5 S b4, if_pos ha], hS⟩
theorem X6_isUnitName {U : Nat} (x : Int32) {S : a_M} (hU : U ≤ 10) (h : S.1 20 15 = nI U) : ((∃ i, i < U ∧ S.1 26 i = x) ∧ x_X6_isUnitName [.ref 20, .int x] S = some (some (.int 1), S)) ∨ ((∀ i, i < U → ¬ S.1 26 i = x) ∧ x_X6_isUnitName [.ref 20, .int x] S = some (some (.int 0), S)) := by
  have key := lp_find (fun i => g_X6_isUnitName 2 [.ref 20, .int x, .int (nI i)] [] S) U (fun i => S.1 26 i = x) (some (some (.int 1), S))
    (by
      intro i hi hq
      rw [b_X6_isUnitName_2, h, if_pos (nI_lt hi (by omega)), at_26]
      simp only [Option.bind_some, Option.toList_some, List.append_nil, b_X6_isUnitName_18]
      rw [av_nI (by omega) (by decide), if_pos hq])
    (by
      intro i hi hq
      rw [b_X6_isUnitName_2, h, if_pos (nI_lt hi (by omega)), at_26]
      simp only [Option.bind_some, Option.toList_some, List.append_nil, b_X6_isUnitName_18]
      rw [av_nI (by omega) (by decide), if_neg hq, nI_1])
  rw [nI_0, ← e_X6_isUnitName] at key
  rcases key with ⟨h1, h2⟩ | ⟨h1, h2⟩
  · exact Or.inl ⟨h1, h2⟩
  · refine Or.inr ⟨h1, h2.trans ?_⟩
    rw [b_X6_isUnitName_2, h, if_neg (nI_nlt (Nat.le_refl _) (by omega))]
theorem X12_unitl {U : Nat} (x : Int32) {S : a_M} (hU : U ≤ 10) (h : S.1 56 24 = nI U) : ((∃ i, i < U ∧ S.1 74 i = x) ∧ g_X12_unit 26 [.ref 56, .int x, .int 0] [] S = some (some (.int (-7)), S)) ∨ ((∀ i, i < U → ¬ S.1 74 i = x) ∧ g_X12_unit 26 [.ref 56, .int x, .int 0] [] S = g_X12_unit 26 [.ref 56, .int x, .int (nI U)] [] S) := by
  have key := lp_find (fun i => g_X12_unit 26 [.ref 56, .int x, .int (nI i)] [] S) U (fun i => S.1 74 i = x) (some (some (.int (-7)), S))
    (by
      intro i hi hq
      rw [b_X12_unit_26, h, if_pos (nI_lt hi (by omega)), if_neg (nI_out (by omega) (by decide)), nI_clamp (by omega), if_pos hq])
    (by
      intro i hi hq
      rw [b_X12_unit_26, h, if_pos (nI_lt hi (by omega)), if_neg (nI_out (by omega) (by decide)), nI_clamp (by omega), if_neg hq, nI_1])
  rw [nI_0] at key
  exact key
theorem X0_wordOf {k j : Nat} {S : a_M} (hk : k < 60) (hj : j < 4) : x_X0_wordOf [.ref 12, .int (nI k), .int (nI j)] S = some (some (.int (S.1 15 (k * 4 + j))), S) := by
  rw [e_X0_wordOf, if_neg (nI_pos (by omega)), if_pos (show nI j < 4 from nI_lt (b := 4) hj (by decide)), show (4 : Int32) = nI 4 from rfl, pk_mul, nI_add, at_15]
  simp only [Option.bind_some, Option.toList_some, List.append_nil, b_X0_wordOf_21]
  rw [av_nI (by omega) (by decide)]
theorem op_unit (a : Int32) : i_Op (fun S => x_X11_unit [.ref 0, .int a] S) (fun S => x_X12_unit [.ref 56, .int a] S) := by
  rintro S ⟨⟨n, m, N, W, H, Z, T, U, R, G, D, hP⟩, hX⟩
  have hS : i_I S := ⟨⟨n, m, N, W, H, Z, T, U, R, G, D, hP⟩, hX⟩
  obtain ⟨b1, b2, b3, b4, b5, b6, b7, -⟩ := hP.2.2.1
  obtain ⟨s1, s2, s3, s4, s5, s6⟩ := hP.2.2.2.2.2.2.1
  have m5 : ∀ S1 : a_M, S1.1 56 10 = nI N → x_X12_unit [.ref 56, .int a] S1 = if ¬ ixp a N then some (some (.int (-2)), S1) else (if a < 0 ∨ 60 ≤ a.toNatClampNeg then none else (if (1 : Int32) < S1.1 64 a.toNatClampNeg then some (some (.int (-6)), S1) else g_X12_unit 26 [.ref 56, .int a, .int 0] [] S1)) := by
    intro S1 q
    rw [e_X12_unit, X12_isName a (by omega) q]
    simp only [Option.bind_some, Option.toList_some, List.append_nil, b_X12_unit_5, b2i_z]
  dsimp only
  rw [e_X11_unit, X0_hasName a b3]
  simp only [Option.bind_some, Option.toList_some, List.append_nil, b_X11_unit_8, b2i_z]
  by_cases ha : ixp a N
  · rw [if_neg (not_not_intro ha)]
    have m6 : ∀ S1 : a_M, S1.1 56 10 = nI N → x_X12_unit [.ref 56, .int a] S1 = (if a < 0 ∨ 60 ≤ a.toNatClampNeg then none else (if (1 : Int32) < S1.1 64 a.toNatClampNeg then some (some (.int (-6)), S1) else g_X12_unit 26 [.ref 56, .int a, .int 0] [] S1)) := by
      intro S1 q
      rw [m5 S1 q, if_neg (not_not_intro ha)]
    obtain ⟨x, hx, rfl⟩ := ixp_of (by omega) ha
    rw [X0_sizeOf (by omega)]
    simp only [Option.bind_some, Option.toList_some, List.append_nil, b_X11_unit_22]
    obtain ⟨c1, c2, c3⟩ := b7 x hx
    by_cases h1 : cl (S.1 16 x) = 1
    · have e1 : S.1 16 x = 1 := by rw [c3, h1]; rfl
      rw [if_pos e1]
      have m7 : ∀ S1 : a_M, S1.1 56 10 = nI N → S1.1 64 = S.1 64 → x_X12_unit [.ref 56, .int (nI x)] S1 = g_X12_unit 26 [.ref 56, .int (nI x), .int 0] [] S1 := by
        intro S1 q q2
        rw [m6 S1 q, if_neg (nI_out (by omega) (by decide)), nI_clamp (by omega), q2, ← b6, e1, if_neg (by decide)]
      rcases X6_isUnitName (nI x) s1 s2 with ⟨⟨i, hi, hi2⟩, h2⟩ | ⟨h2, h3⟩
      · rw [h2]
        simp only [Option.bind_some, Option.toList_some, List.append_nil, b_X11_unit_37]
        rw [if_neg (by decide)]
        refine ⟨_, S, S, rfl, ?_, hS⟩
        rw [m7 S b4 rfl]
        rcases X12_unitl (nI x) s1 s3 with ⟨-, h4⟩ | ⟨h4, -⟩
        · exact h4
        · exact absurd (by rw [← s4]; exact hi2) (h4 i hi)
      · rw [h3]
        simp only [Option.bind_some, Option.toList_some, List.append_nil, b_X11_unit_37]
        rw [if_pos (by decide), s2]
        have e4 : ∀ S1 : a_M, S1.1 56 10 = nI N → S1.1 64 = S.1 64 → S1.1 56 24 = nI U → S1.1 74 = S.1 74 → x_X12_unit [.ref 56, .int (nI x)] S1 = g_X12_unit 26 [.ref 56, .int (nI x), .int (nI U)] [] S1 := by
          intro S1 q q2 q3 q4
          rw [m7 S1 q q2]
          rcases X12_unitl (S := S1) (nI x) s1 q3 with ⟨⟨i, hi, hi2⟩, h4⟩ | ⟨-, h4⟩
          · rw [q4, ← s4] at hi2
            exact absurd hi2 (h2 i hi)
          · exact h4
        by_cases hU : U < 10
        · rw [if_pos (show nI U < 10 from nI_lt (b := 10) hU (by decide))]
          have hw := X0_wordOf (k := x) (j := 0) (S := S) (by omega) (by omega)
          rw [nI_0, Nat.add_zero] at hw
          rw [hw]
          simp only [Option.bind_some, Option.toList_some, List.cons_append, List.nil_append, b_X11_unit_74]
          rw [e_X6_addUnitName, s2, put_26, pv_nI hU (by decide)]
          simp only [Option.bind_some, Option.toList_none, List.append_nil, b_X6_addUnitName_12, put_27, b_X6_addUnitName_24, Option.toList_some, b_X11_unit_77]
          have q1 : (a_wi S 26 U (nI x)).1 20 15 = nI U := by simp (disch := decide) only [wi_n]; exact s2
          rw [q1, pv_nI hU (by decide)]
          have q1 : (a_wi (a_wi S 26 U (nI x)) 27 U (S.1 15 (x * 4))).1 20 15 = nI U := by simp (disch := decide) only [wi_n]; exact s2
          rw [q1, nI_1]
          have q2 : (a_wi (a_wi (a_wi S 26 U (nI x)) 27 U (S.1 15 (x * 4))) 20 15 (nI (U + 1))).1 56 24 = nI U := by simp (disch := decide) only [wi_n]; exact s3
          refine ⟨_, _, a_wi (a_wi (a_wi (a_wi (a_wi S 26 U (nI x)) 27 U (S.1 15 (x * 4))) 20 15 (nI (U + 1))) 74 U (nI x)) 56 24 (nI (U + 1)), rfl, ?_, ⟨n, m, N, W, H, Z, T, U + 1, R, G, D, ?_⟩, i_text_w hX (fun c hc => by simp (disch := omega) only [wi_n])⟩
          · rw [e4 _ (by simp (disch := decide) only [wi_n]; exact b4) (by simp (disch := decide) only [wi_n]) q2 (by simp (disch := decide) only [wi_n]), b_X12_unit_26, q2, if_neg (nI_nlt (Nat.le_refl _) (by omega)), if_neg (show ¬ nI U = 10 from nI_ne (b := 10) (by omega) (by decide) (by omega)), if_neg (nI_out hU (by decide)), nI_clamp (by omega), nI_1]
          · unfold i_P i_L i_F i_B i_H i_Z i_T i_U i_R i_G i_A i_D at hP ⊢
            simp (disch := decide) only [wi_n, wi_e, up_e, up_n, wi_2]
            obtain ⟨p1, p2, p3, p4, p5, p6, p7, p8⟩ := hP
            refine ⟨p1, p2, p3, p4, p5, p6, ⟨by omega, rfl, rfl, by rw [s4], fun k hk => ?_, fun k l hk hl q => ?_⟩, p8⟩
            · rw [up_x, up_x]
              by_cases e : k = U
              · rw [if_pos e, if_pos e, cl_nI (by omega)]; exact ⟨hx, rfl, h1, rfl⟩
              · rw [if_neg e, if_neg e]; exact s5 k (by omega)
            · rw [up_x, up_x] at q
              by_cases ek : k = U <;> by_cases el : l = U
              · omega
              · rw [if_pos ek, if_neg el] at q; exact absurd q.symm (h2 l (by omega))
              · rw [if_neg ek, if_pos el] at q; exact absurd q (h2 k (by omega))
              · rw [if_neg ek, if_neg el] at q; exact s6 k l (by omega) (by omega) q
        · rw [if_neg (show ¬ nI U < 10 from nI_nlt (b := 10) (by omega) (by omega))]
          refine ⟨_, S, S, rfl, ?_, hS⟩
          rw [e4 S b4 rfl s3 rfl, b_X12_unit_26, s3, if_neg (nI_nlt (Nat.le_refl _) (by omega)), if_pos (show nI U = 10 by rw [show U = 10 by omega]; rfl)]
    · have e1 : ¬ S.1 16 x = 1 := by rw [c3]; exact nI_ne (b := 1) (by omega) (by decide) h1
      rw [if_neg e1]
      refine ⟨_, S, S, rfl, ?_, hS⟩
      rw [m6 S b4, if_neg (nI_out (by omega) (by decide)), nI_clamp (by omega), ← b6, c3, if_pos (show (1 : Int32) < nI (cl (S.1 16 x)) from nI_lt (a := 1) (by omega) (by omega))]
  · rw [if_pos ha]
    exact ⟨_, S, S, rfl, by rw [m5 S b4, if_pos ha], hS⟩
