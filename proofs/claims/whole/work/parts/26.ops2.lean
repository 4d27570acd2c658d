/-! ===== fold, words, sign ===== -/
theorem cl_nI {k : Nat} (h : k < 2 ^ 31) : cl (nI k) = k := nI_clamp h
theorem up_x {f : Nat → Int32} {k : Nat} {v : Int32} (j : Nat) : upd f k v j = if j = k then v else f j := rfl
theorem q_pS_c {S T : a_M} (e1 : T.1 1 1 = S.1 1 1) (e2 : T.1 2 = S.1 2) (e3 : T.1 3 3 = S.1 3 3) (e4 : T.1 4 = S.1 4) (e5 : T.1 5 = S.1 5) (e6 : T.1 6 = S.1 6) : q_pS T = q_pS S := by
  unfold q_pS
  rw [e1, e2, e3, e4, e5, e6]
theorem q_pS_S {S T : a_M} (e : i_S S T) : q_pS T = q_pS S := by
  have a := e.1
  exact q_pS_c (by rw [a 1 (by decide) (by decide)]) (a 2 (by decide) (by decide)) (by rw [a 3 (by decide) (by decide)]) (a 4 (by decide) (by decide)) (a 5 (by decide) (by decide)) (a 6 (by decide) (by decide))
theorem fresh {n m N W H Z T U R G D : Nat} {S : a_M} (hP : i_P n m N W H Z T U R G D S) (hX : c_text S) : ∃ S1, x_X11_freshText [.ref 0] S = some (some (.ref 7), S1) ∧ i_P n m N W H Z T U R G D S1 ∧ q_cb (q_pS S1) S1 ∧ i_S S S1 := by
  have hL := hP.1
  have hF := hP.2.1
  obtain ⟨S1, h1, h2, h3⟩ := X11_freshText ⟨n, hL.1, hL.2.1⟩ ⟨m, hF.1, hF.2.1, hF.2.2.2.2.2.2⟩ hX
  have hs : i_S S (a_wi S1 0 10 1) := by
    obtain ⟨a, b, c, d, f, g⟩ := c_same_S h2
    exact ⟨fun k p q => (wi_n q).trans (a k p q), fun k p q r => (wi_n (by omega)).trans (b k p q r), by rw [wi_n (by decide)]; exact c, d, fun k p q r s t => (wi_n (by omega)).trans (f k p q r s t), fun j p q r s t u => by rw [wi_n (by decide)]; exact g j p q r s t u⟩
  refine ⟨_, h1, i_P_S hs hP, ?_, hs⟩
  rw [q_pS_S hs]
  exact q_cb_frame h3 (fun c c1 c2 => wi_n (by omega))
theorem taken {n m N W H Z T U R G D : Nat} {S : a_M} (hP : i_P n m N W H Z T U R G D S) : ∃ S2, x_X12_taken [.ref 56] S = some (some (.int (q_ans (q_pS S))), S2) ∧ i_P n m N W H Z T U R G D S2 ∧ m_same S S2 ∧ ((q_pS S).2 = false → q_m (q_pS S).1 S2) := by
  obtain ⟨l1, l2, l3, l4⟩ := hP.1
  obtain ⟨f1, f2, f3, f4, f5, f6, f7, f8⟩ := hP.2.1
  obtain ⟨S2, h1, h2, h3⟩ := X12_taken (n := n) (m := m) l1 l3 ⟨f1, f3, by rw [← f4]; exact f7, by rw [← f6]; exact f8⟩
  have e : q_parse (S.1 57) n m (S.1 58) (S.1 59) (S.1 60) = q_pS S := by
    unfold q_pS
    rw [l2, f2, l4, f4, f5, f6, cl_nI (by omega), cl_nI (by omega)]
  rw [e] at h1 h3
  exact ⟨S2, h1, i_P_S (m_same_S h2) hP, h2, h3⟩
theorem m_same_text {S T : a_M} (h : m_same S T) (hX : c_text S) : c_text T := by
  have e : ∀ k, k < 12 → T.1 k = S.1 k := fun k hk => h.1 k (by omega) (by omega) (by omega) (by omega)
  exact i_text_c hX (by rw [e 0 (by decide)]) (by rw [e 1 (by decide)]) (e 2 (by decide)) (by rw [e 3 (by decide)]) (e 4 (by decide)) (e 5 (by decide)) (e 6 (by decide)) (fun c _ c2 => e c (by omega))
theorem op_words : i_Op (fun S => x_X11_words [.ref 0] S) (fun S => x_X12_words [.ref 56] S) := by
  rintro S ⟨⟨n, m, N, W, H, Z, T, U, R, G, D, hP⟩, hX⟩
  obtain ⟨S1, h1, h2, h3, -⟩ := fresh hP hX
  obtain ⟨S2, g1, g2, g3, -⟩ := taken h2
  dsimp only
  rw [e_X11_words, h1]
  simp only [Option.bind_some, Option.toList_some, List.append_nil, b_X11_words_4]
  rw [X10_state h3]
  simp only [Option.bind_some, Option.toList_some, List.append_nil, b_X11_words_7]
  refine ⟨_, S1, S2, rfl, ?_, ⟨n, m, N, W, H, Z, T, U, R, G, D, g2⟩, m_same_text g3 (fun _ => h3)⟩
  rw [e_X12_words, g1]
  simp only [Option.bind_some, Option.toList_some, List.append_nil, b_X12_words_4]
theorem q_ans_cases (x : q_P × Bool) : q_ans x = -3 ∨ q_ans x = -4 ∨ q_ans x = -5 ∨ q_ans x = nI x.1.1 := by
  unfold q_ans
  split
  · exact Or.inl rfl
  · split
    · exact Or.inr (Or.inl rfl)
    · split
      · exact Or.inr (Or.inr (Or.inl rfl))
      · exact Or.inr (Or.inr (Or.inr rfl))
theorem q_ans_lt {x : q_P × Bool} (ok : q_ok x.1) (h : q_ans x < 0) : q_ans x = -3 ∨ q_ans x = -4 ∨ q_ans x = -5 := by
  rcases q_ans_cases x with h1 | h1 | h1 | h1
  · exact Or.inl h1
  · exact Or.inr (Or.inl h1)
  · exact Or.inr (Or.inr h1)
  · rw [h1] at h
    exact absurd h (nI_pos (by have := ok.1.1; omega))
theorem op_sign (a b : Int32) : i_Op (fun S => x_X11_sign [.ref 0, .int a, .int b] S) (fun S => x_X12_sign [.ref 56, .int a, .int b] S) := by
  rintro S ⟨⟨n, m, N, W, H, Z, T, U, R, G, D, hP⟩, hX⟩
  obtain ⟨S1, h1, h2, h3, -⟩ := fresh hP hX
  obtain ⟨S2, g1, g2, g3, g4⟩ := taken h2
  have fin : i_I S2 := ⟨⟨n, m, N, W, H, Z, T, U, R, G, D, g2⟩, m_same_text g3 (fun _ => h3)⟩
  have ok := h3.1
  dsimp only
  rw [e_X11_sign, h1]
  simp only [Option.bind_some, Option.toList_some, List.append_nil, b_X11_sign_4]
  rw [X10_state h3]
  simp only [Option.bind_some, Option.toList_some, List.append_nil, b_X11_sign_7]
  have hm : x_X12_sign [.ref 56, .int a, .int b] S1 = if ¬ (¬ a < 0 ∧ ¬ q_ans (q_pS S1) - 1 < a) then some (some (.int (-1)), S2) else (if a < 0 ∨ 14 ≤ a.toNatClampNeg then none else ((x_X12_in [.int b, .int (-2), .int ((S2.1 61 a.toNatClampNeg) - 1)] S2).bind fun q => g_X12_sign 30 [.ref 56, .int a, .int b, .null] (q.1.toList ++ []) q.2)) := by
    rw [e_X12_sign, g1]
    simp only [Option.bind_some, Option.toList_some, List.append_nil, b_X12_sign_4, X12_in, b_X12_sign_13, b2i_z]
  have refused : (q_ans (q_pS S1) < 0 ∨ ¬ ixp a (q_pS S1).1.1) → x_X12_sign [.ref 56, .int a, .int b] S1 = some (some (.int (-1)), S2) := by
    intro hq
    rw [hm, if_pos]
    rintro ⟨q1, q2⟩
    rcases q_ans_neg _ ok with ⟨h5, -⟩ | ⟨-, -, h6, h7⟩
    · apply q2
      obtain ⟨k, hk, rfl⟩ := nI_of q1
      rw [Int32.lt_iff_toInt_lt, nI_toInt hk]
      have e3 : ((-3 : Int32) - 1).toInt = -4 := by decide
      have e4 : ((-4 : Int32) - 1).toInt = -5 := by decide
      have e5 : ((-5 : Int32) - 1).toInt = -6 := by decide
      rcases q_ans_lt ok h5 with h | h | h <;> rw [h] <;> omega
    · have hn := ok.1.1
      rcases hq with hq | hq
      · rw [h7] at hq; exact nI_pos (by omega) hq
      · rw [h7] at q2
        exact hq ((in_ixp (by omega)).mp ⟨q1, q2⟩)
  rcases q_ans_neg _ ok with ⟨h5, -⟩ | ⟨h6, h7, h8, h9⟩
  · rw [if_pos h5]
    exact ⟨_, S1, S2, rfl, refused (Or.inl h5), fin⟩
  · have hn := ok.1.1
    rw [h9, if_neg (nI_pos (by omega)), h3.2.1.1]
    by_cases hx : ixp a (q_pS S1).1.1
    · obtain ⟨k, hk, rfl⟩ := ixp_of (by omega) hx
      have hl := ok.1.2.2.1 k hk
      have hl0 := ok.2 h7 k hk
      obtain ⟨c1, c2, c3⟩ := ((g4 h6).2.2 h7).2.2.2 k hk
      rw [if_neg hx.1, if_pos hx.2]
      rw [h9, if_neg (not_not_intro ((in_ixp (by omega)).mpr hx)), if_neg (nI_out (by omega) (by decide)), nI_clamp (by omega), c1, X12_in] at hm
      simp only [Option.bind_some, Option.toList_some, List.append_nil, b_X12_sign_30, b2i_z] at hm
      obtain ⟨l, hlq⟩ : ∃ l, q_len (q_pS S1).1 k = l + 1 := ⟨q_len (q_pS S1).1 k - 1, by omega⟩
      rw [hlq, nI_pred] at hm
      rw [hlq] at c1
      have hll : (nI l).toInt = l := nI_toInt (by omega)
      have z2 : (-2 : Int32).toInt = -2 := by decide
      by_cases b1 : b = -1
      · subst b1
        rw [if_pos rfl, X10_lengthOf ok h3.2.1 hk]
        simp only [Option.bind_some, Option.toList_some, List.append_nil, b_X11_sign_40]
        refine ⟨_, S1, S2, rfl, ?_, fin⟩
        rw [hlq, hm, if_neg (not_not_intro ⟨by decide, by rw [Int32.lt_iff_toInt_lt, hll]; have : (-1 : Int32).toInt = -1 := (by decide); omega⟩), if_pos rfl, if_neg (nI_out (by omega) (by decide)), nI_clamp (by omega), c1]
      · rw [if_neg b1]
        by_cases b2 : b = -2
        · subst b2
          rw [if_pos rfl, X10_breakAhead ok h3.2.1 hk]
          simp only [Option.bind_some, Option.toList_some, List.append_nil, b_X11_sign_55]
          refine ⟨_, S1, S2, rfl, ?_, fin⟩
          rw [hm, if_neg (not_not_intro ⟨by decide, by rw [Int32.lt_iff_toInt_lt, hll]; omega⟩), if_neg b1, if_pos rfl, if_neg (nI_out (by omega) (by decide)), nI_clamp (by omega), c2]
          generalize q_br (q_pS S1).1 k = bb
          cases bb <;> rfl
        · rw [if_neg b2]
          by_cases hb : b < 0
          · rw [X10_signAt_neg hb]
            simp only [Option.bind_some, Option.toList_some, List.append_nil, b_X11_sign_65]
            refine ⟨_, S1, S2, rfl, ?_, fin⟩
            rw [hm, if_pos]
            rintro ⟨q1, q2⟩
            rw [Int32.lt_iff_toInt_lt] at q1 hb
            have hb1 : b.toInt ≠ -1 := fun q => b1 (Int32.toInt_inj.mp (by rw [q]; decide))
            have hb2 : b.toInt ≠ -2 := fun q => b2 (Int32.toInt_inj.mp (by rw [q]; decide))
            have z0 : (0 : Int32).toInt = 0 := by decide
            omega
          · obtain ⟨i, hi, rfl⟩ := nI_of hb
            rw [X10_signAt ok h3.2.1 hk hi]
            simp only [Option.bind_some, Option.toList_some, List.append_nil, b_X11_sign_65]
            refine ⟨_, S1, S2, rfl, ?_, fin⟩
            have hin : (¬ nI i < -2 ∧ ¬ nI l < nI i) ↔ i < l + 1 := by
              rw [Int32.lt_iff_toInt_lt, Int32.lt_iff_toInt_lt, nI_toInt hi, hll, z2]
              omega
            unfold q_sat
            rw [hlq]
            by_cases hil : i < l + 1
            · rw [hm, if_neg (not_not_intro (hin.mpr hil)), if_neg b1, if_neg b2, if_pos hil, show (16 : Int32) = nI 16 from rfl, pk_mul, nI_add, if_neg (nI_out (by omega) (by decide)), nI_clamp (by omega), c3 i (by omega)]
            · rw [hm, if_pos (fun q => hil (hin.mp q)), if_neg hil]
    · refine ⟨-1, S1, S2, ?_, refused (Or.inr hx), fin⟩
      by_cases h0 : a < 0
      · rw [if_pos h0]
      · rw [if_neg h0, if_neg (fun q => hx ⟨h0, q⟩)]
/-! fold -/
abbrev p_sign (a : Int32) : Prop := ¬ a < 0 ∧ ¬ 1114111 < a ∧ ¬ p_half a
theorem X11_isSign (a : Int32) (S : a_M) : x_X11_isSign [.int a] S = some (some (.int (b2i (p_sign a))), S) := by
  rw [e_X11_isSign, X11_isHalf]
  simp only [Option.bind_some, Option.toList_some, List.append_nil, b_X11_isSign_15, b2i_z]
  by_cases h1 : a < 0
  · rw [if_pos h1, b2i_f (fun q => q.1 h1)]
  · rw [if_neg h1]
    by_cases h2 : 1114111 < a
    · rw [if_pos h2, b2i_f (fun q => q.2.1 h2)]
    · rw [if_neg h2]
      by_cases h3 : p_half a
      · rw [if_neg (not_not_intro h3), b2i_f (fun q => q.2.2 h3)]
      · rw [if_pos h3, b2i_t ⟨h1, h2, h3⟩]
theorem X12_isSign (a : Int32) (S : a_M) : x_X12_isSign [.int a] S = some (some (.int (b2i (p_sign a))), S) := by
  rw [e_X12_isSign, X12_in]
  simp only [Option.bind_some, Option.toList_some, List.append_nil, b_X12_isSign_7, X12_in, b_X12_isSign_18, b2i_z]
  by_cases h1 : ¬ a < 0 ∧ ¬ 1114111 < a
  · rw [if_neg (not_not_intro h1)]
    by_cases h3 : p_half a
    · rw [if_neg (not_not_intro h3), b2i_f (fun q => q.2.2 h3)]
    · rw [if_pos h3, b2i_t ⟨h1.1, h1.2, h3⟩]
  · rw [if_pos h1, b2i_f (fun q => h1 ⟨q.1, q.2.1⟩)]
theorem op_fold (a b c : Int32) : i_Op (fun S => x_X11_fold [.ref 0, .int a, .int b, .int c] S) (fun S => x_X12_fold [.ref 56, .int a, .int b, .int c] S) := by
  rintro S ⟨⟨n, m, N, W, H, Z, T, U, R, G, D, hP⟩, hX⟩
  have hS : i_I S := ⟨⟨n, m, N, W, H, Z, T, U, R, G, D, hP⟩, hX⟩
  obtain ⟨f1, f2, f3, f4, f5, f6, f7, f8⟩ := hP.2.1
  dsimp only
  rw [e_X11_fold, X11_isSign]
  simp only [Option.bind_some, Option.toList_some, List.append_nil, b_X11_fold_4, X11_isSign, b_X11_fold_11, b_X11_fold_23, b2i_z, e_X12_fold, X12_isSign, b_X12_fold_4, b_X12_fold_11, b_X12_fold_23]
  by_cases ha : p_sign a
  · rw [if_neg (not_not_intro ha)]
    by_cases hb : p_sign b
    · rw [if_neg (not_not_intro hb)]
      have go : (c = -1 ∨ p_sign c) → ∃ r S1 S2, g_X11_fold 29 [.ref 0, .int a, .int b, .int c] [] S = some (some (.int r), S1) ∧ g_X12_fold 29 [.ref 56, .int a, .int b, .int c] [] S1 = some (some (.int r), S2) ∧ i_I S2 := by
        intro hc
        obtain ⟨r, e1, e2⟩ := X3_indexOf a S f2 f1
        rw [b_X11_fold_29, e1]
        simp only [Option.bind_some, Option.toList_some, List.append_nil, b_X11_fold_37]
        have hr : ∀ S1 : a_M, S1.1 56 5 = nI m → S1.1 58 = S.1 4 → g_X12_fold 29 [.ref 56, .int a, .int b, .int c] [] S1 = if r < 0 then g_X12_fold 34 [.ref 56, .int a, .int b, .int c] [.int (-1)] S1 else some (some (.int (-7)), S1) := by
          intro S1 p1 p2
          obtain ⟨r', e1', e2'⟩ := X12_foldOf a S1 p1 f1
          rw [b_X12_fold_29, e1']
          simp only [Option.bind_some, Option.toList_some, List.append_nil]
          rw [p2] at e2'
          rcases e2 with ⟨rfl, h1⟩ | ⟨i, h1, rfl, h2⟩
          · rw [if_pos (by decide)]
            rcases e2' with ⟨rfl, h1'⟩ | ⟨i', h1', rfl, h2'⟩
            · rfl
            · exact absurd h2' (h1 i' h1')
          · rw [if_neg (nI_pos (by omega))]
            rcases e2' with ⟨rfl, h1'⟩ | ⟨i', h1', rfl, h2'⟩
            · exact absurd h2 (h1' i h1)
            · rw [b_X12_fold_34, if_neg (nI_pos (by omega))]
        rcases e2 with ⟨rfl, h1⟩ | ⟨i, h1, rfl, h2⟩
        · rw [if_pos (by decide), f2]
          by_cases hm : m < 30
          · rw [if_pos (show nI m < 30 from nI_lt (b := 30) hm (by decide)), e_X3_add, f2, put_4, pv_nI hm (by decide)]
            simp only [Option.bind_some, Option.toList_none, List.append_nil, b_X3_add_12, put_5, b_X3_add_24, put_6, b_X3_add_36, b_X11_fold_68]
            have e3 : (a_wi S 4 m a).1 3 3 = nI m := by rw [wi_n (by decide)]; exact f2
            rw [e3, pv_nI hm (by decide)]
            have e3 : (a_wi (a_wi S 4 m a) 5 m b).1 3 3 = nI m := by rw [wi_n (by decide), wi_n (by decide)]; exact f2
            rw [e3, pv_nI hm (by decide)]
            have e3 : (a_wi (a_wi (a_wi S 4 m a) 5 m b) 6 m c).1 3 3 = nI m := by rw [wi_n (by decide), wi_n (by decide), wi_n (by decide)]; exact f2
            rw [e3, nI_1]
            refine ⟨_, _, a_wi (a_wi (a_wi (a_wi (a_wi (a_wi (a_wi (a_wi (a_wi S 4 m a) 5 m b) 6 m c) 3 3 (nI (m + 1))) 0 10 0) 58 m a) 59 m b) 60 m c) 56 5 (nI (m + 1)), rfl, ?_, ⟨n, m + 1, N, W, H, Z, T, U, R, G, D, ?_⟩, i_text_0 (by simp [wi_at])⟩
            · have q5 : (a_wi (a_wi (a_wi (a_wi (a_wi S 4 m a) 5 m b) 6 m c) 3 3 (nI (m + 1))) 0 10 0).1 56 5 = nI m := by simp (disch := decide) only [wi_n]; exact f3
              rw [hr _ q5 (by simp (disch := decide) only [wi_n]; exact f4.symm), if_pos (by decide), b_X12_fold_34, if_pos (by decide), q5, if_neg (show ¬ nI m = 30 from fun q => by have := (nI_eq (b := 30) (by omega) (by decide)).mp q; omega), if_neg (nI_out hm (by decide)), if_neg (nI_out hm (by decide)), if_neg (nI_out hm (by decide)), nI_clamp (by omega), nI_1]
            · unfold i_P i_L i_F i_B i_H i_Z i_T i_U i_R i_G i_A i_D at hP ⊢
              simp (disch := decide) only [wi_n, wi_e, up_e, up_n, wi_2]
              refine ⟨hP.1, ⟨by omega, rfl, rfl, by rw [f4], by rw [f5], by rw [f6], fun i j hi hj q => ?_, fun i hi => ?_⟩, hP.2.2⟩
              · rw [up_x, up_x] at q
                by_cases ei : i = m <;> by_cases ej : j = m
                · omega
                · rw [if_pos ei, if_neg ej] at q; exact absurd q.symm (h1 j (by omega))
                · rw [if_neg ei, if_pos ej] at q; exact absurd q (h1 i (by omega))
                · rw [if_neg ei, if_neg ej] at q; exact f7 i j (by omega) (by omega) q
              · rw [up_x]
                by_cases ei : i = m
                · rw [if_pos ei]; exact hc.elim Or.inl (fun q => Or.inr q.1)
                · rw [if_neg ei]; exact f8 i (by omega)
          · rw [if_neg (show ¬ nI m < 30 from nI_nlt (b := 30) (by omega) (by omega))]
            refine ⟨_, S, S, rfl, ?_, hS⟩
            rw [hr S f3 f4.symm, if_pos (by decide), b_X12_fold_34, if_pos (by decide), f3, if_pos (show nI m = 30 by rw [show m = 30 by omega]; rfl)]
        · rw [if_neg (nI_pos (by omega))]
          refine ⟨_, S, S, rfl, ?_, hS⟩
          rw [hr S f3 f4.symm, if_neg (nI_pos (by omega))]
      by_cases hc1 : c = -1
      · rw [if_pos hc1]
        obtain ⟨r, S1, S2, e1, e2, e3⟩ := go (Or.inl hc1)
        exact ⟨r, S1, S2, e1, by rw [if_neg (not_not_intro ha), if_neg (not_not_intro hb), if_pos hc1]; exact e2, e3⟩
      · rw [if_neg hc1]
        by_cases hc : p_sign c
        · rw [if_neg (not_not_intro hc)]
          obtain ⟨r, S1, S2, e1, e2, e3⟩ := go (Or.inr hc)
          exact ⟨r, S1, S2, e1, by rw [if_neg (not_not_intro ha), if_neg (not_not_intro hb), if_neg hc1, if_neg (not_not_intro hc)]; exact e2, e3⟩
        · rw [if_pos hc]
          exact ⟨_, S, S, rfl, by rw [if_neg (not_not_intro ha), if_neg (not_not_intro hb), if_neg hc1, if_pos hc], hS⟩
    · rw [if_pos hb]
      exact ⟨_, S, S, rfl, by rw [if_neg (not_not_intro ha), if_pos hb], hS⟩
  · rw [if_pos ha]
    exact ⟨_, S, S, rfl, by rw [if_pos ha], hS⟩
