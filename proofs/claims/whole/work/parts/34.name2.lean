/-! ===== name, the reference's side ===== -/
theorem taken' {n m N W H Z T U R G D : Nat} {S S1 : a_M} (hP : i_P n m N W H Z T U R G D S) (e : ∀ c, 56 ≤ c → S1.1 c = S.1 c) : ∃ S2, x_X12_taken [.ref 56] S1 = some (some (.int (q_ans (q_pS S))), S2) ∧ m_same S1 S2 ∧ ((q_pS S).2 = false → q_m (q_pS S).1 S2) := by
  obtain ⟨l1, l2, l3, l4⟩ := hP.1
  obtain ⟨f1, f2, f3, f4, f5, f6, f7, f8⟩ := hP.2.1
  obtain ⟨S2, h1, h2, h3⟩ := X12_taken (S := S1) (n := n) (m := m) l1 (by rw [e 56 (by decide)]; exact l3) ⟨f1, by rw [e 56 (by decide)]; exact f3, by rw [e 58 (by decide), ← f4]; exact f7, by rw [e 60 (by decide), ← f6]; exact f8⟩
  have e : q_parse (S1.1 57) n m (S1.1 58) (S1.1 59) (S1.1 60) = q_pS S := by
    unfold q_pS
    rw [e 57 (by decide), e 58 (by decide), e 59 (by decide), e 60 (by decide), l2, f2, l4, f4, f5, f6, cl_nI (by omega), cl_nI (by omega)]
  rw [e] at h1 h3
  exact ⟨S2, h1, h2, h3⟩
theorem X12_name54 {N W k : Nat} {P : q_P} {S S2 : a_M} (ok : q_ok P) (hB : i_B N W S) (e65 : S2.1 65 = S.1 65) (e66 : S2.1 66 = S.1 66) (hm : m_w P S2) (hk : k < N) (hz : b_sz S k = P.1) :
    g_X12_name 54 [.ref 56, .int (nI P.1), .int (nI k), .int 1, .int 0] [] S2 = g_X12_name 80 [.ref 56, .int (nI P.1), .int (nI k), .int (b2i (∀ j, j < P.1 → wlike P S j (b_id S k j))), .null] [] S2 := by
  have hN := hB.1
  have h4 := (hB.2.2.2.2.2.2.1 k hk).2.1
  have hn4 : P.1 ≤ 4 := by rw [← hz]; exact h4
  have st : ∀ j, j < P.1 → g_X12_name 54 [.ref 56, .int (nI P.1), .int (nI k), .int 1, .int (nI j)] [] S2 = g_X12_name 54 [.ref 56, .int (nI P.1), .int (nI k), .int (b2i (wlike P S j (b_id S k j))), .int (nI (j + 1))] [] S2 := by
    intro j hj
    have hj2 : j < b_sz S k := by rw [hz]; exact hj
    obtain ⟨l1, l2, l3⟩ := mlen hB hk hj2
    have hi := mlike_iff (P := P) (t := j) hB hk hj2
    have hi2 : mlike P S2 j (k * 4 + j) ↔ wlike P S j (b_id S k j) := by
      unfold mlike at hi ⊢
      rw [e65, e66]; exact hi
    rw [b_X12_name_54, if_pos (nI_lt hj (by omega)), if_neg (by decide), X12_isWordOf ok hm hj (by omega) (by omega) (by rw [e65]; exact l1) (by rw [e65]; exact l2), b2i_c hi2]
    simp only [Option.bind_some, Option.toList_some, List.append_nil, b_X12_name_73]
    rw [nI_1]
  have zero : ∀ j, j < 2 ^ 31 → g_X12_name 54 [.ref 56, .int (nI P.1), .int (nI k), .int 0, .int (nI j)] [] S2 = g_X12_name 80 [.ref 56, .int (nI P.1), .int (nI k), .int 0, .null] [] S2 := by
    intro j hj
    rw [b_X12_name_54]
    by_cases h : j < P.1
    · rw [if_pos (nI_lt h (by omega)), if_pos rfl]
    · rw [if_neg (nI_nlt (by omega) hj)]
  have key := lp_find (fun j => g_X12_name 54 [.ref 56, .int (nI P.1), .int (nI k), .int 1, .int (nI j)] [] S2) P.1 (fun j => ¬ wlike P S j (b_id S k j)) (g_X12_name 80 [.ref 56, .int (nI P.1), .int (nI k), .int 0, .null] [] S2)
    (fun j hj hq => by rw [st j hj, b2i_f hq, zero _ (by omega)]) (fun j hj hq => by rw [st j hj, b2i_t (Decidable.not_not.mp hq)])
  rw [nI_0] at key
  rcases key with ⟨⟨j, h1, h2⟩, h3⟩ | ⟨h1, h2⟩
  · rw [h3, b2i_f (fun q => h2 (q j h1))]
  · rw [h2, b2i_t (fun j hj => Decidable.not_not.mp (h1 j hj)), b_X12_name_54, if_neg (nI_nlt (Nat.le_refl _) (by omega))]
theorem X12_namel {N W : Nat} {P : q_P} {S S2 : a_M} (ok : q_ok P) (hn : P.1 ≤ 4) (hB : i_B N W S) (h10 : S2.1 56 10 = nI N) (e64 : S2.1 64 = S.1 64) (e65 : S2.1 65 = S.1 65) (e66 : S2.1 66 = S.1 66) (hm : m_w P S2) :
    (∃ k, k < N ∧ nm P S k ∧ (∀ j, j < k → ¬ nm P S j) ∧ g_X12_name 27 [.ref 56, .int (nI P.1), .int 0, .null, .null] [] S2 = some (some (.int (nI k)), S2)) ∨ ((∀ k, k < N → ¬ nm P S k) ∧ g_X12_name 27 [.ref 56, .int (nI P.1), .int 0, .null, .null] [] S2 = g_X12_name 27 [.ref 56, .int (nI P.1), .int (nI N), .null, .null] [] S2) := by
  have b1 := hB.1
  have b6 := hB.2.2.2.2.2.1
  have st : ∀ k, k < N → g_X12_name 27 [.ref 56, .int (nI P.1), .int (nI k), .null, .null] [] S2 = if nm P S k then some (some (.int (nI k)), S2) else g_X12_name 27 [.ref 56, .int (nI P.1), .int (nI (k + 1)), .null, .null] [] S2 := by
    intro k hk
    obtain ⟨c1, c2, c3⟩ := hB.2.2.2.2.2.2.1 k hk
    rw [b_X12_name_27, h10, if_pos (nI_lt hk (by omega)), if_neg (nI_out (by omega) (by decide)), nI_clamp (by omega), e64, ← b6]
    have e1 : S.1 16 k = nI P.1 ↔ b_sz S k = P.1 := by
      rw [c3]
      exact nI_eq (by omega) (by omega)
    by_cases hz : b_sz S k = P.1
    · rw [if_pos (e1.mpr hz), X12_name54 ok hB e65 e66 hm hk hz, b_X12_name_80, nI_1]
      by_cases h : ∀ j, j < P.1 → wlike P S j (b_id S k j)
      · rw [b2i_t h, if_neg (by decide), if_pos ⟨hz, h⟩]
      · rw [b2i_f h, if_pos rfl, if_neg (fun q => h q.2)]
    · rw [if_neg (fun q => hz (e1.mp q)), b_X12_name_54]
      have : (if (0 : Int32) < nI P.1 then (if (0 : Int32) = 0 then g_X12_name 80 [.ref 56, .int (nI P.1), .int (nI k), .int 0, .null] [] S2 else (x_X12_isWordOf [.ref 56, .int 0, .int (nI k), .int 0] S2).bind fun q => g_X12_name 73 [.ref 56, .int (nI P.1), .int (nI k), .null, .int 0] (q.1.toList ++ []) q.2) else g_X12_name 80 [.ref 56, .int (nI P.1), .int (nI k), .int 0, .null] [] S2) = g_X12_name 80 [.ref 56, .int (nI P.1), .int (nI k), .int 0, .null] [] S2 := by
        rw [if_pos (show (0 : Int32) = 0 from rfl), ite_self]
      rw [this, b_X12_name_80, if_pos rfl, nI_1, if_neg (fun q => hz q.1)]
  have key := lp_first (fun k => g_X12_name 27 [.ref 56, .int (nI P.1), .int (nI k), .null, .null] [] S2) N (nm P S) (fun k => some (some (.int (nI k)), S2))
    (fun k hk hq => by rw [st k hk, if_pos hq]) (fun k hk hq => by rw [st k hk, if_neg hq])
  rw [nI_0] at key
  exact key
/-- the reference's names while a new one comes: k words so far -/
def mad (P : q_P) (S : a_M) (N k : Nat) (T : a_M) : Prop :=
  (∀ c, c ≠ 65 → c ≠ 66 → T.1 c = S.1 c) ∧ T.2 = S.2 ∧ (∀ x, x < N * 4 → T.1 65 x = S.1 65 x) ∧ (∀ x, x < N * 64 → T.1 66 x = S.1 66 x) ∧
  ∀ j, j < k → T.1 65 (N * 4 + j) = nI (q_len P j) ∧ ∀ i, i < q_len P j → T.1 66 ((N * 4 + j) * 16 + i) = q_sg P j i
theorem X12_name145 {P : q_P} {S : a_M} {N k : Nat} (ok : q_ok P) (hm : m_w P S) (hk : k < P.1) (hk4 : k < 4) (hN : N < 60) : ∀ d i T, i + d = q_len P k → mad P S N k T → T.1 65 (N * 4 + k) = nI (q_len P k) → (∀ j, j < i → T.1 66 ((N * 4 + k) * 16 + j) = q_sg P k j) →
    ∃ T', g_X12_name 145 [.ref 56, .int (nI P.1), .int (nI k), .int (nI (N * 4 + k)), .int (nI i)] [] T = g_X12_name 116 [.ref 56, .int (nI P.1), .int (nI (k + 1)), .null, .null] [] T' ∧ mad P S N (k + 1) T' := by
  have hl16 := ok.1.2.2.1 k hk
  have hn14 := ok.1.1
  obtain ⟨c1, -, c3⟩ := hm k hk
  intro d
  induction d with
  | zero =>
    intro i T h1 hA h65 h66
    have hA' := hA
    obtain ⟨a1, a2, a3, a4, a5⟩ := hA
    rw [b_X12_name_145, if_neg (nI_out (by omega) (by decide)), nI_clamp (by omega), a1 61 (by decide) (by decide), c1, if_neg (nI_nlt (by omega) (by omega)), nI_1]
    refine ⟨T, rfl, a1, a2, a3, a4, fun j hj => ?_⟩
    by_cases e : j = k
    · rw [e]; exact ⟨h65, fun q hq => h66 q (by omega)⟩
    · exact a5 j (by omega)
  | succ d ih =>
    intro i T h1 hA h65 h66
    obtain ⟨a1, a2, a3, a4, a5⟩ := hA
    have e1 : (16 : Int32) * nI k + nI i = nI (16 * k + i) := by rw [show (16 : Int32) = nI 16 from rfl, pk_mul, nI_add]
    have e2 : (16 : Int32) * nI (N * 4 + k) + nI i = nI ((N * 4 + k) * 16 + i) := by rw [show (16 : Int32) = nI 16 from rfl, pk_mul, nI_add, Nat.mul_comm]
    rw [b_X12_name_145, if_neg (nI_out (by omega) (by decide)), nI_clamp (by omega), a1 61 (by decide) (by decide), c1, if_pos (nI_lt (by omega) (by omega)), e1, e2, if_neg (nI_out (by omega) (by decide)), if_neg (nI_out (by omega) (by decide)), nI_clamp (by omega), nI_clamp (by omega), a1 62 (by decide) (by decide), c3 i (by omega), nI_1]
    refine ih (i + 1) _ (by omega) ⟨fun c q1 q2 => (wi_n q2).trans (a1 c q1 q2), a2, fun x hx => ?_, fun x hx => ?_, fun j hj => ?_⟩ ?_ (fun j hj => ?_)
    · rw [wi_n (by decide)]; exact a3 x hx
    · rw [wi_s (by omega)]; exact a4 x hx
    · have hj16 := ok.1.2.2.1 j (by omega)
      obtain ⟨p1, p2⟩ := a5 j hj
      refine ⟨by rw [wi_n (by decide)]; exact p1, fun q hq => ?_⟩
      rw [wi_s (by omega)]; exact p2 q hq
    · rw [wi_n (by decide)]; exact h65
    · rw [wi_at, if_pos rfl]
      by_cases e : j = i
      · rw [if_pos (by omega), e]
      · rw [if_neg (by omega)]; exact h66 j (by omega)
theorem X12_name116 {P : q_P} {S : a_M} {N : Nat} (ok : q_ok P) (hm : m_w P S) (hn : P.1 ≤ 4) (hN : N < 60) (h10 : S.1 56 10 = nI N) : ∀ d k T, k + d = P.1 → mad P S N k T →
    ∃ T', g_X12_name 116 [.ref 56, .int (nI P.1), .int (nI k), .null, .null] [] T = some (some (.int (nI N)), a_wi T' 56 10 (nI (N + 1))) ∧ mad P S N P.1 T' := by
  intro d
  induction d with
  | zero =>
    intro k T h1 hA
    obtain rfl : k = P.1 := by omega
    rw [b_X12_name_116, if_neg (nI_nlt (Nat.le_refl _) (by omega)), hA.1 56 (by decide) (by decide), h10, nI_1, nI_pred]
    exact ⟨T, rfl, hA⟩
  | succ d ih =>
    intro k T h1 hA
    obtain ⟨a1, a2, a3, a4, a5⟩ := hA
    have hk : k < P.1 := by omega
    obtain ⟨c1, -, c3⟩ := hm k hk
    have e1 : (4 : Int32) * nI N + nI k = nI (N * 4 + k) := by rw [show (4 : Int32) = nI 4 from rfl, pk_mul, nI_add, Nat.mul_comm]
    rw [b_X12_name_116, if_pos (nI_lt hk (by omega)), if_neg (nI_out (by omega) (by decide)), a1 56 (by decide) (by decide), h10, e1, if_neg (nI_out (by omega) (by decide)), nI_clamp (by omega), nI_clamp (by omega), a1 61 (by decide) (by decide), c1]
    obtain ⟨T', f1, f2⟩ := X12_name145 ok hm hk (by omega) hN (q_len P k) 0 (a_wi T 65 (N * 4 + k) (nI (q_len P k))) (by omega)
      ⟨fun c q1 q2 => (wi_n q1).trans (a1 c q1 q2), a2, fun x hx => by rw [wi_s (by omega)]; exact a3 x hx, fun x hx => by rw [wi_n (by decide)]; exact a4 x hx, fun j hj => by
        obtain ⟨p1, p2⟩ := a5 j hj
        exact ⟨by rw [wi_s (by omega)]; exact p1, fun q hq => by rw [wi_n (by decide)]; exact p2 q hq⟩⟩ (wi_v _ _ _ _) (fun j hj => by omega)
    rw [nI_0] at f1
    rw [f1]
    exact ih (k + 1) T' (by omega) f2
theorem op_name : i_Op (fun S => x_X11_name [.ref 0] S) (fun S => x_X12_name [.ref 56] S) := by
  rintro S0 ⟨⟨n, m, N, W, H, Z, T, U, R, G, D, hP0⟩, hX0⟩
  obtain ⟨S, h1, hP, h3, -⟩ := fresh hP0 hX0
  have hB := hP.2.2.1
  obtain ⟨b1, b2, b3, b4, b5, b6, b7, b8, b9, b10, b11⟩ := hP.2.2.1
  have ok := h3.1
  have hX : c_text S := fun _ => h3
  dsimp only
  rw [e_X11_name, h1]
  simp only [Option.bind_some, Option.toList_some, List.append_nil, b_X11_name_4]
  rw [X10_state h3]
  simp only [Option.bind_some, Option.toList_some, List.append_nil, b_X11_name_7]
  have start : ∀ S1 : a_M, (∀ c, 56 ≤ c → S1.1 c = S.1 c) → ∃ S2, m_same S1 S2 ∧ ((q_pS S).2 = false → q_m (q_pS S).1 S2) ∧ x_X12_name [.ref 56] S1 = if q_ans (q_pS S) < 0 then some (some (.int (q_ans (q_pS S))), S2) else if 4 < q_ans (q_pS S) then some (some (.int (-4)), S2) else g_X12_name 27 [.ref 56, .int (q_ans (q_pS S)), .int 0, .null, .null] [] S2 := by
    intro S1 e
    obtain ⟨S2, g1, g2, g3⟩ := taken' hP e
    refine ⟨S2, g2, g3, ?_⟩
    rw [e_X12_name, g1]
    simp only [Option.bind_some, Option.toList_some, List.append_nil, b_X12_name_4, b_X12_name_14]
    by_cases q : q_ans (q_pS S) < 0
    · rw [if_pos q, if_pos q, if_pos q]
    · rw [if_neg q, if_neg q, if_neg q]
  have same : ∀ S2 : a_M, m_same S S2 → i_I S2 := fun S2 g => ⟨⟨n, m, N, W, H, Z, T, U, R, G, D, i_P_S (m_same_S g) hP⟩, m_same_text g hX⟩
  rcases q_ans_neg _ ok with ⟨h5, -⟩ | ⟨h6, h7, h8, h9⟩
  · obtain ⟨S2, g2, g3, g4⟩ := start S (fun _ _ => rfl)
    have h45 : ¬ 4 < q_ans (q_pS S) := by
      rw [Int32.lt_iff_toInt_lt] at h5 ⊢
      have : (4 : Int32).toInt = 4 := by decide
      rw [z_toInt] at h5
      omega
    rw [if_neg h45, if_pos h5]
    exact ⟨_, S, S2, rfl, by rw [g4, if_pos h5], same S2 g2⟩
  · have hn14 := ok.1.1
    have hneg : ¬ q_ans (q_pS S) < 0 := by rw [h9]; exact nI_pos (by omega)
    by_cases h45 : 4 < q_ans (q_pS S)
    · obtain ⟨S2, g2, g3, g4⟩ := start S (fun _ _ => rfl)
      rw [if_pos h45]
      exact ⟨_, S, S2, rfl, by rw [g4, if_neg hneg, if_pos h45], same S2 g2⟩
    · rw [if_neg h45, if_neg hneg]
      have hn4 : (q_pS S).1.1 ≤ 4 := by
        rw [h9] at h45
        have : ¬ 4 < (q_pS S).1.1 := fun q => h45 (nI_lt (a := 4) q (by omega))
        omega
      obtain ⟨P, hPe⟩ : ∃ P, P = (q_pS S).1 := ⟨_, rfl⟩
      have hc : q_c P S := by rw [hPe]; exact h3.2.1
      have okP : q_ok P := by rw [hPe]; exact ok
      have hn4' : P.1 ≤ 4 := by rw [hPe]; exact hn4
      have hn0 : 0 < P.1 := by rw [hPe]; exact h8
      have oklen : ∀ k, k < P.1 → 1 ≤ q_len P k := by rw [hPe]; exact ok.2 h7
      have start2 : ∀ S1 : a_M, (∀ c, 56 ≤ c → S1.1 c = S.1 c) → ∃ S2, m_same S1 S2 ∧ m_w P S2 ∧ x_X12_name [.ref 56] S1 = g_X12_name 27 [.ref 56, .int (nI P.1), .int 0, .null, .null] [] S2 := by
        intro S1 e
        obtain ⟨S2, g2, g3, g4⟩ := start S1 e
        refine ⟨S2, g2, ?_, ?_⟩
        · rw [hPe]; exact ((g3 h6).2.2 h7).2.2.2
        · rw [g4, if_neg hneg, if_neg h45, h9, hPe]
      have cells : ∀ {S1 S2 : a_M}, (∀ c, 56 ≤ c → S1.1 c = S.1 c) → m_same S1 S2 → S2.1 56 10 = nI N ∧ S2.1 64 = S.1 64 ∧ S2.1 65 = S.1 65 ∧ S2.1 66 = S.1 66 := by
        intro S1 S2 e g
        refine ⟨?_, ?_, ?_, ?_⟩
        · rw [g.2.1 10 (by decide) (by decide) (by decide) (by decide), e 56 (by decide)]; exact b4
        · rw [g.1 64 (by decide) (by decide) (by decide) (by decide), e 64 (by decide)]
        · rw [g.1 65 (by decide) (by decide) (by decide) (by decide), e 65 (by decide)]
        · rw [g.1 66 (by decide) (by decide) (by decide) (by decide), e 66 (by decide)]
      obtain ⟨T1, k1, k2, k3⟩ := X0_enter1 okP hc hn4' (by omega) b5 b9 P.1 0 S (by omega) ⟨fun _ _ => rfl, rfl⟩ (fun j hj => by omega)
      rw [nI_0] at k1
      have T1c : ∀ c, 56 ≤ c → T1.1 c = S.1 c := fun c hc => k2.1 c (by omega)
      have T1S : i_S S T1 := ⟨fun k _ _ => k2.1 k (by omega), fun k _ _ h => k2.1 k h, by rw [k2.1 45 (by decide)], by rw [k2.2], fun k _ _ _ _ _ => k2.1 k (by omega), fun j _ _ _ _ _ _ => by rw [k2.1 56 (by decide)]⟩
      have T1P := i_P_S T1S hP
      have T1X : c_text T1 := i_text_w hX (fun c hc => k2.1 c (by omega))
      have same1 : ∀ S2 : a_M, m_same T1 S2 → i_I S2 := fun S2 g => ⟨⟨n, m, N, W, H, Z, T, U, R, G, D, i_P_S (m_same_S g) T1P⟩, m_same_text g T1X⟩
      rw [e_X0_enter, k1]
      rcases X0_enter2 hB hc hn4' k2 k3 with ⟨k, e1, e2, e3, e4⟩ | ⟨e1, e2⟩
      · rw [e4]
        simp only [Option.bind_some, Option.toList_some, List.append_nil, b_X11_name_35]
        obtain ⟨S2, g2, g3, g4⟩ := start2 T1 T1c
        obtain ⟨c1, c2, c3, c4⟩ := cells T1c g2
        refine ⟨_, T1, S2, rfl, ?_, same1 S2 g2⟩
        rw [g4]
        rcases X12_namel okP hn4' hB c1 c2 c3 c4 g3 with ⟨k', d1, d2, d3, d4⟩ | ⟨d1, -⟩
        · have : k' = k := by
            rcases Nat.lt_trichotomy k' k with h | h | h
            · exact absurd d2 (e3 k' h)
            · exact h
            · exact absurd e2 (d3 k h)
          rw [d4, this]
        · exact absurd e2 (d1 k e1)
      · rw [e2]
        by_cases hN : N < 60
        · rw [if_pos hN]
          obtain ⟨T2, Wn, f1, fW, fA⟩ := X0_enter3 okP oklen hc hn4' hN b2 b3 P.1 0 W T1 (by omega) (by omega)
            ⟨Nat.le_refl _, by rw [k2.1 12 (by decide)]; exact b5, fun j _ => by rw [k2.1 12 (by decide)], fun c _ _ _ _ q => k2.1 c q, k2.2, fun w _ => by rw [k2.1 14 (by decide)], fun x _ => by rw [k2.1 13 (by decide)], by rw [k2.1 14 (by decide)]; exact b9, by rw [k2.1 14 (by decide), k2.1 13 (by decide)]; exact b10, fun x _ => by rw [k2.1 15 (by decide)], fun j hj => by omega⟩
          rw [nI_0] at f1
          rw [f1]
          simp only [Option.bind_some, Option.toList_some, List.append_nil, b_X11_name_35]
          obtain ⟨p1, p2, p3, p4, p5, p6, p7, p8, p9, p10, p11⟩ := fA
          obtain ⟨S1, hS1⟩ : ∃ S1, S1 = a_wi (a_wi T2 16 N (nI P.1)) 12 8 (nI (N + 1)) := ⟨_, rfl⟩
          rw [← hS1]
          have S1c : ∀ c, 56 ≤ c → S1.1 c = S.1 c := fun c hc => by rw [hS1, wi_n (by omega), wi_n (by omega)]; exact p4 c (by omega) (by omega) (by omega) (by omega) (by omega)
          obtain ⟨S2, g2, g3, g4⟩ := start2 S1 S1c
          obtain ⟨c1, c2, c3, c4⟩ := cells S1c g2
          rcases X12_namel okP hn4' hB c1 c2 c3 c4 g3 with ⟨k', d1, d2, d3, d4⟩ | ⟨-, d2⟩
          · exact absurd d2 (e1 k' d1)
          have g3' : m_w P (a_wi S2 64 N (nI P.1)) := by
            intro k hk
            have := g3 k hk
            rw [wi_n (by decide), wi_n (by decide), wi_n (by decide)]
            exact this
          obtain ⟨S3, r1, r2⟩ := X12_name116 (S := a_wi S2 64 N (nI P.1)) okP g3' hn4' hN (by rw [wi_n (by decide)]; exact c1) P.1 0 _ (by omega) ⟨fun _ _ _ => rfl, rfl, fun _ _ => rfl, fun _ _ => rfl, fun j hj => by omega⟩
          rw [nI_0] at r1
          obtain ⟨t1, t2, t3, t4, t5⟩ := r2
          refine ⟨_, S1, a_wi S3 56 10 (nI (N + 1)), rfl, ?_, ⟨n, m, N + 1, Wn, H, Z, T, U, R, G, D, ?_⟩, ?_⟩
          · rw [g4, d2, b_X12_name_27, c1, if_neg (nI_nlt (Nat.le_refl _) (by omega)), if_neg (show ¬ nI N = 60 from nI_ne (b := 60) (by omega) (by decide) (by omega)), if_neg (nI_out hN (by decide)), nI_clamp (by omega), r1]
          · have gg : ∀ c, c ≠ 12 → c ≠ 13 → c ≠ 14 → c ≠ 15 → c ≠ 16 → c ≠ 19 → c ≠ 56 → c ≠ 61 → c ≠ 62 → c ≠ 63 → c ≠ 64 → c ≠ 65 → c ≠ 66 → (a_wi S3 56 10 (nI (N + 1))).1 c = S.1 c := by
              intro c q12 q13 q14 q15 q16 q19 q56 q61 q62 q63 q64 q65 q66
              rw [wi_n q56, t1 c q65 q66, wi_n q64, g2.1 c q56 q61 q62 q63, hS1, wi_n q12, wi_n q16, p4 c q12 q13 q14 q15 q19]
            have g56 : ∀ j, j ≠ 10 → j ≠ 6 → j ≠ 51 → j ≠ 52 → j ≠ 53 → (a_wi S3 56 10 (nI (N + 1))).1 56 j = S.1 56 j := by
              intro j q10 q6 q51 q52 q53
              rw [wi_s q10, t1 56 (by decide) (by decide), wi_n (by decide), g2.2.1 j q6 q51 q52 q53, S1c 56 (by decide)]
            have e56 : (a_wi S3 56 10 (nI (N + 1))).1 56 10 = nI (N + 1) := wi_v _ _ _ _
            have gl : ∀ c, c < 56 → (a_wi S3 56 10 (nI (N + 1))).1 c = S1.1 c := by
              intro c hc
              rw [wi_n (by omega), t1 c (by omega) (by omega), wi_n (by omega), g2.1 c (by omega) (by omega) (by omega) (by omega)]
            have e12 : ∀ j, j ≠ 7 → j ≠ 8 → (a_wi S3 56 10 (nI (N + 1))).1 12 j = S.1 12 j := by
              intro j q7 q8
              rw [gl 12 (by decide), hS1, wi_s q8, wi_n (by decide), p3 j q7]
            have e127 : (a_wi S3 56 10 (nI (N + 1))).1 12 7 = nI Wn := by rw [gl 12 (by decide), hS1, wi_s (by decide), wi_n (by decide), p2]
            have e128 : (a_wi S3 56 10 (nI (N + 1))).1 12 8 = nI (N + 1) := by rw [gl 12 (by decide), hS1, wi_v]
            have e16 : (a_wi S3 56 10 (nI (N + 1))).1 16 = upd (S.1 16) N (nI P.1) := by rw [gl 16 (by decide), hS1, wi_n (by decide), wi_e, p4 16 (by decide) (by decide) (by decide) (by decide) (by decide)]
            have e13 : (a_wi S3 56 10 (nI (N + 1))).1 13 = T2.1 13 := by rw [gl 13 (by decide), hS1, wi_n (by decide), wi_n (by decide)]
            have e14 : (a_wi S3 56 10 (nI (N + 1))).1 14 = T2.1 14 := by rw [gl 14 (by decide), hS1, wi_n (by decide), wi_n (by decide)]
            have e15 : (a_wi S3 56 10 (nI (N + 1))).1 15 = T2.1 15 := by rw [gl 15 (by decide), hS1, wi_n (by decide), wi_n (by decide)]
            have e64 : (a_wi S3 56 10 (nI (N + 1))).1 64 = upd (S.1 64) N (nI P.1) := by rw [wi_n (by decide), t1 64 (by decide) (by decide), wi_e, c2]
            have e65 : (a_wi S3 56 10 (nI (N + 1))).1 65 = S3.1 65 := wi_n (by decide)
            have e66 : (a_wi S3 56 10 (nI (N + 1))).1 66 = S3.1 66 := wi_n (by decide)
            have e2 : (a_wi S3 56 10 (nI (N + 1))).2 = S.2 := by rw [wi_2, t2, wi_2, g2.2.2, hS1, wi_2, wi_2, p5]
            have x65 : ∀ x, x < N * 4 → S3.1 65 x = S.1 65 x := fun x hx => by rw [t3 x hx, wi_n (by decide), c3]
            have x66 : ∀ x, x < N * 64 → S3.1 66 x = S.1 66 x := fun x hx => by rw [t4 x hx, wi_n (by decide), c4]
            have hcl : ∀ k, k < N → cl (upd (S.1 16) N (nI P.1) k) = b_sz S k := fun k hk => by rw [up_n (by omega)]
            have hid : ∀ k j, k < N → j < 4 → cl (T2.1 15 (k * 4 + j)) = b_id S k j := fun k j hk hj => by rw [p10 (k * 4 + j) (by omega)]
            unfold i_P i_L i_F i_B i_H i_Z i_T i_U i_R i_G i_A i_D at hP ⊢
            simp (disch := decide) only [gg, g56, e56, e12, e127, e128, e16, e13, e14, e15, e64, e65, e66, e2]
            obtain ⟨q1, q2, -, q4, q5, q6, q7, q8, q9, q10, q11⟩ := hP
            refine ⟨q1, q2, ⟨by omega, by omega, rfl, rfl, rfl, by rw [b6], fun k hk => ?_, fun k j hk hj => ?_, p8, p9, fun k l hk hl r1 r2 => ?_⟩, ?_, ?_, ?_, ?_, q8, q9, q10, i_del_mono hcl (by omega) (Nat.le_refl _) (Nat.le_refl _) q11⟩
            · by_cases e : k = N
              · rw [e, up_e, cl_nI (by omega)]; exact ⟨hn0, hn4', rfl⟩
              · rw [up_n e]; exact b7 k (by omega)
            · by_cases e : k = N
              · rw [e, up_e, cl_nI (by omega)] at hj
                rw [e]
                obtain ⟨a1, a2, a3, a4⟩ := p11 j hj
                obtain ⟨u1, u2⟩ := t5 j hj
                have hl := p8 _ a1
                refine ⟨a1, a2, ?_, fun i hi => ?_⟩
                · rw [u1, a3]; exact hl.2.2.symm
                · have hi' : i < q_len P j := by rw [a3]; exact hi
                  rw [u2 i hi', a4 i hi']
              · have hk' : k < N := by omega
                rw [hcl k hk'] at hj
                obtain ⟨a1, a2, a3, a4⟩ := b8 k j hk' hj
                have h4 := (b7 k hk').2.1
                have hj4 : j < 4 := Nat.lt_of_lt_of_le hj h4
                have hl := b9 _ a1
                rw [hid k j hk' hj4, p10 (k * 4 + j) (by omega), p6 _ a1, x65 (k * 4 + j) (by omega)]
                have ab : b_id S k j < W := a1
                refine ⟨by omega, a2, a3, fun i hi => ?_⟩
                rw [x66 _ (by omega), p7 _ (by omega)]
                exact a4 i hi
            · have neq : ∀ k, k < N → b_sz S k = P.1 → (∀ j, j < P.1 → T2.1 15 (k * 4 + j) = T2.1 15 (N * 4 + j)) → False := by
                intro k hk hz he
                refine e1 k hk ⟨hz, fun j hj => ?_⟩
                obtain ⟨a1, -⟩ := b8 k j hk (by rw [show cl (S.1 16 k) = P.1 from hz]; exact hj)
                obtain ⟨-, -, a3, a4⟩ := p11 j hj
                have hb : b_id T2 N j = b_id S k j := by
                  show cl (T2.1 15 (N * 4 + j)) = _
                  rw [← he j hj, hid k j hk (by omega)]
                rw [hb] at a3 a4
                have hl := b9 _ a1
                refine ⟨by rw [a3, p6 _ a1], fun i hi => ?_⟩
                rw [a4 i hi]
                have hi16 := okP.1.2.2.1 j hj
                exact p7 _ (by have : b_id S k j < W := a1; omega)
              by_cases ek : k = N <;> by_cases el : l = N
              · omega
              · exfalso
                rw [ek, up_e, cl_nI (by omega), hcl l (by omega)] at r1
                rw [ek, up_e, cl_nI (by omega)] at r2
                exact neq l (by omega) r1.symm (fun j hj => (r2 j hj).symm)
              · exfalso
                rw [el, up_e, cl_nI (by omega), hcl k (by omega)] at r1
                rw [hcl k (by omega), r1, el] at r2
                exact neq k (by omega) r1 r2
              · rw [hcl k (by omega), hcl l (by omega)] at r1
                rw [hcl k (by omega)] at r2
                refine b11 k l (by omega) (by omega) r1 (fun j hj => ?_)
                have h4 := (b7 k (by omega)).2.1
                have := r2 j hj
                rw [p10 _ (by omega), p10 _ (by omega)] at this
                exact this
            · obtain ⟨s1, s2, s3, s4, s5, s6⟩ := q4
              refine ⟨s1, s2, s3, s4, s5, fun i hi => ?_⟩
              obtain ⟨v1, v2, v3, v4, v5⟩ := s6 i hi
              exact ⟨by omega, v2, by omega, v4, by rw [hcl _ v1]; exact v5⟩
            · obtain ⟨s1, s2, s3, s4, s5, s6, s7, s8⟩ := q5
              refine ⟨s1, s2, s3, s4, s5, s6, fun k j hk hj => ?_, s8⟩
              obtain ⟨v1, v2⟩ := s7 k j hk hj
              exact ⟨by omega, v2⟩
            · obtain ⟨s1, s2, s3, s4, s5, s6, s7⟩ := q6
              refine ⟨s1, s2, s3, s4, s5, s6, fun k hk => ?_⟩
              obtain ⟨v1, v2⟩ := s7 k hk
              exact ⟨by omega, v2⟩
            · obtain ⟨s1, s2, s3, s4, s5, s6⟩ := q7
              refine ⟨s1, s2, s3, s4, fun k hk => ?_, s6⟩
              obtain ⟨v1, v2, v3, v4⟩ := s5 k hk
              exact ⟨by omega, v2, by rw [hcl _ v1]; exact v3, by rw [v4, p10 _ (by omega)]⟩
          · refine i_text_w hX (fun c hc => ?_)
            rw [wi_n (by omega), t1 c (by omega) (by omega), wi_n (by omega), g2.1 c (by omega) (by omega) (by omega) (by omega), hS1, wi_n (by omega), wi_n (by omega), p4 c (by omega) (by omega) (by omega) (by omega) (by omega)]
        · rw [if_neg hN]
          simp only [Option.bind_some, Option.toList_some, List.append_nil, b_X11_name_35]
          obtain ⟨S2, g2, g3, g4⟩ := start2 T1 T1c
          obtain ⟨c1, c2, c3, c4⟩ := cells T1c g2
          refine ⟨_, T1, S2, rfl, ?_, same1 S2 g2⟩
          rw [g4]
          rcases X12_namel okP hn4' hB c1 c2 c3 c4 g3 with ⟨k', d1, d2, d3, d4⟩ | ⟨-, d2⟩
          · exact absurd d2 (e1 k' d1)
          · rw [d2, b_X12_name_27, c1, if_neg (nI_nlt (Nat.le_refl _) (by omega)), if_pos (show nI N = 60 by rw [show N = 60 by omega]; rfl)]
