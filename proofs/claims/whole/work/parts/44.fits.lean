/-! ===== fits ===== -/
/-- the least of the first n values, at most 1000000 -/
def mnf (f : Nat → Nat) : Nat → Nat
  | 0 => 1000000
  | i + 1 => min (mnf f i) (f i)
theorem mnf_le (f : Nat → Nat) : ∀ n, mnf f n ≤ 1000000 := by
  intro n
  induction n with
  | zero => exact Nat.le_refl _
  | succ n ih => unfold mnf; omega
/-- the least cost of street (way 0) or town (way 1) k as L words from t on -/
def fcost (P : q_P) (S : a_M) (H : Nat) (town : Bool) (k L t : Nat) : Nat := if town = true then nc P S H (cl (S.1 23 k)) L t 0 else mnf (fun i => nc P S H (cl (S.1 21 (k * 4 + i))) L t 0) (cl (S.1 22 k))
theorem fcost_far (P : q_P) (S : a_M) (H : Nat) (town : Bool) (k L t : Nat) : fcost P S H town k L t ≤ 1000000 := by
  unfold fcost
  split
  · exact nc_far _ _ _ _ _ _ _
  · exact mnf_le _ _
theorem nc_long {P : q_P} {B : a_M} {N W H a L t : Nat} (hB : i_B N W B) (hH : i_H N H B) (h : b_sz B a < L) : nc P B H a L t 0 = 1000000 := by
  have h1 := nc_far P B H a L t 0
  have h2 : ¬ nc P B H a L t 0 < 1000000 := fun hv => by have := (Pth_b hB hH _ _ _ _ _ (nc_sound P B H a L t 0 hv)).2; omega
  omega
theorem X12_fitCost {P : q_P} {B T : a_M} {N W H Z TT k fr to : Nat} {town : Bool} (ok : q_ok P) (hB : i_B N W B) (hH : i_H N H B) (hZ : i_Z N Z B) (hTT : i_T N TT B) (hm : m_w P B) (hT : c95 B T) (hk : k < (if town = true then TT else Z)) (hft : fr ≤ to) (hto : to ≤ P.1) :
    ∃ T', x_X12_fitCost [.ref 56, .int (b2i (town = true)), .int (nI k), .int (nI fr), .int (nI to)] T = some (some (.int (nI (fcost P B H town k (to - fr) fr))), T') ∧ c95 B T' := by
  cases town with
  | true =>
    obtain ⟨t1, t2, t3, t4, t5, t6, t7⟩ := hTT
    have hk' : k < TT := hk
    obtain ⟨a1, a2⟩ := t7 k hk'
    rw [e_X12_fitCost, if_pos (by decide), if_neg (nI_out (by omega) (by decide)), nI_clamp (by omega), hT.1 71 (by decide), ← t4, a2]
    obtain ⟨T', f1, f2⟩ := X12_nameCost ok hB hH hm hT a1 hft hto
    rw [f1]
    simp only [Option.bind_some, Option.toList_some, List.append_nil, b_X12_fitCost_18]
    exact ⟨T', rfl, f2⟩
  | false =>
    obtain ⟨z1, z2, z3, z4, z5, z6, z7, z8⟩ := hZ
    have hk' : k < Z := hk
    obtain ⟨c1, c2, c3⟩ := z6 k hk'
    have ck : (nI k).toNatClampNeg = k := nI_clamp (by omega)
    have nk : ¬ (nI k < 0 ∨ 30 ≤ k) := nI_out2 (by omega) (by omega)
    rw [e_X12_fitCost, if_neg (by decide)]
    have loop : ∀ e i T1, i + e = cl (B.1 22 k) → c95 B T1 → ∃ T', g_X12_fitCost 26 [.ref 56, .null, .int (nI k), .int (nI fr), .int (nI to), .int (nI (mnf (fun i => nc P B H (cl (B.1 21 (k * 4 + i))) (to - fr) fr 0) i)), .int (nI i), .null] [] T1 = some (some (.int (nI (mnf (fun i => nc P B H (cl (B.1 21 (k * 4 + i))) (to - fr) fr 0) (cl (B.1 22 k))))), T') ∧ c95 B T' := by
      intro e
      induction e with
      | zero =>
        intro i T1 h1 h2
        obtain rfl : i = cl (B.1 22 k) := by omega
        rw [b_X12_fitCost_26, ck, if_neg nk, h2.1 69 (by decide), ← z4, if_neg (by rw [c3, cl_nI (by omega)]; exact nI_nlt (Nat.le_refl _) (by omega))]
        exact ⟨T1, rfl, h2⟩
      | succ e ih =>
        intro i T1 h1 h2
        have hi : i < cl (B.1 22 k) := by omega
        obtain ⟨a1, a2⟩ := z7 k i hk' hi
        obtain ⟨A, hA⟩ : ∃ A, A = cl (B.1 21 (k * 4 + i)) := ⟨_, rfl⟩
        rw [← hA] at a1 a2
        obtain ⟨T2, f1, f2⟩ := X12_nameCost (a := A) ok hB hH hm h2 a1 hft hto
        rw [b_X12_fitCost_26, ck, if_neg nk, h2.1 69 (by decide), ← z4, if_pos (by rw [c3]; exact nI_lt hi (by omega)), show (4 : Int32) * nI k + nI i = nI (k * 4 + i) by rw [show (4 : Int32) = nI 4 from rfl, pk_mul, nI_add, Nat.mul_comm], if_neg (nI_out (by omega) (by decide)), nI_clamp (by omega), h2.1 70 (by decide), ← z5, a2, f1]
        simp only [Option.bind_some, Option.toList_some, List.append_nil, b_X12_fitCost_55]
        rw [nI_1]
        have hml := mnf_le (fun i => nc P B H (cl (B.1 21 (k * 4 + i))) (to - fr) fr 0) i
        have hnl := nc_far P B H A (to - fr) fr 0
        have ih' := ih (i + 1) T2 (by omega) f2
        have hu : mnf (fun i => nc P B H (cl (B.1 21 (k * 4 + i))) (to - fr) fr 0) (i + 1) = min (mnf (fun i => nc P B H (cl (B.1 21 (k * 4 + i))) (to - fr) fr 0) i) (nc P B H A (to - fr) fr 0) := by rw [hA]; rfl
        rw [hu] at ih'
        by_cases hlt : nc P B H A (to - fr) fr 0 < mnf (fun i => nc P B H (cl (B.1 21 (k * 4 + i))) (to - fr) fr 0) i
        · rw [if_pos (nI_lt hlt (by omega))]
          rw [Nat.min_eq_right (by omega)] at ih'
          exact ih'
        · rw [if_neg (nI_nlt (by omega) (by omega))]
          rw [Nat.min_eq_left (by omega)] at ih'
          exact ih'
    have := loop (cl (B.1 22 k)) 0 T (by omega) hT
    rw [nI_0] at this
    exact this
/-- the class's part number of a way -/
abbrev wpart (town : Bool) : Int32 := if town = true then 3 else 1
theorem X6_namesOf {Z TT N k : Nat} {B T : a_M} {town : Bool} (hZ : i_Z N Z B) (hTT : i_T N TT B) (hk : k < (if town = true then TT else Z)) (e22 : T.1 22 = B.1 22) : x_X6_namesOf [.ref 20, .int (wpart town), .int (nI k)] T = some (some (.int (nI (if town = true then 1 else cl (B.1 22 k)))), T) := by
  cases town with
  | true => rw [e_X6_namesOf, if_neg (by decide)]; rfl
  | false =>
    obtain ⟨z1, z2, z3, z4, z5, z6, z7, z8⟩ := hZ
    have hk' : k < Z := hk
    obtain ⟨c1, c2, c3⟩ := z6 k hk'
    show x_X6_namesOf [.ref 20, .int 1, .int (nI k)] T = _
    rw [X6_namesOf1 (by omega), e22]
    show some (some (Value.int (B.1 22 k)), T) = some (some (Value.int (nI (cl (B.1 22 k)))), T)
    rw [← c3]
/-- name i of street or town k -/
abbrev wname (B : a_M) (town : Bool) (k i : Nat) : Nat := if town = true then cl (B.1 23 k) else cl (B.1 21 (k * 4 + i))
abbrev wnum (B : a_M) (town : Bool) (k : Nat) : Nat := if town = true then 1 else cl (B.1 22 k)
theorem X6_nameOf {Z TT N k i : Nat} {B T : a_M} {town : Bool} (hZ : i_Z N Z B) (hTT : i_T N TT B) (hk : k < (if town = true then TT else Z)) (hi : i < wnum B town k) (e21 : T.1 21 = B.1 21) (e23 : T.1 23 = B.1 23) :
    x_X6_nameOf [.ref 20, .int (wpart town), .int (nI k), .int (nI i)] T = some (some (.int (nI (wname B town k i))), T) ∧ wname B town k i < N := by
  cases town with
  | true =>
    obtain ⟨t1, t2, t3, t4, t5, t6, t7⟩ := hTT
    have hk' : k < TT := hk
    obtain ⟨a1, a2⟩ := t7 k hk'
    refine ⟨?_, a1⟩
    rw [e_X6_nameOf, if_neg (by decide), at_23, av_nI (by omega) (by decide), e23]
    simp only [Option.bind_some, Option.toList_some, List.append_nil, b_X6_nameOf_28]
    show some (some (Value.int (B.1 23 k)), T) = some (some (Value.int (nI (cl (B.1 23 k)))), T)
    rw [← a2]
  | false =>
    obtain ⟨z1, z2, z3, z4, z5, z6, z7, z8⟩ := hZ
    have hk' : k < Z := hk
    have hi' : i < cl (B.1 22 k) := hi
    obtain ⟨c1, c2, c3⟩ := z6 k hk'
    obtain ⟨a1, a2⟩ := z7 k i hk' hi'
    refine ⟨?_, a1⟩
    show x_X6_nameOf [.ref 20, .int 1, .int (nI k), .int (nI i)] T = _
    rw [X6_nameOf1 (by omega), e21]
    show some (some (Value.int (B.1 21 (k * 4 + i))), T) = some (some (Value.int (nI (cl (B.1 21 (k * 4 + i))))), T)
    rw [← a2]
theorem fcost_mnf (P : q_P) (B : a_M) (H : Nat) (town : Bool) (k L t : Nat) : fcost P B H town k L t = mnf (fun i => nc P B H (wname B town k i) L t 0) (wnum B town k) := by
  cases town with
  | true =>
    show nc P B H (cl (B.1 23 k)) L t 0 = min 1000000 (nc P B H (cl (B.1 23 k)) L t 0)
    rw [Nat.min_eq_right (nc_far _ _ _ _ _ _ _)]
  | false => rfl
theorem X11_least {P : q_P} {B : a_M} {N W H Z TT k : Nat} {town : Bool} (ok : q_ok P) (hc : q_c P B) (hB : i_B N W B) (hH : i_H N H B) (hZ : i_Z N Z B) (hTT : i_T N TT B) (hf : fit P B W B) (hk : k < (if town = true then TT else Z)) : ∀ e i T, i + e = wnum B town k → (∀ c, c ≠ 44 → T.1 c = B.1 c) → T.2 = B.2 →
    ∃ T', g_X11_leastOfNames 13 [.ref 0, .int (wpart town), .int (nI k), .int (nI (mnf (fun i => nc P B H (wname B town k i) P.1 0 0) i)), .int (nI i), .null] [] T = some (some (.int (nI (fcost P B H town k P.1 0))), T') ∧ (∀ c, c ≠ 44 → T'.1 c = B.1 c) ∧ T'.2 = B.2 := by
  have hn := ok.1.1
  have hN := hB.1
  have hnum : wnum B town k ≤ 4 := by
    cases town with
    | true => show 1 ≤ 4; omega
    | false => exact (hZ.2.2.2.2.2.1 k hk).2.1
  intro e
  induction e with
  | zero =>
    intro i T h1 h2 h3
    obtain rfl : i = wnum B town k := by omega
    rw [b_X11_leastOfNames_13, X6_namesOf hZ hTT hk (h2 22 (by decide))]
    simp only [Option.bind_some, Option.toList_some, List.cons_append, List.nil_append, b_X11_leastOfNames_24]
    rw [if_neg (nI_nlt (Nat.le_refl _) (by show wnum B town k < _; omega)), ← fcost_mnf]
    exact ⟨T, rfl, h2, h3⟩
  | succ e ih =>
    intro i T h1 h2 h3
    have hi : i < wnum B town k := by omega
    obtain ⟨n1, n2⟩ := X6_nameOf (i := i) hZ hTT hk hi (h2 21 (by decide)) (h2 23 (by decide))
    rw [b_X11_leastOfNames_13, X6_namesOf hZ hTT hk (h2 22 (by decide))]
    simp only [Option.bind_some, Option.toList_some, List.cons_append, List.nil_append, b_X11_leastOfNames_24]
    rw [if_pos (nI_lt hi (by show wnum B town k < _; omega)), n1]
    simp only [Option.bind_some, Option.toList_some, List.append_nil, b_X11_leastOfNames_38]
    obtain ⟨A, hA⟩ : ∃ A, A = wname B town k i := ⟨_, rfl⟩
    rw [← hA] at n2 ⊢
    obtain ⟨T1, v, f1, f2, f3⟩ := X2_walk (s := 0) hn hc hB hH hf n2 (Nat.zero_le _) h2 h3
    rw [nI_0] at f1
    rw [f1]
    simp only [Option.bind_some, Option.toList_none, List.append_nil, b_X11_leastOfNames_50]
    rw [f2.1 7 (by decide), hc.1]
    have hz4 : b_sz B A ≤ 4 := (hB.2.2.2.2.2.2.1 A n2).2.1
    have hcost : x_X2_costOf [.ref 41, .int (nI A), .int (nI P.1)] T1 = some (some (.int (nI (nc P B H A P.1 0 0))), T1) := by
      by_cases h4 : P.1 ≤ 4
      · rw [X2_costOf hB n2 f2 h4, f3 P.1 h4 (by omega)]
      · rw [e_X2_costOf, if_neg (nI_pos (by omega)), if_neg (show ¬ nI P.1 < 5 from nI_nlt (b := 5) (by omega) (by omega)), nc_long hB hH (by omega)]
        rfl
    rw [hcost]
    simp only [Option.bind_some, Option.toList_some, List.cons_append, List.nil_append, b_X11_leastOfNames_67, J9_min, List.append_nil, b_X11_leastOfNames_70]
    rw [nI_1]
    have hml := mnf_le (fun i => nc P B H (wname B town k i) P.1 0 0) i
    have hnl := nc_far P B H A P.1 0 0
    have emin : (if nI (nc P B H A P.1 0 0) < nI (mnf (fun i => nc P B H (wname B town k i) P.1 0 0) i) then nI (nc P B H A P.1 0 0) else nI (mnf (fun i => nc P B H (wname B town k i) P.1 0 0) i)) = nI (mnf (fun i => nc P B H (wname B town k i) P.1 0 0) (i + 1)) := by
      show _ = nI (min (mnf (fun i => nc P B H (wname B town k i) P.1 0 0) i) (nc P B H (wname B town k i) P.1 0 0))
      rw [← hA]
      by_cases hlt : nc P B H A P.1 0 0 < mnf (fun i => nc P B H (wname B town k i) P.1 0 0) i
      · rw [if_pos (nI_lt hlt (by omega)), Nat.min_eq_right (by omega)]
      · rw [if_neg (nI_nlt (by omega) (by omega)), Nat.min_eq_left (by omega)]
    rw [emin]
    exact ih (i + 1) T1 (by omega) f2.1 f2.2.1
theorem fcost_c {P : q_P} {S T : a_M} (e : ∀ c, 13 ≤ c → c ≤ 18 → T.1 c = S.1 c) (e21 : T.1 21 = S.1 21) (e22 : T.1 22 = S.1 22) (e23 : T.1 23 = S.1 23) (H : Nat) (town : Bool) (k L t : Nat) : fcost P T H town k L t = fcost P S H town k L t := by
  unfold fcost
  simp only [nc_c e, e21, e22, e23]
theorem c43_S {S T : a_M} (h : c43 S T) : i_S S T :=
  ⟨fun k _ _ => h.1 k (by omega) (by omega), fun k _ _ _ => h.1 k (by omega) (by omega), by rw [h.1 45 (by decide) (by decide)], by rw [h.2], fun k _ _ _ _ _ => h.1 k (by omega) (by omega), fun j _ _ _ _ _ _ => by rw [h.1 56 (by decide) (by decide)]⟩
theorem fit_c {P : q_P} {S T : a_M} {W : Nat} (h : fit P S W T) (e : ∀ c, 13 ≤ c → c ≤ 18 → T.1 c = S.1 c) : fit P T W T := by
  refine ⟨fun k hk => ?_, fun k w hk hw => ?_⟩
  · rw [e 14 (by decide) (by decide), e 13 (by decide) (by decide)]; exact h.1 k hk
  · rw [wcost_c e]; exact h.2 k w hk hw
theorem op_fits (a b : Int32) : i_Op (fun S => x_X11_fits [.ref 0, .int a, .int b] S) (fun S => x_X12_fits [.ref 56, .int a, .int b] S) := by
  rintro S0 ⟨⟨n, m, N, W, H, Z, T, U, R, G, D, hP0⟩, hX0⟩
  have hS0 : i_I S0 := ⟨⟨n, m, N, W, H, Z, T, U, R, G, D, hP0⟩, hX0⟩
  have z0 := hP0.2.2.2.2.1
  have t0 := hP0.2.2.2.2.2.1
  have hz30 := z0.1
  have ht20 := t0.1
  dsimp only
  rw [e_X11_fits]
  have m5 : ∀ S1 : a_M, x_X12_fits [.ref 56, .int a, .int b] S1 = if ¬ (¬ a < 0 ∧ ¬ 1 < a) then some (some (.int (-2)), S1) else if a = 0 then g_X12_fits 26 [.ref 56, .int a, .int b, .null, .null] [.int (S1.1 56 17), .int 0, .int b] S1 else g_X12_fits 26 [.ref 56, .int a, .int b, .null, .null] [.int (S1.1 56 20), .int 0, .int b] S1 := by
    intro S1
    rw [e_X12_fits, X12_in]
    simp only [Option.bind_some, Option.toList_some, List.append_nil, b_X12_fits_6, b2i_z]
  by_cases ha1 : a < 0
  · rw [if_pos ha1]
    exact ⟨_, S0, S0, rfl, by rw [m5, if_pos (fun q => q.1 ha1)], hS0⟩
  rw [if_neg ha1]
  by_cases ha2 : 1 < a
  · rw [if_pos ha2]
    exact ⟨_, S0, S0, rfl, by rw [m5, if_pos (fun q => q.2 ha2)], hS0⟩
  rw [if_neg ha2]
  obtain ⟨town, hat⟩ : ∃ town : Bool, a = b2i (town = true) := by
    obtain ⟨k, k1, k2, rfl⟩ := rg_of (a := 0) (b := 1) rfl rfl (by decide) (by decide) ha1 ha2
    have : k = 0 ∨ k = 1 := by omega
    rcases this with rfl | rfl
    · exact ⟨false, rfl⟩
    · exact ⟨true, rfl⟩
  have cx : (if a = 0 then g_X11_fits 21 [.ref 0, .null, .int b, .null, .null, .null] [.int 1] S0 else g_X11_fits 21 [.ref 0, .null, .int b, .null, .null, .null] [.int 3] S0) = g_X11_fits 21 [.ref 0, .null, .int b, .null, .null, .null] [.int (wpart town)] S0 := by
    rw [hat]
    cases town with
    | true => rw [if_neg (by decide)]; rfl
    | false => rw [if_pos (by decide)]; rfl
  obtain ⟨C, hC⟩ : ∃ C, C = (if town = true then T else Z) := ⟨_, rfl⟩
  have hC30 : C ≤ 30 := by rw [hC]; split <;> omega
  have hhas : x_X6_has [.ref 20, .int (wpart town), .int b] S0 = some (some (.int (b2i (ixp b C))), S0) := by
    rw [hC]
    cases town with
    | true => exact X6_has3 b t0.2.1
    | false => exact X6_has1 b z0.2.1
  rw [cx, b_X11_fits_21, hhas]
  simp only [Option.bind_some, Option.toList_some, List.append_nil, b_X11_fits_31, b2i_z]
  have m6 : ∀ S1 : a_M, S1.1 56 17 = nI Z → S1.1 56 20 = nI T → x_X12_fits [.ref 56, .int a, .int b] S1 = if ¬ ixp b C then some (some (.int (-2)), S1) else ((x_X12_taken [.ref 56] S1).bind fun q => g_X12_fits 41 [.ref 56, .int a, .int b, .null, .null] (q.1.toList ++ []) q.2) := by
    intro S1 q1 q2
    rw [m5, if_neg (not_not_intro ⟨ha1, ha2⟩), q1, q2]
    have g26 : (if a = 0 then g_X12_fits 26 [.ref 56, .int a, .int b, .null, .null] [.int (nI Z), .int 0, .int b] S1 else g_X12_fits 26 [.ref 56, .int a, .int b, .null, .null] [.int (nI T), .int 0, .int b] S1) = g_X12_fits 26 [.ref 56, .int a, .int b, .null, .null] [.int (nI C), .int 0, .int b] S1 := by
      rw [hC, hat]
      cases town with
      | true => rw [if_neg (by decide)]; rfl
      | false => rw [if_pos (by decide)]; rfl
    rw [g26, b_X12_fits_26, X12_in, b2i_c (in_ixp (by omega))]
    simp only [Option.bind_some, Option.toList_some, List.append_nil, b_X12_fits_31, b2i_z]
  by_cases hb : ixp b C
  · rw [if_neg (not_not_intro hb)]
    obtain ⟨k, hk, rfl⟩ := ixp_of (by omega) hb
    obtain ⟨S, h1, hP, h3, hs0⟩ := fresh hP0 hX0
    have hX : c_text S := fun _ => h3
    have ok := h3.1
    rw [h1]
    simp only [Option.bind_some, Option.toList_some, List.append_nil, b_X11_fits_41]
    rw [X10_state h3]
    simp only [Option.bind_some, Option.toList_some, List.append_nil, b_X11_fits_44]
    rcases q_ans_neg _ ok with ⟨h5, -⟩ | ⟨h6, h7, h8, h9⟩
    · rw [if_pos h5]
      obtain ⟨S2, g1, g2, g3, g4⟩ := taken hP
      refine ⟨_, S, S2, rfl, ?_, ⟨n, m, N, W, H, Z, T, U, R, G, D, g2⟩, m_same_text g3 hX⟩
      rw [m6 S hP.2.2.2.2.1.2.2.1 hP.2.2.2.2.2.1.2.2.1, if_neg (not_not_intro hb), g1]
      simp only [Option.bind_some, Option.toList_some, List.append_nil, b_X12_fits_41]
      rw [if_pos h5]
    · have hn14 := ok.1.1
      have hneg : ¬ q_ans (q_pS S) < 0 := by rw [h9]; exact nI_pos (by omega)
      obtain ⟨P, hPe⟩ : ∃ P, P = (q_pS S).1 := ⟨_, rfl⟩
      have hc : q_c P S := by rw [hPe]; exact h3.2.1
      have okP : q_ok P := by rw [hPe]; exact ok
      rw [if_neg hneg, e_X11_leastOfNames]
      obtain ⟨B, p1, p2, p3⟩ := X2_prepare okP hc hP.2.2.1
      rw [p1]
      simp only [Option.bind_some, Option.toList_none, List.append_nil, b_X11_leastOfNames_7]
      have eB : ∀ c, 13 ≤ c → c ≤ 18 → B.1 c = S.1 c := fun c c1 c2 => p2.1 c (by omega) (by omega)
      have hPB : i_P n m N W H Z T U R G D B := i_P_S (c43_S p2) hP
      have hcB : q_c P B := q_c_same hc (fun c _ c2 => p2.1 c (by omega) (by omega))
      have hk' : k < (if town = true then T else Z) := by rw [← hC]; exact hk
      obtain ⟨S1, f1, f2, f3⟩ := X11_least (town := town) (k := k) okP hcB hPB.2.2.1 hPB.2.2.2.1 hPB.2.2.2.2.1 hPB.2.2.2.2.2.1 (fit_c p3 eB) hk' (wnum B town k) 0 B (by omega) (fun _ _ => rfl) rfl
      rw [nI_0] at f1
      rw [show (1000000 : Int32) = nI (mnf (fun i => nc P B H (wname B town k i) P.1 0 0) 0) from rfl, f1]
      simp only [Option.bind_some, Option.toList_some, List.append_nil, b_X11_fits_60]
      have hS1B : i_S B S1 := ⟨fun k _ _ => f2 k (by omega), fun k _ _ _ => f2 k (by omega), by rw [f2 45 (by decide)], by rw [f3], fun k _ _ _ _ _ => f2 k (by omega), fun j _ _ _ _ _ _ => by rw [f2 56 (by decide)]⟩
      have hP1 := i_P_S hS1B hPB
      have e1 : ∀ c, c ≠ 42 → c ≠ 43 → c ≠ 44 → S1.1 c = S.1 c := fun c c1 c2 c3 => (f2 c c3).trans (p2.1 c c1 c2)
      have hX1 : c_text S1 := i_text_w hX (fun c hc => e1 c (by omega) (by omega) (by omega))
      have hq1 : q_pS S1 = q_pS S := q_pS_S (i_S_tr (c43_S p2) hS1B)
      obtain ⟨S2, g1, g2, g3, g4⟩ := taken hP1
      rw [hq1] at g1 g4
      have hm : m_w P S2 := by rw [hPe]; exact ((g4 h6).2.2 h7).2.2.2
      obtain ⟨S3, j1, j2⟩ := X12_fitCost (town := town) (k := k) (fr := 0) (to := P.1) (T := S2) okP g2.2.2.1 g2.2.2.2.1 g2.2.2.2.2.1 g2.2.2.2.2.2.1 hm ⟨fun _ _ => rfl, rfl⟩ hk' (Nat.zero_le _) (Nat.le_refl _)
      rw [nI_0, Nat.sub_zero] at j1
      have e2 : ∀ c, 13 ≤ c → c ≤ 23 → S2.1 c = B.1 c := fun c c1 c2 => by rw [g3.1 c (by omega) (by omega) (by omega) (by omega), f2 c (by omega)]
      rw [fcost_c (fun c c1 c2 => e2 c c1 (by omega)) (e2 21 (by decide) (by decide)) (e2 22 (by decide) (by decide)) (e2 23 (by decide) (by decide))] at j1
      have hm3 : x_X12_fits [.ref 56, .int a, .int (nI k)] S1 = if nI (fcost P B H town k P.1 0) < 1000000 then some (some (.int (nI (fcost P B H town k P.1 0))), S3) else some (some (.int (-1)), S3) := by
        rw [m6 S1 hP1.2.2.2.2.1.2.2.1 hP1.2.2.2.2.2.1.2.2.1, if_neg (not_not_intro hb), g1]
        simp only [Option.bind_some, Option.toList_some, List.append_nil, b_X12_fits_41]
        rw [if_neg hneg, h9, ← hPe, hat, j1]
        simp only [Option.bind_some, Option.toList_some, List.append_nil, b_X12_fits_56]
      have hS3 : i_S S2 S3 := ⟨fun k _ _ => j2.1 k (by omega), fun k _ _ _ => j2.1 k (by omega), by rw [j2.1 45 (by decide)], by rw [j2.2], fun k _ _ _ _ _ => j2.1 k (by omega), fun j _ _ _ _ _ _ => by rw [j2.1 56 (by decide)]⟩
      have fin : i_I S3 := ⟨⟨n, m, N, W, H, Z, T, U, R, G, D, i_P_S hS3 g2⟩, i_text_w (m_same_text g3 hX1) (fun c hc => j2.1 c (by omega))⟩
      by_cases hlt : nI (fcost P B H town k P.1 0) < 1000000
      · rw [if_pos hlt]
        exact ⟨_, S1, S3, rfl, by rw [hm3, if_pos hlt], fin⟩
      · rw [if_neg hlt]
        exact ⟨_, S1, S3, rfl, by rw [hm3, if_neg hlt], fin⟩
  · rw [if_pos hb]
    exact ⟨_, S0, S0, rfl, by rw [m6 S0 z0.2.2.1 t0.2.2.1, if_pos hb], hS0⟩
