/-! ===== of, unitSign, carrier ===== -/
theorem X1_has {D : Nat} (a : Int32) {S : a_M} (h : S.1 38 2 = nI D) : x_X1_has [.ref 38, .int a] S = some (some (.int (b2i (ixp a D))), S) := by
  rw [e_X1_has, h]
  by_cases h1 : a < 0 <;> by_cases h2 : a < nI D <;> simp [b2i, h1, h2]
theorem X12_isDelivery {D : Nat} (a : Int32) {S : a_M} (hD : D < 2 ^ 31) (h : S.1 56 40 = nI D) : x_X12_isDelivery [.ref 56, .int a] S = some (some (.int (b2i (ixp a D))), S) := by
  rw [e_X12_isDelivery, h, X12_in, b2i_c (in_ixp hD)]
  simp only [Option.bind_some, Option.toList_some, List.append_nil, b_X12_isDelivery_11]
  rw [if_pos (b2i_01 _)]
  rfl
theorem X1_get {d f : Nat} {S : a_M} (hd : d < 40) (hf : f < 17) : x_X1_get [.ref 38, .int (nI d), .int (nI f)] S = some (some (.int (S.1 39 (d * 17 + f))), S) := by
  rw [e_X1_get, if_neg (nI_pos (by omega)), if_pos (show nI f < 17 from nI_lt (b := 17) hf (by decide)), show (17 : Int32) = nI 17 from rfl, pk_mul, nI_add, at_39]
  simp only [Option.bind_some, Option.toList_some, List.append_nil, b_X1_get_23]
  rw [av_nI (by omega) (by decide)]
theorem i_rec_01 {N Z T : Nat} {sz : Nat → Int32} {h0 h1 h2 h3 h4 num let_ str unm usz twn cod : Int32} (h : i_rec N Z T sz h0 h1 h2 h3 h4 num let_ str unm usz twn cod) : (h0 = 0 ∨ h0 = 1) ∧ (h1 = 0 ∨ h1 = 1) ∧ (h2 = 0 ∨ h2 = 1) ∧ (h3 = 0 ∨ h3 = 1) ∧ (h4 = 0 ∨ h4 = 1) := by
  obtain ⟨t1, t2, t3, t4, t5⟩ := h
  refine ⟨?_, ?_, ?_, ?_, ?_⟩
  · exact t1.elim (fun q => Or.inr q.1) (fun q => Or.inl q.1)
  · exact t2.elim (fun q => Or.inr q.1) (fun q => Or.inl q.1)
  · exact t3.elim (fun q => Or.inr q.1) (fun q => Or.inl q.1)
  · exact t4.elim (fun q => Or.inr q.1) (fun q => Or.inl q.1)
  · exact t5.elim (fun q => Or.inr q.1) (fun q => Or.inl q.1)
theorem op_of (a b : Int32) : i_Op (fun S => x_X11_of [.ref 0, .int a, .int b] S) (fun S => x_X12_of [.ref 56, .int a, .int b] S) := by
  rintro S ⟨⟨n, m, N, W, H, Z, T, U, R, G, D, hP⟩, hX⟩
  have hS : i_I S := ⟨⟨n, m, N, W, H, Z, T, U, R, G, D, hP⟩, hX⟩
  obtain ⟨d1, d2, d3, d4⟩ := hP.2.2.2.2.2.2.2.2.2.2
  have m5 : x_X12_of [.ref 56, .int a, .int b] S = if ¬ ixp a D then some (some (.int (-2)), S) else if ¬ (¬ b < 0 ∧ ¬ 12 < b) then some (some (.int (-2)), S) else g_X12_of 15 [.ref 56, .int a, .int b] [.int 1] S := by
    rw [e_X12_of, X12_isDelivery a (by omega) d3]
    simp only [Option.bind_some, Option.toList_some, List.append_nil, b_X12_of_5, b2i_z, X12_in]
    by_cases h : ¬ b < 0 ∧ ¬ 12 < b
    · rw [b2i_t h, if_neg (not_not_intro h)]
    · rw [b2i_f h, if_pos h, b_X12_of_15, if_pos rfl]
  dsimp only
  rw [e_X11_of, X1_has a d2]
  simp only [Option.bind_some, Option.toList_some, List.append_nil, b_X11_of_8, b2i_z]
  by_cases ha : ixp a D
  · rw [if_neg (not_not_intro ha)]
    by_cases hb1 : b < 0
    · rw [if_pos hb1]
      exact ⟨_, S, S, rfl, by rw [m5, if_neg (not_not_intro ha), if_pos (fun q => q.1 hb1)], hS⟩
    rw [if_neg hb1]
    by_cases hb2 : 12 < b
    · rw [if_pos hb2]
      exact ⟨_, S, S, rfl, by rw [m5, if_neg (not_not_intro ha), if_pos (fun q => q.2 hb2)], hS⟩
    rw [if_neg hb2]
    rw [if_neg (not_not_intro ha), if_neg (not_not_intro ⟨hb1, hb2⟩)] at m5
    obtain ⟨d, hd, rfl⟩ := ixp_of (by omega) ha
    obtain ⟨f, -, hf, rfl⟩ := rg_of (a := 0) (b := 12) rfl rfl (by decide) (by decide) hb1 hb2
    rw [X1_get (by omega) (by omega)]
    simp only [Option.bind_some, Option.toList_some, List.append_nil, b_X11_of_33]
    refine ⟨_, S, S, rfl, ?_, hS⟩
    rw [m5, b_X12_of_15, if_neg (by decide)]
    obtain ⟨r1, r2, r3, r4, r5, r6, r7, r8, r9, r10, t⟩ := d4 d hd
    have hh : ∀ p, p < 5 → S.1 85 (5 * d + p) = 0 ∨ S.1 85 (5 * d + p) = 1 := by
      obtain ⟨t0, t1, t2, t3, t4⟩ := i_rec_01 t
      intro p hp
      have : p = 0 ∨ p = 1 ∨ p = 2 ∨ p = 3 ∨ p = 4 := by omega
      rcases this with rfl | rfl | rfl | rfl | rfl <;> assumption
    have nd : ¬ (nI d < 0 ∨ 40 ≤ (nI d).toNatClampNeg) := nI_out (by omega) (by decide)
    have cd : (nI d).toNatClampNeg = d := nI_clamp (by omega)
    by_cases h5 : f < 5
    · rw [if_pos (show nI f < 5 from nI_lt (b := 5) h5 (by decide)), show (5 : Int32) = nI 5 from rfl, pk_mul, nI_add, if_neg (nI_out (by omega) (by decide)), nI_clamp (by omega), r1 f h5]
      rcases hh f h5 with q | q
      · rw [q, if_pos rfl]
      · rw [q, if_neg (by decide)]
    · rw [if_neg (show ¬ nI f < 5 from nI_nlt (b := 5) (by omega) (by omega))]
      have : f = 5 ∨ f = 6 ∨ f = 7 ∨ f = 8 ∨ f = 9 ∨ f = 10 ∨ f = 11 ∨ f = 12 := by omega
      rcases this with rfl | rfl | rfl | rfl | rfl | rfl | rfl | rfl
      · rw [if_pos (by decide), if_neg nd, cd, r2]
      · rw [if_neg (by decide), if_pos (by decide), if_neg nd, cd, r3]
      · rw [if_neg (by decide), if_neg (by decide), if_pos (by decide), if_neg nd, cd, r4]
      · rw [if_neg (by decide), if_neg (by decide), if_neg (by decide), if_pos (by decide), if_neg nd, cd, r5]
      · rw [if_neg (by decide), if_neg (by decide), if_neg (by decide), if_neg (by decide), if_pos (by decide), if_neg nd, cd, r6]
      · rw [if_neg (by decide), if_neg (by decide), if_neg (by decide), if_neg (by decide), if_neg (by decide), if_pos (by decide), if_neg nd, cd, r7]
      · rw [if_neg (by decide), if_neg (by decide), if_neg (by decide), if_neg (by decide), if_neg (by decide), if_neg (by decide), if_pos (by decide), if_neg nd, cd, r8]
      · rw [if_neg (by decide), if_neg (by decide), if_neg (by decide), if_neg (by decide), if_neg (by decide), if_neg (by decide), if_neg (by decide), if_neg nd, cd, r9]
  · rw [if_pos ha]
    exact ⟨_, S, S, rfl, by rw [m5, if_pos ha], hS⟩
theorem m1_toInt : (-1 : Int32).toInt = -1 := by decide
theorem z_toInt : (0 : Int32).toInt = 0 := by decide
/-- unit signs as the class reads them -/
theorem X1_unitSignAt {N Z T D d i : Nat} {S : a_M} (hD : i_D N Z T D S) (hd : d < D) (hi : i < 2 ^ 31) : x_X1_unitSignAt [.ref 38, .int (nI d), .int (nI i)] S = some (some (.int (if nI i < S.1 90 d then S.1 91 (4 * d + i) else -1)), S) := by
  obtain ⟨d1, d2, d3, d4⟩ := hD
  obtain ⟨r1, r2, r3, r4, r5, r6, r7, r8, r9, r10, t⟩ := d4 d hd
  rw [e_X1_unitSignAt, X1_has _ d2, b2i_t (ixp_nI hd (by omega))]
  simp only [Option.bind_some, Option.toList_some, List.append_nil, b_X1_unitSignAt_5]
  have hg := X1_get (d := d) (f := 9) (S := S) (by omega) (by omega)
  rw [if_neg (by decide), if_neg (nI_pos hi), show (9 : Int32) = nI 9 from rfl, hg]
  simp only [Option.bind_some, Option.toList_some, List.cons_append, List.nil_append, b_X1_unitSignAt_20, r6]
  by_cases h : nI i < S.1 90 d
  · rw [if_pos h, if_pos h]
    have h4 : i < 4 := by
      rcases t.2.2.1 with ⟨-, -, v, v1, v2, v3⟩ | ⟨-, -, q⟩
      · rw [v3, nI_ltI hi (by omega)] at h; omega
      · rw [q, Int32.lt_iff_toInt_lt, nI_toInt hi, m1_toInt] at h; omega
    rw [show (13 : Int32) = nI 13 from rfl, nI_add, X1_get (by omega) (by omega)]
    simp only [Option.bind_some, Option.toList_some, List.append_nil, b_X1_unitSignAt_34]
    rw [show d * 17 + (13 + i) = d * 17 + 13 + i by omega, r10 i h4, if_pos h]
  · rw [if_neg h, if_neg h]
theorem op_unitSign (a b : Int32) : i_Op (fun S => x_X11_unitSign [.ref 0, .int a, .int b] S) (fun S => x_X12_unitSign [.ref 56, .int a, .int b] S) := by
  rintro S ⟨⟨n, m, N, W, H, Z, T, U, R, G, D, hP⟩, hX⟩
  have hS : i_I S := ⟨⟨n, m, N, W, H, Z, T, U, R, G, D, hP⟩, hX⟩
  have hD := hP.2.2.2.2.2.2.2.2.2.2
  obtain ⟨d1, d2, d3, d4⟩ := hP.2.2.2.2.2.2.2.2.2.2
  have m5 : x_X12_unitSign [.ref 56, .int a, .int b] S = if ¬ ixp a D then some (some (.int (-1)), S) else (if a < 0 ∨ 40 ≤ a.toNatClampNeg then none else if ¬ (¬ b < 0 ∧ ¬ S.1 90 a.toNatClampNeg - 1 < b) then some (some (.int (-1)), S) else (if (4 * a) + b < 0 ∨ 160 ≤ ((4 * a) + b).toNatClampNeg then none else some (some (.int (S.1 91 ((4 * a) + b).toNatClampNeg)), S))) := by
    rw [e_X12_unitSign, X12_isDelivery a (by omega) d3]
    simp only [Option.bind_some, Option.toList_some, List.append_nil, b_X12_unitSign_5, b2i_z, X12_in, b_X12_unitSign_21]
  dsimp only
  rw [e_X11_unitSign]
  by_cases ha : ixp a D
  · rw [if_neg (not_not_intro ha)] at m5
    obtain ⟨d, hd, rfl⟩ := ixp_of (by omega) ha
    obtain ⟨r1, r2, r3, r4, r5, r6, r7, r8, r9, r10, t⟩ := d4 d hd
    have cd : (nI d).toNatClampNeg = d := nI_clamp (by omega)
    rw [if_neg (nI_out (by omega) (by decide)), cd] at m5
    by_cases hb : b < 0
    · rw [e_X1_unitSignAt, X1_has _ d2, b2i_t ha]
      simp only [Option.bind_some, Option.toList_some, List.append_nil, b_X1_unitSignAt_5]
      rw [if_neg (by decide), if_pos hb]
      simp only [Option.bind_some, Option.toList_some, List.append_nil, b_X11_unitSign_9]
      exact ⟨_, S, S, rfl, by rw [m5, if_pos (fun q => q.1 hb)], hS⟩
    · obtain ⟨i, hi, rfl⟩ := nI_of hb
      rw [X1_unitSignAt hD hd hi]
      simp only [Option.bind_some, Option.toList_some, List.append_nil, b_X11_unitSign_9]
      refine ⟨_, S, S, rfl, ?_, hS⟩
      rw [m5]
      have hz : nI i < S.1 90 d ↔ (¬ nI i < 0 ∧ ¬ S.1 90 d - 1 < nI i) := by
        rcases t.2.2.1 with ⟨-, -, v, v1, v2, v3⟩ | ⟨-, -, q⟩
        · rw [v3, nI_ltI hi (by omega), in_ixp (by omega)]
          exact ⟨fun q => ixp_nI q (by omega), fun q => (nI_ltI hi (by omega)).mp q.2⟩
        · rw [q]
          constructor
          · intro h
            rw [Int32.lt_iff_toInt_lt, nI_toInt hi, m1_toInt] at h; omega
          · rintro ⟨h1, h2⟩
            exfalso
            apply h2
            rw [Int32.lt_iff_toInt_lt, nI_toInt hi, show ((-1 : Int32) - 1).toInt = -2 by decide]
            omega
      by_cases h : nI i < S.1 90 d
      · rw [if_pos h, if_neg (not_not_intro (hz.mp h))]
        have h4 : i < 4 := by
          rcases t.2.2.1 with ⟨-, -, v, v1, v2, v3⟩ | ⟨-, -, q⟩
          · rw [v3, nI_ltI hi (by omega)] at h; omega
          · rw [q, Int32.lt_iff_toInt_lt, nI_toInt hi, m1_toInt] at h; omega
        rw [show (4 : Int32) = nI 4 from rfl, pk_mul, nI_add, if_neg (nI_out (by omega) (by decide)), nI_clamp (by omega)]
      · rw [if_neg h, if_pos (fun q => h (hz.mpr q))]
  · rw [e_X1_unitSignAt, X1_has _ d2, b2i_f ha]
    simp only [Option.bind_some, Option.toList_some, List.append_nil, b_X1_unitSignAt_5]
    rw [if_pos trivial]
    simp only [Option.bind_some, Option.toList_some, List.append_nil, b_X11_unitSign_9]
    exact ⟨_, S, S, rfl, by rw [m5, if_pos ha], hS⟩
/-! carrier -/
abbrev p_num (S : a_M) (r v : Nat) : Prop := ¬ nI v < S.1 29 r ∧ ¬ S.1 30 r < nI v ∧ (S.1 31 r = 0 ∨ (S.1 31 r = 1 ↔ v % 2 = 1))
theorem odd_v (v : Nat) (hv : v < 2 ^ 31) : nI v &&& 1 = 1 ↔ v % 2 = 1 := by
  rw [pk_andN (by omega) 1 rfl, show (1 : Int32) = nI 1 from rfl, nI_eq (by omega) (by decide)]
theorem X6_hasNumber {r v : Nat} {S : a_M} (hr : r < 60) (hv : v < 2 ^ 31) : x_X6_hasNumber [.ref 20, .int (nI r), .int (nI v)] S = some (some (.int (b2i (p_num S r v))), S) := by
  rw [e_X6_hasNumber, at_29]
  simp only [Option.bind_some, Option.toList_some, List.cons_append, List.nil_append, b_X6_hasNumber_9, at_30, b_X6_hasNumber_21, at_31, List.append_nil, b_X6_hasNumber_34, b_X6_hasNumber_49, b_X6_hasNumber_61]
  rw [av_nI hr (by decide), av_nI hr (by decide), av_nI hr (by decide)]
  by_cases h1 : nI v < S.1 29 r
  · rw [if_pos h1, b2i_f (fun q => q.1 h1)]
  rw [if_neg h1]
  by_cases h2 : S.1 30 r < nI v
  · rw [if_pos h2, b2i_f (fun q => q.2.1 h2)]
  rw [if_neg h2]
  by_cases h3 : S.1 31 r = 0
  · rw [if_pos h3, b2i_t ⟨h1, h2, Or.inl h3⟩]
  rw [if_neg h3]
  have ho := odd_v v hv
  by_cases h4 : S.1 31 r = 1
  · rw [if_pos h4]
    by_cases h5 : v % 2 = 1
    · rw [if_pos (ho.mpr h5), if_pos trivial, b2i_t ⟨h1, h2, Or.inr ⟨fun _ => h5, fun _ => h4⟩⟩]
    · rw [if_neg (fun q => h5 (ho.mp q)), if_neg (by decide), b2i_f (fun q => q.2.2.elim h3 (fun q => h5 (q.mp h4)))]
  · rw [if_neg h4]
    by_cases h5 : v % 2 = 1
    · rw [if_pos (ho.mpr h5), if_neg (by decide), b2i_f (fun q => q.2.2.elim h3 (fun q => h4 (q.mpr h5)))]
    · rw [if_neg (fun q => h5 (ho.mp q)), if_pos trivial, b2i_t ⟨h1, h2, Or.inr ⟨fun q => absurd q h4, fun q => absurd q h5⟩⟩]
theorem X6_hasCode {t : Nat} (c : Int32) {S : a_M} (ht : t < 20) : x_X6_hasCode [.ref 20, .int (nI t), .int c] S = some (some (.int (b2i (¬ c < S.1 24 t ∧ ¬ S.1 25 t < c))), S) := by
  rw [e_X6_hasCode, at_24]
  simp only [Option.bind_some, Option.toList_some, List.cons_append, List.nil_append, b_X6_hasCode_9, at_25, b_X6_hasCode_21]
  rw [av_nI ht (by decide), av_nI ht (by decide)]
  by_cases h1 : c < S.1 24 t <;> by_cases h2 : S.1 25 t < c <;> simp [b2i, h1, h2]
/-- range r serves -/
abbrev p_srv (S : a_M) (str : Int32) (v : Nat) (twn cod : Int32) (r : Nat) : Prop := (S.1 28 r = str ∧ p_num S r v) ∧ (twn = -1 ∨ S.1 32 r = twn) ∧ (cod = -1 ∨ (¬ cod < S.1 24 (cl (S.1 32 r)) ∧ ¬ S.1 25 (cl (S.1 32 r)) < cod))
theorem X6_carrierOf {T R v : Nat} (str twn cod : Int32) {S : a_M} (hT : T ≤ 20) (hR : i_R T R S) (hv : v < 2 ^ 31) (hs : str ≠ -1) :
    (∃ r, r < R ∧ p_srv S str v twn cod r ∧ (∀ j, j < r → ¬ p_srv S str v twn cod j) ∧ x_X6_carrierOf [.ref 20, .int str, .int (nI v), .int twn, .int cod] S = some (some (.int (S.1 33 r)), S)) ∨ ((∀ r, r < R → ¬ p_srv S str v twn cod r) ∧ x_X6_carrierOf [.ref 20, .int str, .int (nI v), .int twn, .int cod] S = some (some (.int (-1)), S)) := by
  obtain ⟨s1, s2, s3, s4, s5, s6, s7, s8, s9, s10⟩ := hR
  rw [e_X6_carrierOf, if_neg hs, if_neg (fun q => by have := nI_pos hv; rw [q] at this; exact this (by decide))]
  have step : ∀ r, r < R → g_X6_carrierOf 15 [.ref 20, .int str, .int (nI v), .int twn, .int cod, .int (nI r), .null, .null] [] S = if p_srv S str v twn cod r then some (some (.int (S.1 33 r)), S) else g_X6_carrierOf 15 [.ref 20, .int str, .int (nI v), .int twn, .int cod, .int (nI (r + 1)), .null, .null] [] S := by
    intro r hr
    obtain ⟨t1, t2, -⟩ := s10 r hr
    have h52 : g_X6_carrierOf 15 [.ref 20, .int str, .int (nI v), .int twn, .int cod, .int (nI r), .null, .null] [] S = g_X6_carrierOf 52 [.ref 20, .int str, .int (nI v), .int twn, .int cod, .int (nI r), .null, .null] [.int (b2i (S.1 28 r = str ∧ p_num S r v))] S := by
      rw [b_X6_carrierOf_15, s2, if_pos (nI_lt hr (by omega)), at_28]
      simp only [Option.bind_some, Option.toList_some, List.append_nil, b_X6_carrierOf_33]
      rw [av_nI (by omega) (by decide)]
      by_cases h1 : S.1 28 r = str
      · rw [if_pos h1, X6_hasNumber (by omega) hv]
        simp only [Option.bind_some, Option.toList_some, List.append_nil, b_X6_carrierOf_44, b2i_z]
        by_cases h2 : p_num S r v
        · rw [if_neg (not_not_intro h2), b2i_t ⟨h1, h2⟩]
        · rw [if_pos h2, b2i_f (fun q => h2 q.2), b_X6_carrierOf_51]
      · rw [if_neg h1, b2i_f (fun q => h1 q.1), b_X6_carrierOf_51]
    have h77 : ∀ w : Int32, g_X6_carrierOf 52 [.ref 20, .int str, .int (nI v), .int twn, .int cod, .int (nI r), .null, .null] [.int w] S = g_X6_carrierOf 77 [.ref 20, .int str, .int (nI v), .int twn, .int cod, .int (nI r), .int w, .null] [.int (b2i (twn = -1 ∨ S.1 32 r = twn))] S := by
      intro w
      rw [b_X6_carrierOf_52]
      by_cases h1 : twn = -1
      · rw [if_pos h1, b2i_t (Or.inl h1), b_X6_carrierOf_72]
      · rw [if_neg h1, at_32]
        simp only [Option.bind_some, Option.toList_some, List.append_nil, b_X6_carrierOf_68]
        rw [av_nI (by omega) (by decide)]
        by_cases h2 : S.1 32 r = twn
        · rw [if_pos h2, b2i_t (Or.inr h2), b_X6_carrierOf_72]
        · rw [if_neg h2, b2i_f (fun q => q.elim h1 h2)]
    have h113 : g_X6_carrierOf 113 [.ref 20, .null, .null, .null, .null, .int (nI r), .null, .null] [] S = some (some (.int (S.1 33 r)), S) := by
      rw [b_X6_carrierOf_113, at_33]
      simp only [Option.bind_some, Option.toList_some, List.append_nil, b_X6_carrierOf_122]
      rw [av_nI (by omega) (by decide)]
    rw [h52, h77, b_X6_carrierOf_77, nI_1]
    by_cases h1 : S.1 28 r = str ∧ p_num S r v
    · rw [if_neg (by rw [b2i_t h1]; decide)]
      by_cases h2 : twn = -1 ∨ S.1 32 r = twn
      · rw [if_neg (by rw [b2i_t h2]; decide)]
        by_cases h3 : cod = -1
        · rw [if_pos h3, h113, if_pos ⟨h1, h2, Or.inl h3⟩]
        · rw [if_neg h3, at_32, av_nI (by omega) (by decide)]
          simp only [Option.bind_some, Option.toList_some, List.cons_append, List.nil_append, b_X6_carrierOf_105]
          have hc := X6_hasCode (t := cl (S.1 32 r)) (S := S) cod (by omega)
          rw [← t2] at hc
          rw [hc]
          simp only [Option.bind_some, Option.toList_some, List.append_nil, b_X6_carrierOf_110, b2i_z]
          rw [nI_1]
          by_cases h4 : ¬ cod < S.1 24 (cl (S.1 32 r)) ∧ ¬ S.1 25 (cl (S.1 32 r)) < cod
          · rw [if_neg (not_not_intro h4), h113, if_pos ⟨h1, h2, Or.inr h4⟩]
          · rw [if_pos h4, if_neg (fun q => q.2.2.elim h3 h4)]
      · rw [if_pos (b2i_f h2), if_neg (fun q => h2 q.2.1)]
    · rw [if_pos (b2i_f h1), if_neg (fun q => h1 q.1)]
  have key := lp_first (fun r => g_X6_carrierOf 15 [.ref 20, .int str, .int (nI v), .int twn, .int cod, .int (nI r), .null, .null] [] S) R (p_srv S str v twn cod) (fun r => some (some (.int (S.1 33 r)), S))
    (fun r hr hq => by rw [step r hr, if_pos hq]) (fun r hr hq => by rw [step r hr, if_neg hq])
  rw [nI_0] at key
  rcases key with ⟨r, h1, h2, h3, h4⟩ | ⟨h1, h2⟩
  · exact Or.inl ⟨r, h1, h2, h3, h4⟩
  · refine Or.inr ⟨h1, h2.trans ?_⟩
    rw [b_X6_carrierOf_15, s2, if_neg (nI_nlt (Nat.le_refl _) (by omega))]
theorem neg_m1 {x : Int32} (h : x = -1 ∨ ∃ v, v < 2 ^ 31 ∧ x = nI v) : x < 0 ↔ x = -1 := by
  rcases h with rfl | ⟨v, h1, rfl⟩
  · exact ⟨fun _ => rfl, fun _ => by decide⟩
  · exact ⟨fun q => absurd q (nI_pos h1), fun q => by have := nI_pos h1; rw [q] at this; exact absurd (by decide) this⟩
theorem i_rec_m1 {N Z T : Nat} (hN : N < 2 ^ 31) (hZ : Z < 2 ^ 31) (hT : T < 2 ^ 31) {sz : Nat → Int32} {h0 h1 h2 h3 h4 num let_ str unm usz twn cod : Int32} (h : i_rec N Z T sz h0 h1 h2 h3 h4 num let_ str unm usz twn cod) :
    (num = -1 ∨ ∃ v, v < 2 ^ 31 ∧ num = nI v) ∧ (str = -1 ∨ ∃ v, v < 2 ^ 31 ∧ str = nI v) ∧ (twn = -1 ∨ ∃ v, v < 2 ^ 31 ∧ twn = nI v) ∧ (cod = -1 ∨ ∃ v, v < 2 ^ 31 ∧ cod = nI v) := by
  obtain ⟨t1, t2, t3, t4, t5⟩ := h
  refine ⟨?_, ?_, ?_, ?_⟩
  · rcases t1 with ⟨-, ⟨v, v1, v2⟩, -⟩ | ⟨-, q, -⟩
    · exact Or.inr ⟨v, by omega, v2⟩
    · exact Or.inl q
  · rcases t2 with ⟨-, v, v1, v2⟩ | ⟨-, q⟩
    · exact Or.inr ⟨v, by omega, v2⟩
    · exact Or.inl q
  · rcases t4 with ⟨-, v, v1, v2⟩ | ⟨-, q⟩
    · exact Or.inr ⟨v, by omega, v2⟩
    · exact Or.inl q
  · rcases t5 with ⟨-, v, v1, v2⟩ | ⟨-, q⟩
    · exact Or.inr ⟨v, by omega, v2⟩
    · exact Or.inl q
theorem X12_serves {T R v r d : Nat} {S : a_M} (hT : T ≤ 20) (hTT : S.1 24 = S.1 72 ∧ S.1 25 = S.1 73) (hR : i_R T R S) (hv : v < 2 ^ 31) (hr : r < R) (hd : d < 40) (e86 : S.1 86 d = nI v) (e92 : S.1 92 d < 0 ↔ S.1 92 d = -1) (e93 : S.1 93 d < 0 ↔ S.1 93 d = -1) :
    x_X12_serves [.ref 56, .int (nI r), .int (nI d)] S = some (some (.int (b2i (p_srv S (S.1 88 d) v (S.1 92 d) (S.1 93 d) r))), S) := by
  obtain ⟨s1, s2, s3, s4, s5, s6, s7, s8, s9, s10⟩ := hR
  obtain ⟨t1, t2, t3, -⟩ := s10 r hr
  have cd : (nI d).toNatClampNeg = d := nI_clamp (by omega)
  have cr : (nI r).toNatClampNeg = r := nI_clamp (by omega)
  have nd : ¬ (nI d < 0 ∨ 40 ≤ d) := nI_out2 hd (by omega)
  have nr : ¬ (nI r < 0 ∨ 60 ≤ r) := nI_out2 (by omega) (by omega)
  rw [e_X12_serves, cd, cr, if_neg nd, if_neg nr, e86, ← s7]
  have hrem : nI v - nI v / 2 * 2 = nI (v % 2) := by rw [show (2 : Int32) = nI 2 from rfl]; exact pk_rem hv (by omega) (by decide)
  have hm2 : v % 2 < 2 := Nat.mod_lt _ (by omega)
  have h42 : (if S.1 31 r = 0 then g_X12_serves 37 [.ref 56, .int (nI r), .int (nI d), .int (nI v), .null, .null, .null] [] S else (if nI r < 0 ∨ 60 ≤ r then none else (if S.1 31 r = 1 then g_X12_serves 34 [.ref 56, .int (nI r), .int (nI d), .int (nI v), .null, .null, .null] [.int (1), .int (nI v - nI v / 2 * 2)] S else g_X12_serves 34 [.ref 56, .int (nI r), .int (nI d), .int (nI v), .null, .null, .null] [.int (0), .int (nI v - nI v / 2 * 2)] S))) = g_X12_serves 42 [.ref 56, .int (nI r), .int (nI d), .int (nI v), .null, .null, .null] [.int (b2i (S.1 31 r = 0 ∨ (S.1 31 r = 1 ↔ v % 2 = 1)))] S := by
    rw [hrem]
    rcases t3 with q | q | q
    · rw [if_pos q, b_X12_serves_37, b2i_t (Or.inl q)]
    · rw [if_neg (by rw [q]; decide), if_neg nr, if_pos q, b_X12_serves_34]
      by_cases h5 : v % 2 = 1
      · rw [if_pos (by rw [h5]; rfl), b_X12_serves_37, b2i_t (Or.inr ⟨fun _ => h5, fun _ => q⟩)]
      · rw [if_neg (show ¬ nI (v % 2) = 1 from nI_ne (b := 1) (by omega) (by decide) h5), b2i_f]
        rintro (q2 | q2)
        · rw [q] at q2; exact absurd q2 (by decide)
        · exact h5 (q2.mp q)
    · rw [if_neg (by rw [q]; decide), if_neg nr, if_neg (by rw [q]; decide), b_X12_serves_34]
      by_cases h5 : v % 2 = 1
      · rw [if_neg (by rw [h5]; decide), b2i_f]
        rintro (q2 | q2)
        · rw [q] at q2; exact absurd q2 (by decide)
        · have := q2.mpr h5; rw [q] at this; exact absurd this (by decide)
      · rw [if_pos (show nI (v % 2) = 0 by rw [show v % 2 = 0 by omega]; rfl), b_X12_serves_37, b2i_t (Or.inr ⟨fun q2 => by rw [q] at q2; exact absurd q2 (by decide), fun q2 => absurd q2 h5⟩)]
  rw [h42]
  generalize hsd : (b2i (S.1 31 r = 0 ∨ (S.1 31 r = 1 ↔ v % 2 = 1))) = sd
  have h112 : g_X12_serves 42 [.ref 56, .int (nI r), .int (nI d), .int (nI v), .null, .null, .null] [.int sd] S = g_X12_serves 112 [.ref 56, .int (nI r), .int (nI d), .int (nI v), .int sd, .null, .null] [.int (b2i ((S.1 92 d = -1 ∨ S.1 32 r = S.1 92 d) ∧ (S.1 93 d = -1 ∨ (¬ S.1 93 d < S.1 24 (cl (S.1 32 r)) ∧ ¬ S.1 25 (cl (S.1 32 r)) < S.1 93 d))))] S := by
    rw [b_X12_serves_42, cr, cd, if_neg nr, if_neg nd, if_neg nd, ← s8]
    have h72 : (S.1 92 d = -1 ∨ S.1 32 r = S.1 92 d) → g_X12_serves 72 [.ref 56, .int (nI r), .int (nI d), .int (nI v), .int sd, .int (S.1 32 r), .null] [] S = g_X12_serves 112 [.ref 56, .int (nI r), .int (nI d), .int (nI v), .int sd, .null, .null] [.int (b2i ((S.1 92 d = -1 ∨ S.1 32 r = S.1 92 d) ∧ (S.1 93 d = -1 ∨ (¬ S.1 93 d < S.1 24 (cl (S.1 32 r)) ∧ ¬ S.1 25 (cl (S.1 32 r)) < S.1 93 d))))] S := by
      intro hq
      rw [b_X12_serves_72, cd, if_neg nd, if_neg nd]
      by_cases h1 : S.1 93 d = -1
      · rw [if_pos (e93.mpr h1), b_X12_serves_107, b2i_t ⟨hq, Or.inl h1⟩]
      · have et : ¬ (S.1 32 r < 0 ∨ 20 ≤ (S.1 32 r).toNatClampNeg) := by
          rw [t2]; exact nI_out (by omega) (by decide)
        rw [if_neg (fun q => h1 (e93.mp q)), if_neg et, if_neg et, X12_in]
        simp only [Option.bind_some, Option.toList_some, List.append_nil, b_X12_serves_104, b2i_z]
        rw [← hTT.1, ← hTT.2]
        by_cases h2 : ¬ S.1 93 d < S.1 24 (cl (S.1 32 r)) ∧ ¬ S.1 25 (cl (S.1 32 r)) < S.1 93 d
        · rw [if_neg (not_not_intro h2), b_X12_serves_107, b2i_t ⟨hq, Or.inr h2⟩]
        · rw [if_pos h2, b_X12_serves_111, b2i_f (fun q => q.2.elim h1 h2)]
    by_cases h1 : S.1 92 d = -1
    · rw [if_pos (e92.mpr h1)]
      exact h72 (Or.inl h1)
    · rw [if_neg (fun q => h1 (e92.mp q))]
      by_cases h2 : S.1 92 d = S.1 32 r
      · rw [if_pos h2]
        exact h72 (Or.inr h2.symm)
      · rw [if_neg h2, b_X12_serves_111, b2i_f (fun q => q.1.elim h1 (fun q => h2 q.symm))]
  rw [h112, b_X12_serves_112, cr, cd, if_neg nr, if_neg nd, if_neg nr, if_neg nr, ← s4, ← s5, ← s6]
  by_cases h1 : S.1 28 r = S.1 88 d
  · rw [if_pos h1, X12_in]
    simp only [Option.bind_some, Option.toList_some, List.append_nil, b_X12_serves_145, b2i_z, ← hsd]
    by_cases h2 : ¬ nI v < S.1 29 r ∧ ¬ S.1 30 r < nI v
    · rw [if_neg (not_not_intro h2)]
      by_cases h3 : S.1 31 r = 0 ∨ (S.1 31 r = 1 ↔ v % 2 = 1)
      · rw [if_neg (not_not_intro h3)]
        by_cases h4 : (S.1 92 d = -1 ∨ S.1 32 r = S.1 92 d) ∧ (S.1 93 d = -1 ∨ (¬ S.1 93 d < S.1 24 (cl (S.1 32 r)) ∧ ¬ S.1 25 (cl (S.1 32 r)) < S.1 93 d))
        · rw [if_neg (not_not_intro h4), b2i_t ⟨⟨h1, h2.1, h2.2, h3⟩, h4⟩]
        · rw [if_pos h4, b2i_f (fun q => h4 q.2)]
      · rw [if_pos h3, b2i_f (fun q => h3 q.1.2.2.2)]
    · rw [if_pos h2, b2i_f (fun q => h2 ⟨q.1.2.1, q.1.2.2.1⟩)]
  · rw [if_neg h1, b2i_f (fun q => h1 q.1.1)]
theorem op_carrier (a : Int32) : i_Op (fun S => x_X11_carrier [.ref 0, .int a] S) (fun S => x_X12_carrier [.ref 56, .int a] S) := by
  rintro S ⟨⟨n, m, N, W, H, Z, T, U, R, G, D, hP⟩, hX⟩
  have hS : i_I S := ⟨⟨n, m, N, W, H, Z, T, U, R, G, D, hP⟩, hX⟩
  obtain ⟨d1, d2, d3, d4⟩ := hP.2.2.2.2.2.2.2.2.2.2
  have hN := hP.2.2.1.1
  have hZ := hP.2.2.2.2.1.1
  have hT := hP.2.2.2.2.2.1
  have hR := hP.2.2.2.2.2.2.2.1
  have m5 : x_X12_carrier [.ref 56, .int a] S = if ¬ ixp a D then some (some (.int (-2)), S) else g_X12_carrier 13 [.ref 56, .int a, .int (0)] [] S := by
    rw [e_X12_carrier, X12_isDelivery a (by omega) d3]
    simp only [Option.bind_some, Option.toList_some, List.append_nil, b_X12_carrier_5, b2i_z]
  dsimp only
  rw [e_X11_carrier, X1_has a d2]
  simp only [Option.bind_some, Option.toList_some, List.append_nil, b_X11_carrier_8, b2i_z]
  by_cases ha : ixp a D
  · rw [if_neg (not_not_intro ha)]
    rw [if_neg (not_not_intro ha)] at m5
    obtain ⟨d, hd, rfl⟩ := ixp_of (by omega) ha
    obtain ⟨r1, r2, r3, r4, r5, r6, r7, r8, r9, r10, t⟩ := d4 d hd
    obtain ⟨n1, n2, n3, n4⟩ := i_rec_m1 (by omega) (by omega) (by have := hT.1; omega) t
    have hg : ∀ f, f < 17 → x_X1_get [.ref 38, .int (nI d), .int (nI f)] S = some (some (.int (S.1 39 (d * 17 + f))), S) := fun f hf => X1_get (by omega) hf
    rw [show (7 : Int32) = nI 7 from rfl, hg 7 (by decide)]
    simp only [Option.bind_some, Option.toList_some, List.cons_append, List.nil_append, b_X11_carrier_28]
    rw [show (5 : Int32) = nI 5 from rfl, hg 5 (by decide)]
    simp only [Option.bind_some, Option.toList_some, List.cons_append, List.nil_append, b_X11_carrier_37]
    rw [show (10 : Int32) = nI 10 from rfl, hg 10 (by decide)]
    simp only [Option.bind_some, Option.toList_some, List.cons_append, List.nil_append, b_X11_carrier_47]
    rw [show (11 : Int32) = nI 11 from rfl, hg 11 (by decide)]
    simp only [Option.bind_some, Option.toList_some, List.cons_append, List.nil_append, b_X11_carrier_57]
    rw [r2, r4, r7, r8]
    have cd : (nI d).toNatClampNeg = d := nI_clamp (by omega)
    have nd : ¬ (nI d < 0 ∨ 40 ≤ d) := nI_out2 (by omega) (by omega)
    have none_ : (S.1 88 d = -1 ∨ S.1 86 d = -1) → x_X12_carrier [.ref 56, .int (nI d)] S = some (some (.int (-1)), S) := by
      intro hq
      rw [m5, b_X12_carrier_13, cd, if_neg nd, if_neg nd]
      by_cases h0 : (0 : Int32) < S.1 56 26
      · rw [if_pos h0]
        by_cases h1 : S.1 88 d < 0
        · rw [if_pos h1]
        · rw [if_neg h1, if_pos ((neg_m1 n1).mpr (hq.resolve_left (fun q => h1 ((neg_m1 n2).mpr q))))]
      · rw [if_neg h0]
    by_cases h88 : S.1 88 d = -1
    · rw [e_X6_carrierOf, if_pos h88]
      simp only [Option.bind_some, Option.toList_some, List.append_nil, b_X11_carrier_60]
      exact ⟨_, S, S, rfl, none_ (Or.inl h88), hS⟩
    rcases n1 with h86 | ⟨v, hv, h86⟩
    · rw [e_X6_carrierOf, if_neg h88, if_pos h86]
      simp only [Option.bind_some, Option.toList_some, List.append_nil, b_X11_carrier_60]
      exact ⟨_, S, S, rfl, none_ (Or.inr h86), hS⟩
    rw [h86]
    have step : ∀ r, r < R → g_X12_carrier 13 [.ref 56, .int (nI d), .int (nI r)] [] S = if p_srv S (S.1 88 d) v (S.1 92 d) (S.1 93 d) r then some (some (.int (S.1 33 r)), S) else g_X12_carrier 13 [.ref 56, .int (nI d), .int (nI (r + 1))] [] S := by
      intro r hr
      have hr60 := hR.1
      rw [b_X12_carrier_13, cd, if_neg nd, if_neg nd, hR.2.2.1, if_pos (nI_lt hr (by omega)), if_neg (fun q => h88 ((neg_m1 n2).mp q)), if_neg (by rw [h86]; exact nI_pos hv), X12_serves hT.1 ⟨hT.2.2.2.2.1, hT.2.2.2.2.2.1⟩ hR hv hr (by omega) h86 (neg_m1 n3) (neg_m1 n4)]
      simp only [Option.bind_some, Option.toList_some, List.append_nil, b_X12_carrier_45, b2i_z]
      rw [if_neg (nI_out (by omega) (by decide)), nI_clamp (by omega), nI_1, ← hR.2.2.2.2.2.2.2.2.1]
      by_cases hq : p_srv S (S.1 88 d) v (S.1 92 d) (S.1 93 d) r
      · rw [if_neg (not_not_intro hq), if_pos hq]
      · rw [if_pos hq, if_neg hq]
    have key := lp_first (fun r => g_X12_carrier 13 [.ref 56, .int (nI d), .int (nI r)] [] S) R (p_srv S (S.1 88 d) v (S.1 92 d) (S.1 93 d)) (fun r => some (some (.int (S.1 33 r)), S))
      (fun r hr hq => by rw [step r hr, if_pos hq]) (fun r hr hq => by rw [step r hr, if_neg hq])
    rw [nI_0, ← m5] at key
    rcases X6_carrierOf (S.1 88 d) (S.1 92 d) (S.1 93 d) hT.1 hR hv h88 with ⟨r, c1, c2, c3, c4⟩ | ⟨c1, c2⟩
    · rw [c4]
      simp only [Option.bind_some, Option.toList_some, List.append_nil, b_X11_carrier_60]
      refine ⟨_, S, S, rfl, ?_, hS⟩
      rcases key with ⟨r', k1, k2, k3, k4⟩ | ⟨k1, -⟩
      · have : r' = r := by
          rcases Nat.lt_trichotomy r' r with h | h | h
          · exact absurd k2 (c3 r' h)
          · exact h
          · exact absurd c2 (k3 r h)
        rw [k4, this]
      · exact absurd c2 (k1 r c1)
    · rw [c2]
      simp only [Option.bind_some, Option.toList_some, List.append_nil, b_X11_carrier_60]
      refine ⟨_, S, S, rfl, ?_, hS⟩
      rcases key with ⟨r', k1, k2, k3, k4⟩ | ⟨-, k2⟩
      · exact absurd k2 (c1 r' k1)
      · rw [k2, b_X12_carrier_13, hR.2.2.1, if_neg (nI_nlt (Nat.le_refl _) (by have := hR.1; omega))]
  · rw [if_pos ha]
    exact ⟨_, S, S, rfl, by rw [m5, if_pos ha], hS⟩
