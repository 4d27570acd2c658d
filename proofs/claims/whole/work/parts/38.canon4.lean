/-! ===== canonical ===== -/
/-- what is written of the parts before p -/
def wr (S : a_M) (d : Nat) : Nat → List Int32
  | 0 => []
  | p + 1 => if S.1 85 (5 * d + p) = 1 then wr S d p ++ ((if 0 < (wr S d p).length then [32] else []) ++ partl S d p) else wr S d p
/-- how long what is written of the parts before p may be -/
def wlb : Nat → Nat
  | 0 => 0
  | 1 => 7
  | 2 => 140
  | 3 => 183
  | 4 => 316
  | _ => 322
theorem wlb_le (p : Nat) : wlb p ≤ 322 := by
  unfold wlb
  split <;> omega
theorem wlb_5 (p : Nat) (hp : p < 5) : wlb p + 1 + (if p = 0 then 6 else if p = 2 then 42 else if p = 4 then 5 else 132) ≤ wlb (p + 1) ∧ wlb p ≤ wlb (p + 1) ∧ wlb p + 1 + (if p = 0 then 6 else if p = 2 then 42 else if p = 4 then 5 else 132) ≤ 397 := by
  have : p = 0 ∨ p = 1 ∨ p = 2 ∨ p = 3 ∨ p = 4 := by omega
  rcases this with rfl | rfl | rfl | rfl | rfl <;> decide
theorem wr_len {N W Z T D d : Nat} {S : a_M} (hB : i_B N W S) (hZ : i_Z N Z S) (hT : i_T N T S) (hD : i_D N Z T D S) (hd : d < D) : ∀ p, p ≤ 5 → (wr S d p).length ≤ wlb p := by
  intro p
  induction p with
  | zero => intro _; exact Nat.le_refl 0
  | succ p ih =>
    intro hp
    have h1 := ih (by omega)
    show (if S.1 85 (5 * d + p) = 1 then _ else _ : List Int32).length ≤ _
    by_cases hh : S.1 85 (5 * d + p) = 1
    · rw [if_pos hh]
      have h2 := (parts_ok hB hZ hT hD hd (show p < 5 by omega) hh).1
      rw [List.length_append, List.length_append]
      have h3 : (if 0 < (wr S d p).length then [32] else [] : List Int32).length ≤ 1 := by split <;> simp
      have h4 := wlb_5 p (by omega)
      omega
    · rw [if_neg hh]
      have h4 := wlb_5 p (by omega)
      omega
theorem X9_writel {N W Z T D d : Nat} {S : a_M} (hB : i_B N W S) (hZ : i_Z N Z S) (hT : i_T N T S) (hD : i_D N Z T D S) (hd : d < D) : ∀ e p V, p + e = 5 → wc S (wr S d p) V → ∃ V', g_X9_write 7 [.ref 54, .int (nI d), .int (nI p)] [] V = some (none, V') ∧ wc S (wr S d 5) V' := by
  have hDD := hD
  obtain ⟨d1, d2, d3, d4⟩ := hDD
  obtain ⟨r1, r2, r3, r4, r5, r6, r7, r8, r9, r10, t⟩ := d4 d hd
  have h01 : ∀ p, p < 5 → S.1 85 (5 * d + p) = 0 ∨ S.1 85 (5 * d + p) = 1 := by
    obtain ⟨t0, t1, t2, t3, t4⟩ := i_rec_01 t
    intro p hp
    have : p = 0 ∨ p = 1 ∨ p = 2 ∨ p = 3 ∨ p = 4 := by omega
    rcases this with rfl | rfl | rfl | rfl | rfl <;> assumption
  intro e
  induction e with
  | zero =>
    intro p V h1 h
    obtain rfl : p = 5 := by omega
    rw [b_X9_write_7, if_neg (by decide)]
    exact ⟨V, rfl, h⟩
  | succ e ih =>
    intro p V h1 h
    have hp : p < 5 := by omega
    have hlen := wr_len hB hZ hT hD hd p (by omega)
    have hlen2 : (wr S d p).length ≤ 322 := Nat.le_trans hlen (wlb_le p)
    rw [b_X9_write_7, if_pos (show nI p < 5 from nI_lt (b := 5) hp (by decide)), X1_get (by omega) (by omega), h.1 39 (by decide) (by decide), r1 p hp]
    simp only [Option.bind_some, Option.toList_some, List.append_nil, b_X9_write_21]
    by_cases hh : S.1 85 (5 * d + p) = 1
    · rw [if_pos hh, h.2.2.1]
      have hw : wr S d (p + 1) = wr S d p ++ ((if 0 < (wr S d p).length then [32] else []) ++ partl S d p) := by
        show (if S.1 85 (5 * d + p) = 1 then _ else _ : List Int32) = _
        rw [if_pos hh]
      obtain ⟨-, q2, -⟩ := parts_ok hB hZ hT hD hd hp hh
      have h41 : ∀ out V1, wc S out V1 → out.length ≤ 400 → out ++ partl S d p = wr S d (p + 1) → ∃ V', g_X9_write 41 [.ref 54, .int (nI d), .int (nI p)] [] V1 = some (none, V') ∧ wc S (wr S d 5) V' := by
        intro out V1 g1 g2 g3
        obtain ⟨V2, f1, f2⟩ := q2 out V1 g1 g2
        rw [b_X9_write_41, f1]
        simp only [Option.bind_some, Option.toList_none, List.append_nil, b_X9_write_47]
        rw [nI_1]
        rw [g3] at f2
        exact ih (p + 1) V2 (by omega) f2
      have hz : (0 : Int32) < nI (wr S d p).length ↔ 0 < (wr S d p).length := by rw [← nI_0]; exact nI_ltI (by decide) (by omega)
      by_cases h0 : 0 < (wr S d p).length
      · rw [if_pos (hz.mpr h0)]
        obtain ⟨V1, f1, f2⟩ := X9_writeUnit 32 h (by omega)
        rw [f1]
        simp only [Option.bind_some, Option.toList_none, List.append_nil]
        refine h41 _ V1 f2 (by rw [List.length_append, List.length_singleton]; omega) ?_
        rw [hw, if_pos h0, List.append_assoc]
      · rw [if_neg (fun q => h0 (hz.mp q))]
        refine h41 _ V h (by omega) ?_
        rw [hw, if_neg h0, List.nil_append]
    · rw [if_neg hh, nI_1]
      have hw : wr S d (p + 1) = wr S d p := by
        show (if S.1 85 (5 * d + p) = 1 then _ else _ : List Int32) = _
        rw [if_neg hh]
      exact ih (p + 1) V (by omega) (by rw [hw]; exact h)
theorem X12_writel {N W Z T D d : Nat} {S : a_M} (hB : i_B N W S) (hZ : i_Z N Z S) (hT : i_T N T S) (hD : i_D N Z T D S) (hd : d < D) : ∀ e p V, p + e = 5 → wm S (wr S d p) V →
    ∃ V', g_X12_canonical 18 [.ref 56, .int (nI d), .int (nI p)] [] V = g_X12_canonical 18 [.ref 56, .int (nI d), .int 5] [] V' ∧ wm S (wr S d 5) V' := by
  have hDD := hD
  obtain ⟨d1, d2, d3, d4⟩ := hDD
  obtain ⟨r1, r2, r3, r4, r5, r6, r7, r8, r9, r10, t⟩ := d4 d hd
  have h01 : ∀ p, p < 5 → S.1 85 (5 * d + p) = 0 ∨ S.1 85 (5 * d + p) = 1 := by
    obtain ⟨t0, t1, t2, t3, t4⟩ := i_rec_01 t
    intro p hp
    have : p = 0 ∨ p = 1 ∨ p = 2 ∨ p = 3 ∨ p = 4 := by omega
    rcases this with rfl | rfl | rfl | rfl | rfl <;> assumption
  intro e
  induction e with
  | zero =>
    intro p V h1 h
    obtain rfl : p = 5 := by omega
    exact ⟨V, rfl, h⟩
  | succ e ih =>
    intro p V h1 h
    have hp : p < 5 := by omega
    have hlen := wr_len hB hZ hT hD hd p (by omega)
    rw [b_X12_canonical_18, if_pos (show nI p < 5 from nI_lt (b := 5) hp (by decide)), show (5 : Int32) * nI d + nI p = nI (5 * d + p) by rw [show (5 : Int32) = nI 5 from rfl, pk_mul, nI_add], if_neg (nI_out (by omega) (by decide)), nI_clamp (by omega), h.1 85 (by decide) (by decide), nI_1]
    by_cases hh : S.1 85 (5 * d + p) = 1
    · rw [if_neg (by rw [hh]; decide), h.2.2.2.1]
      have hw : wr S d (p + 1) = wr S d p ++ ((if 0 < (wr S d p).length then [32] else []) ++ partl S d p) := by
        show (if S.1 85 (5 * d + p) = 1 then _ else _ : List Int32) = _
        rw [if_pos hh]
      obtain ⟨-, -, q2⟩ := parts_ok hB hZ hT hD hd hp hh
      have h49 : ∀ out V1, wm S out V1 → out.length ≤ (wr S d p).length + 1 → out ++ partl S d p = wr S d (p + 1) → ∃ V', g_X12_canonical 49 [.ref 56, .int (nI d), .int (nI p)] [] V1 = g_X12_canonical 18 [.ref 56, .int (nI d), .int 5] [] V' ∧ wm S (wr S d 5) V' := by
        intro out V1 g1 g2 g3
        obtain ⟨V2, f1, f2⟩ := q2 out V1 g1 (by have h4 := wlb_5 p hp; omega)
        rw [b_X12_canonical_49, f1]
        simp only [Option.bind_some, Option.toList_none, List.append_nil, b_X12_canonical_55]
        rw [nI_1]
        rw [g3] at f2
        exact ih (p + 1) V2 (by omega) f2
      have hz : (0 : Int32) < nI (wr S d p).length ↔ 0 < (wr S d p).length := by
        rw [← nI_0]
        exact nI_ltI (by decide) (by have := h.2.2.2.2.1; omega)
      by_cases h0 : 0 < (wr S d p).length
      · rw [if_pos (hz.mpr h0)]
        have hlen2 : (wr S d p).length ≤ 322 := Nat.le_trans hlen (wlb_le p)
        obtain ⟨V1, f1, f2⟩ := X12_write 32 h (by omega)
        rw [f1]
        simp only [Option.bind_some, Option.toList_none, List.append_nil]
        rw [sg_u_1 (by decide)] at f2
        refine h49 _ V1 f2 (by rw [List.length_append, List.length_singleton]; omega) ?_
        rw [hw, if_pos h0, List.append_assoc]
      · rw [if_neg (fun q => h0 (hz.mp q))]
        refine h49 _ V h (by omega) ?_
        rw [hw, if_neg h0, List.nil_append]
    · rw [if_pos ((h01 p hp).resolve_right hh)]
      have hw : wr S d (p + 1) = wr S d p := by
        show (if S.1 85 (5 * d + p) = 1 then _ else _ : List Int32) = _
        rw [if_neg hh]
      exact ih (p + 1) V (by omega) (by rw [hw]; exact h)
/-- a row over another -/
def ovr (out : List Int32) (i : Nat) (u : Nat → Int32) : Nat → Int32 := fun x => if x < i then (out[x]?).getD 0 else u x
theorem X11_canl {S0 : a_M} {out : List Int32} {u : Nat → Int32} (hl : out.length ≤ 120) : ∀ e i V, i + e = out.length → V.1 54 4 = nI out.length → (∀ i, i < out.length → out[i]? = some (V.1 55 i)) → V.1 1 1 = nI i → V.1 2 = ovr out i u → (∀ c, c ≠ 0 → c ≠ 1 → c ≠ 2 → V.1 c = S0.1 c) → V.2 = S0.2 →
    ∃ V', g_X11_canonical 46 [.ref 0, .null, .int (nI i)] [] V = some (some (.int (nI out.length)), V') ∧ V'.1 0 10 = 0 ∧ V'.1 1 1 = nI out.length ∧ V'.1 2 = ovr out out.length u ∧ (∀ c, c ≠ 0 → c ≠ 1 → c ≠ 2 → V'.1 c = S0.1 c) ∧ V'.2 = S0.2 := by
  intro e
  induction e with
  | zero =>
    intro i V h1 h2 h3 h4 h5 h6 h7
    obtain rfl : i = out.length := by omega
    rw [b_X11_canonical_46, h2, if_neg (nI_nlt (Nat.le_refl _) (by omega)), h4]
    exact ⟨_, rfl, wi_v _ _ _ _, by rw [wi_n (by decide)]; exact h4, by rw [wi_n (by decide)]; exact h5, fun c c0 c1 c2 => by rw [wi_n c0]; exact h6 c c0 c1 c2, h7⟩
  | succ e ih =>
    intro i V h1 h2 h3 h4 h5 h6 h7
    rw [b_X11_canonical_46, h2, if_pos (nI_lt (by omega) (by omega)), e_X9_get, h2, if_pos (nI_lt (by omega) (by omega)), at_55, av_nI (by omega) (by decide)]
    simp only [Option.bind_some, Option.toList_some, List.append_nil, b_X9_get_16, List.cons_append, List.nil_append, b_X11_canonical_69]
    rw [e_X5_append, h4, if_pos (show nI i < 120 from nI_lt (b := 120) (by omega) (by decide)), put_2, pv_nI (by omega) (by decide)]
    simp only [Option.bind_some, Option.toList_none, List.append_nil, b_X5_append_22, b_X11_canonical_72]
    rw [wi_n (a := 1) (by decide), h4, nI_1]
    refine ih (i + 1) _ (by omega) ?_ (fun j hj => ?_) (wi_v _ _ _ _) ?_ (fun c c0 c1 c2 => by rw [wi_n c1, wi_n c2]; exact h6 c c0 c1 c2) h7
    · rw [wi_n (by decide), wi_n (by decide)]; exact h2
    · rw [wi_n (by decide), wi_n (by decide)]; exact h3 j hj
    · rw [wi_n (by decide), wi_e, h5]
      funext x
      rw [up_x]
      unfold ovr
      by_cases ex : x = i
      · rw [if_pos ex, if_pos (by omega), ex, h3 i (by omega)]; rfl
      · rw [if_neg ex]
        by_cases ex2 : x < i
        · rw [if_pos ex2, if_pos (by omega)]
        · rw [if_neg ex2, if_neg (by omega)]
theorem X12_canl {S0 : a_M} {out : List Int32} {u : Nat → Int32} (hl : out.length ≤ 120) : ∀ e i V, i + e = out.length → V.1 56 63 = nI out.length → (∀ i, i < out.length → out[i]? = some (V.1 102 i)) → V.1 57 = ovr out i u → (∀ c, c ≠ 57 → V.1 c = S0.1 c) → V.2 = S0.2 →
    ∃ V', g_X12_canonical 75 [.ref 56, .null, .int (nI i)] [] V = some (some (.int (nI out.length)), V') ∧ V'.1 56 1 = nI out.length ∧ V'.1 57 = ovr out out.length u ∧ (∀ j, j ≠ 1 → V'.1 56 j = S0.1 56 j) ∧ (∀ c, c ≠ 56 → c ≠ 57 → V'.1 c = S0.1 c) ∧ V'.2 = S0.2 := by
  intro e
  induction e with
  | zero =>
    intro i V h1 h2 h3 h5 h6 h7
    obtain rfl : i = out.length := by omega
    rw [b_X12_canonical_75, h2, if_neg (nI_nlt (Nat.le_refl _) (by omega))]
    exact ⟨_, rfl, wi_v _ _ _ _, by rw [wi_n (by decide)]; exact h5, fun j hj => by rw [wi_s hj, h6 56 (by decide)], fun c c0 c1 => by rw [wi_n c0]; exact h6 c c1, h7⟩
  | succ e ih =>
    intro i V h1 h2 h3 h5 h6 h7
    rw [b_X12_canonical_75, h2, if_pos (nI_lt (by omega) (by omega)), if_neg (nI_out (by omega) (by decide)), if_neg (nI_out (by omega) (by decide)), nI_clamp (by omega), nI_1]
    refine ih (i + 1) _ (by omega) ?_ (fun j hj => ?_) ?_ (fun c c0 => by rw [wi_n c0]; exact h6 c c0) h7
    · rw [wi_n (by decide)]; exact h2
    · rw [wi_n (by decide)]; exact h3 j hj
    · rw [wi_e, h5]
      funext x
      rw [up_x]
      unfold ovr
      by_cases ex : x = i
      · rw [if_pos ex, if_pos (by omega), ex, h3 i (by omega)]; rfl
      · rw [if_neg ex]
        by_cases ex2 : x < i
        · rw [if_pos ex2, if_pos (by omega)]
        · rw [if_neg ex2, if_neg (by omega)]
theorem op_canonical (a : Int32) : i_Op (fun S => x_X11_canonical [.ref 0, .int a] S) (fun S => x_X12_canonical [.ref 56, .int a] S) := by
  rintro S ⟨⟨n, m, N, W, H, Z, T, U, R, G, D, hP⟩, hX⟩
  have hS : i_I S := ⟨⟨n, m, N, W, H, Z, T, U, R, G, D, hP⟩, hX⟩
  obtain ⟨d1, d2, d3, d4⟩ := hP.2.2.2.2.2.2.2.2.2.2
  have m5 : ∀ S1 : a_M, S1.1 56 40 = nI D → x_X12_canonical [.ref 56, .int a] S1 = if ¬ ixp a D then some (some (.int (-2)), S1) else g_X12_canonical 18 [.ref 56, .int a, .int 0] [] (a_wi S1 56 63 0) := by
    intro S1 q
    rw [e_X12_canonical, X12_isDelivery a (by omega) q]
    simp only [Option.bind_some, Option.toList_some, List.append_nil, b_X12_canonical_5, b2i_z]
  dsimp only
  rw [e_X11_canonical, X1_has a d2]
  simp only [Option.bind_some, Option.toList_some, List.append_nil, b_X11_canonical_8, b2i_z]
  by_cases ha : ixp a D
  · rw [if_neg (not_not_intro ha)]
    obtain ⟨d, hd, rfl⟩ := ixp_of (by omega) ha
    have hB := hP.2.2.1
    have hZ := hP.2.2.2.2.1
    have hT := hP.2.2.2.2.2.1
    have hD := hP.2.2.2.2.2.2.2.2.2.2
    have hw0 : wc S (wr S d 0) (a_wi S 54 4 0) := ⟨fun c c1 _ => wi_n c1, rfl, by rw [wi_v]; exact nI_0.symm, fun i _ hi => absurd hi (Nat.not_lt_zero _)⟩
    obtain ⟨V, f1, f2⟩ := X9_writel hB hZ hT hD hd 5 0 _ (by omega) hw0
    rw [nI_0] at f1
    rw [e_X9_write, f1]
    simp only [Option.bind_some, Option.toList_none, List.append_nil, b_X11_canonical_22]
    obtain ⟨v1, v2, v3, v4⟩ := f2
    have hlen : (wr S d 5).length ≤ 322 := wr_len hB hZ hT hD hd 5 (by omega)
    obtain ⟨out, ho⟩ : ∃ out, out = wr S d 5 := ⟨_, rfl⟩
    rw [← ho] at v3 v4 hlen
    rw [v3]
    have mr : ∀ S1 : a_M, (∀ c, 12 ≤ c → c ≠ 54 → c ≠ 55 → S1.1 c = S.1 c) → ∃ V', x_X12_canonical [.ref 56, .int (nI d)] S1 = (if (120 : Int32) < nI out.length then some (some (.int (-8)), V') else g_X12_canonical 75 [.ref 56, .null, .int 0] [] V') ∧ (∀ c, c ≠ 56 → c ≠ 102 → V'.1 c = S1.1 c) ∧ V'.2 = S1.2 ∧ (∀ j, j ≠ 63 → V'.1 56 j = S.1 56 j) ∧ V'.1 56 63 = nI out.length ∧ ∀ i, i < out.length → out[i]? = some (V'.1 102 i) := by
      intro S1 e
      have e56 := e 56 (by decide) (by decide) (by decide)
      have hB1 : i_B N W S1 := by unfold i_B at hB ⊢; simp (disch := decide) only [e]; exact hB
      have hZ1 : i_Z N Z S1 := by unfold i_Z at hZ ⊢; simp (disch := decide) only [e]; exact hZ
      have hT1 : i_T N T S1 := by unfold i_T at hT ⊢; simp (disch := decide) only [e]; exact hT
      have hD1 : i_D N Z T D S1 := by unfold i_D at hD ⊢; simp (disch := decide) only [e]; exact hD
      have hw : ∀ p, wr S1 d p = wr S d p := by
        intro p
        induction p with
        | zero => rfl
        | succ p ih =>
          show (if S1.1 85 (5 * d + p) = 1 then wr S1 d p ++ ((if 0 < (wr S1 d p).length then [32] else []) ++ partl S1 d p) else wr S1 d p) = (if S.1 85 (5 * d + p) = 1 then wr S d p ++ ((if 0 < (wr S d p).length then [32] else []) ++ partl S d p) else wr S d p)
          rw [ih, partl_c e, e 85 (by decide) (by decide) (by decide)]
      rw [m5 S1 (by rw [e56]; exact d3), if_neg (not_not_intro ha)]
      have hm0 : wm S1 (wr S1 d 0) (a_wi S1 56 63 0) := ⟨fun c c1 _ => wi_n c1, rfl, fun j hj => wi_s hj, by rw [wi_v]; exact nI_0.symm, Nat.zero_le _, fun i hi => absurd hi (Nat.not_lt_zero _)⟩
      obtain ⟨V', j1, j2⟩ := X12_writel hB1 hZ1 hT1 hD1 hd 5 0 _ (by omega) hm0
      rw [nI_0] at j1
      rw [hw 5, ← ho] at j2
      obtain ⟨k1, k2, k3, k4, k5, k6⟩ := j2
      refine ⟨V', ?_, k1, k2, fun j hj => by rw [k3 j hj, e56], k4, k6⟩
      rw [j1, b_X12_canonical_18, if_neg (by decide), k4]
    have hVS : i_S S V := ⟨fun k a _ => v1 k (by omega) (by omega), fun k a b _ => v1 k (by omega) (by omega), by rw [v1 45 (by decide) (by decide)], by rw [v2], fun k a b _ _ _ => v1 k (by omega) (by omega), fun j _ _ _ _ _ _ => by rw [v1 56 (by decide) (by decide)]⟩
    by_cases h120 : 120 < out.length
    · rw [if_pos (show (120 : Int32) < nI out.length from nI_lt (a := 120) h120 (by omega))]
      obtain ⟨V', j1, j2, j3, j4, j5, j6⟩ := mr V (fun c _ c2 c3 => v1 c c2 c3)
      refine ⟨_, V, V', rfl, by rw [j1, if_pos (show (120 : Int32) < nI out.length from nI_lt (a := 120) h120 (by omega))], ⟨n, m, N, W, H, Z, T, U, R, G, D, i_P_S (i_S_tr hVS ?_) hP⟩, ?_⟩
      · exact ⟨fun k a _ => j2 k (by omega) (by omega), fun k a b _ => j2 k (by omega) (by omega), by rw [j2 45 (by decide) (by decide)], by rw [j3], fun k a b _ _ _ => j2 k (by omega) (by omega), fun j _ _ _ _ _ h63 => by rw [j4 j h63, v1 56 (by decide) (by decide)]⟩
      · exact i_text_w hX (fun c hc => by rw [j2 c (by omega) (by omega), v1 c (by omega) (by omega)])
    · have hle : out.length ≤ 120 := by omega
      have hn120 : ¬ (120 : Int32) < nI out.length := fun q => h120 ((nI_ltI (a := 120) (by decide) (by omega)).mp q)
      rw [if_neg hn120, e_X5_clear]
      simp only [Option.bind_some, Option.toList_none, List.append_nil, b_X11_canonical_44]
      obtain ⟨V1, g1, g2, g3, g4, g5, g6⟩ := X11_canl (S0 := V) (u := S.1 2) hle out.length 0 (a_wi V 1 1 0) (by omega) (by rw [wi_n (by decide)]; exact v3) (fun i hi => by rw [wi_n (by decide)]; exact v4 i (by omega) hi) (by rw [wi_v]; exact nI_0.symm) (by rw [wi_n (by decide), v1 2 (by decide) (by decide)]; rfl) (fun c c0 c1 c2 => wi_n c1) rfl
      rw [nI_0] at g1
      rw [g1]
      obtain ⟨V', j1, j2, j3, j4, j5, j6⟩ := mr V1 (fun c c1 c2 c3 => by rw [g5 c (by omega) (by omega) (by omega), v1 c c2 c3])
      obtain ⟨l1, l2, l3, l4⟩ := hP.1
      have e57 : V'.1 57 = ovr out 0 (S.1 2) := by
        rw [j2 57 (by decide) (by decide), g5 57 (by decide) (by decide) (by decide), v1 57 (by decide) (by decide), ← l4]
        rfl
      obtain ⟨V2, k1, k2, k3, k4, k5, k6⟩ := X12_canl (S0 := V') (u := S.1 2) hle out.length 0 V' (by omega) j5 j6 e57 (fun _ _ => rfl) rfl
      rw [nI_0] at k1
      have low : ∀ c, c < 54 → c ≠ 0 → c ≠ 1 → c ≠ 2 → V2.1 c = S.1 c := fun c hc c0 c1 c2 => by rw [k5 c (by omega) (by omega), j2 c (by omega) (by omega), g5 c c0 c1 c2, v1 c (by omega) (by omega)]
      refine ⟨_, V1, V2, rfl, by rw [j1, if_neg hn120, k1], i_I_line3 hP (k := out.length) hle ?_ k2 ?_ ?_ (fun c c1 c2 => low c (by omega) (by omega) (by omega) (by omega)) (fun c c1 c2 _ => low c (by omega) (by omega) (by omega) (by omega)) (by rw [low 45 (by decide) (by decide) (by decide) (by decide)]) (by rw [k6, j3, g6, v2]) (fun c c1 c2 _ _ _ => ?_) (fun j q1 _ _ _ _ _ q63 => ?_)⟩
      · rw [k5 1 (by decide) (by decide), j2 1 (by decide) (by decide)]; exact g3
      · rw [k5 2 (by decide) (by decide), j2 2 (by decide) (by decide), g4, k3]
      · rw [k5 0 (by decide) (by decide), j2 0 (by decide) (by decide)]; exact g2
      · rw [k5 c (by omega) (by omega), j2 c (by omega) (by omega), g5 c (by omega) (by omega) (by omega), v1 c (by omega) (by omega)]
      · rw [k4 j q1, j4 j q63]
  · rw [if_pos ha]
    exact ⟨_, S, S, rfl, by rw [m5 S d3, if_pos ha], hS⟩
