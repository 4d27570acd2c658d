/-! ===== the reference's cost of a name ===== -/
def c95 (B T : a_M) : Prop := (∀ c, c ≠ 95 → T.1 c = B.1 c) ∧ T.2 = B.2
theorem c95_B {N W : Nat} {B T : a_M} (e : c95 B T) (hB : i_B N W B) : i_B N W T := by
  unfold i_B at hB ⊢
  simp (disch := decide) only [e.1]
  exact hB
theorem c95_H {N H : Nat} {B T : a_M} (e : c95 B T) (hH : i_H N H B) : i_H N H T := by
  unfold i_H at hH ⊢
  simp (disch := decide) only [e.1]
  exact hH
theorem c95_w {P : q_P} {B T : a_M} (e : c95 B T) (hm : m_w P B) : m_w P T := by
  intro k hk
  rw [e.1 61 (by decide), e.1 62 (by decide), e.1 63 (by decide)]
  exact hm k hk
/-- word t of the line against the word at place j of name a, as the reference asks it -/
theorem X12_isW {P : q_P} {B T : a_M} {N W t a j : Nat} (ok : q_ok P) (hB : i_B N W B) (hm : m_w P B) (hT : c95 B T) (ht : t < P.1) (ha : a < N) (hj : j < b_sz B a) : x_X12_isWordOf [.ref 56, .int (nI t), .int (nI a), .int (nI j)] T = some (some (.int (b2i (wlike P B t (b_id B a j)))), T) := by
  have hN := hB.1
  have h4 : b_sz B a ≤ 4 := (hB.2.2.2.2.2.2.1 a ha).2.1
  obtain ⟨l1, l2, l3⟩ := mlen hB ha hj
  have hi := mlike_iff (P := P) (t := t) hB ha hj
  have h := X12_isWordOf (S := T) (t := t) (k := a) (j := j) ok (c95_w hT hm) ht (by omega) (by omega) (by rw [hT.1 65 (by decide)]; exact l1) (by rw [hT.1 65 (by decide)]; exact l2)
  have hi2 : mlike P T t (a * 4 + j) ↔ wlike P B t (b_id B a j) := by
    unfold mlike at hi ⊢
    rw [hT.1 65 (by decide), hT.1 66 (by decide)]
    exact hi
  rw [h, b2i_c hi2]
theorem X12_isS {P : q_P} {B T : a_M} {N W t a j : Nat} (ok : q_ok P) (hB : i_B N W B) (hm : m_w P B) (hT : c95 B T) (ht : t < P.1) (ha : a < N) (hj : j < b_sz B a) : x_X12_isSlip [.ref 56, .int (nI t), .int (nI a), .int (nI j)] T = some (some (.int (b2i (slp P t (cl (B.1 14 (b_id B a j))) (fun i => B.1 13 (b_id B a j * 16 + i))))), T) := by
  have hN := hB.1
  have h4 : b_sz B a ≤ 4 := (hB.2.2.2.2.2.2.1 a ha).2.1
  obtain ⟨a1, a2, a3, a4⟩ := hB.2.2.2.2.2.2.2.1 a j ha hj
  obtain ⟨l1, l2, l3⟩ := hB.2.2.2.2.2.2.2.2.1 _ a1
  have h := X12_isSlip (S := T) (k := t) (a := a) (j := j) (b := cl (B.1 14 (b_id B a j))) ok (c95_w hT hm) ht (by omega) (by omega) (by rw [hT.1 65 (by decide), a3]; exact l3) l2
  rw [h, b2i_c (slp_congr (fun i hi => ?_))]
  rw [hT.1 66 (by decide)]
  exact a4 i hi
theorem X12_stepAt {P : q_P} {B T : a_M} {N W H a i j L : Nat} (ok : q_ok P) (hB : i_B N W B) (hH : i_H N H B) (hm : m_w P B) (hT : c95 B T) (ha : a < N) (hi : i < P.1) (hj : j ≤ b_sz B a) (hrow : ∀ y, y ≤ b_sz B a → T.1 95 (5 * (i + 1) + y) = nI (nc P B H a L (i + 1) y)) :
    x_X12_stepAt [.ref 56, .int (nI i), .int (nI j), .int (nI a)] T = some (none, a_wi T 95 (5 * i + j) (nI (nc P B H a (L + 1) i j))) := by
  have hn := ok.1.1
  have hN := hB.1
  have b6 := hB.2.2.2.2.2.1
  obtain ⟨y1, y2, y3⟩ := hB.2.2.2.2.2.2.1 a ha
  have y2' : b_sz B a ≤ 4 := y2
  have y3' : B.1 16 a = nI (b_sz B a) := y3
  have ca : (nI a).toNatClampNeg = a := nI_clamp (by omega)
  have na : ¬ (nI a < 0 ∨ 60 ≤ a) := nI_out2 (by omega) (by omega)
  have g166 : ∀ v : Nat, g_X12_stepAt 166 [.ref 56, .int (nI i), .int (nI j), .null, .int (nI v), .null, .null, .null] [] T = some (none, a_wi T 95 (5 * i + j) (nI v)) := by
    intro v
    rw [b_X12_stepAt_166, show (5 : Int32) * nI i + nI j = nI (5 * i + j) by rw [show (5 : Int32) = nI 5 from rfl, pk_mul, nI_add], if_neg (nI_out (by omega) (by decide)), nI_clamp (by omega)]
  rw [e_X12_stepAt, ca, if_neg na, hT.1 64 (by decide), ← b6, y3']
  show _ = some (none, a_wi T 95 (5 * i + j) (nI (if j < b_sz B a then shl (fun h => decide (sedge P B a i j h)) (fun h => nc P B H a L (i + 1) (j + b_sz B (lon B h)) + 1) (if wcost P B i (b_id B a j) < 1000000 then min (nc P B H a L (i + 1) (j + 1) + wcost P B i (b_id B a j)) 1000000 else 1000000) H else 1000000)))
  by_cases hjz : j < b_sz B a
  · rw [if_pos (nI_lt hjz (by omega)), if_pos hjz, nI_1, show (5 : Int32) * nI (i + 1) + nI j + 1 = nI (5 * (i + 1) + (j + 1)) by rw [show (5 : Int32) = nI 5 from rfl, pk_mul, nI_add, nI_1, Nat.add_assoc], if_neg (nI_out (by omega) (by decide)), nI_clamp (by omega), X12_isW ok hB hm hT hi ha hjz, hrow (j + 1) (by omega)]
    simp only [Option.bind_some, Option.toList_some, List.append_nil, b_X12_stepAt_37, b2i_z]
    have nx := nc_far P B H a L (i + 1) (j + 1)
    have h75 : (if ¬ wlike P B i (b_id B a j) then ((x_X12_isSlip [.ref 56, .int (nI i), .int (nI a), .int (nI j)] T).bind fun q => g_X12_stepAt 54 [.ref 56, .int (nI i), .int (nI j), .int (nI a), .int 1000000, .int (nI (nc P B H a L (i + 1) (j + 1))), .null, .null] q.1.toList q.2) else g_X12_stepAt 75 [.ref 56, .int (nI i), .int (nI j), .int (nI a), .int (nI (nc P B H a L (i + 1) (j + 1))), .null, .int 0, .null] [] T) = g_X12_stepAt 75 [.ref 56, .int (nI i), .int (nI j), .int (nI a), .int (nI (if wcost P B i (b_id B a j) < 1000000 then min (nc P B H a L (i + 1) (j + 1) + wcost P B i (b_id B a j)) 1000000 else 1000000)), .null, .int 0, .null] [] T := by
      by_cases hw : wlike P B i (b_id B a j)
      · have hc : wcost P B i (b_id B a j) = 0 := by unfold wcost; rw [if_pos hw]
        rw [if_neg (not_not_intro hw), hc, if_pos (by decide)]
        show _ = g_X12_stepAt 75 [.ref 56, .int (nI i), .int (nI j), .int (nI a), .int (nI (min (nc P B H a L (i + 1) (j + 1)) 1000000)), .null, .int 0, .null] [] T
        rw [Nat.min_eq_left nx]
      · rw [if_pos hw, X12_isS ok hB hm hT hi ha hjz]
        simp only [Option.bind_some, Option.toList_some, b_X12_stepAt_54, b2i_z]
        by_cases hs : slp P i (cl (B.1 14 (b_id B a j))) (fun x => B.1 13 (b_id B a j * 16 + x))
        · have hc : wcost P B i (b_id B a j) = 3 := by unfold wcost; rw [if_neg hw, if_pos hs]
          rw [if_neg (not_not_intro hs), hc, if_pos (show 3 < 1000000 by decide), show nI (nc P B H a L (i + 1) (j + 1)) + 3 = nI (nc P B H a L (i + 1) (j + 1) + 3) from nI_add _ 3]
          by_cases h3 : nc P B H a L (i + 1) (j + 1) + 3 < 1000000
          · rw [if_pos (show nI (nc P B H a L (i + 1) (j + 1) + 3) < 1000000 from nI_lt (b := 1000000) h3 (by decide)), Nat.min_eq_left (by omega)]
          · rw [if_neg (show ¬ nI (nc P B H a L (i + 1) (j + 1) + 3) < 1000000 from nI_nlt (b := 1000000) (by omega) (by omega)), Nat.min_eq_right (by omega)]; rfl
        · have hc : wcost P B i (b_id B a j) = 1000000 := by unfold wcost; rw [if_neg hw, if_neg hs]
          rw [if_pos hs, hc, if_neg (by decide)]; rfl
    rw [h75]
    obtain ⟨b0, hb0⟩ : ∃ b0, b0 = (if wcost P B i (b_id B a j) < 1000000 then min (nc P B H a L (i + 1) (j + 1) + wcost P B i (b_id B a j)) 1000000 else 1000000) := ⟨_, rfl⟩
    have hb0le : b0 ≤ 1000000 := by rw [hb0]; split <;> omega
    rw [← hb0]
    have loop : ∀ e h, h + e = H → g_X12_stepAt 75 [.ref 56, .int (nI i), .int (nI j), .int (nI a), .int (nI (shl (fun h => decide (sedge P B a i j h)) (fun h => nc P B H a L (i + 1) (j + b_sz B (lon B h)) + 1) b0 h)), .null, .int (nI h), .null] [] T = some (none, a_wi T 95 (5 * i + j) (nI (shl (fun h => decide (sedge P B a i j h)) (fun h => nc P B H a L (i + 1) (j + b_sz B (lon B h)) + 1) b0 H))) := by
      intro e
      induction e with
      | zero =>
        intro h h1
        obtain rfl : h = H := by omega
        rw [b_X12_stepAt_75, hT.1 56 (by decide), hH.2.2.1, if_neg (nI_nlt (Nat.le_refl _) (by have := hH.1; omega)), g166]
      | succ e ih =>
        intro h h1
        have hh : h < H := by omega
        have hH30 := hH.1
        obtain ⟨s1, s2, s3, s4, s5⟩ := hH.2.2.2.2.2 h hh
        have hz1 : b_sz B (sho B h) = 1 := s5
        have s3' : lon B h < N := s3
        obtain ⟨z1, z2, z3⟩ := hB.2.2.2.2.2.2.1 _ s3
        have z1' : 1 ≤ b_sz B (lon B h) := z1
        have z2' : b_sz B (lon B h) ≤ 4 := z2
        have hsl := (shl_le (fun h => decide (sedge P B a i j h)) (fun h => nc P B H a L (i + 1) (j + b_sz B (lon B h)) + 1) b0 h).1
        have hw := X12_isW (t := i) (a := sho B h) (j := 0) ok hB hm hT hi s1 (by omega)
        have ih' := ih (h + 1) (by omega)
        have hu : shl (fun h => decide (sedge P B a i j h)) (fun h => nc P B H a L (i + 1) (j + b_sz B (lon B h)) + 1) b0 (h + 1) = if decide (sedge P B a i j h) = true then min (shl (fun h => decide (sedge P B a i j h)) (fun h => nc P B H a L (i + 1) (j + b_sz B (lon B h)) + 1) b0 h) (nc P B H a L (i + 1) (j + b_sz B (lon B h)) + 1) else shl (fun h => decide (sedge P B a i j h)) (fun h => nc P B H a L (i + 1) (j + b_sz B (lon B h)) + 1) b0 h := rfl
        rw [hu] at ih'
        obtain ⟨bb, hbb⟩ : ∃ bb, bb = shl (fun h => decide (sedge P B a i j h)) (fun h => nc P B H a L (i + 1) (j + b_sz B (lon B h)) + 1) b0 h := ⟨_, rfl⟩
        rw [← hbb] at ih' hsl ⊢
        rw [nI_0] at hw
        have s2' : B.1 17 h = nI (sho B h) := s2
        rw [b_X12_stepAt_75, hT.1 56 (by decide), hH.2.2.1, if_pos (nI_lt hh (by omega)), if_neg (nI_out (by omega) (by decide)), nI_clamp (by omega), hT.1 67 (by decide), ← hH.2.2.2.1, s2', hw]
        simp only [Option.bind_some, Option.toList_some, List.append_nil, b_X12_stepAt_97, b2i_z]
        have skip : ¬ sedge P B a i j h → g_X12_stepAt 112 [.ref 56, .int (nI i), .int (nI j), .int (nI a), .int (nI bb), .null, .int (nI h), .null] [.int 0] T = some (none, a_wi T 95 (5 * i + j) (nI (shl (fun h => decide (sedge P B a i j h)) (fun h => nc P B H a L (i + 1) (j + b_sz B (lon B h)) + 1) b0 H))) := by
          intro hs
          rw [if_neg (by simpa using hs)] at ih'
          rw [b_X12_stepAt_112, if_neg (by decide), nI_1]
          exact ih'
        by_cases hwl : wlike P B i (b_id B (sho B h) 0)
        · have hsf := X12_standsFor (S := T) (N := N) (W := W) (H := H) (h := h) (a := a) (d := j) (c95_B hT hB) (c95_H hT hH) hh ha (by unfold b_sz; rw [hT.1 16 (by decide)]; exact hjz)
          unfold rch b_sz at hsf
          simp (disch := decide) only [hT.1] at hsf
          rw [if_neg (not_not_intro hwl), hsf]
          simp only [Option.bind_some, Option.toList_some, List.append_nil, b_X12_stepAt_108]
          by_cases hr : rch B (lon B h) a j
          · have hs : sedge P B a i j h := ⟨hwl, hr⟩
            have hrl := hr.1
            rw [if_pos (decide_eq_true hs)] at ih'
            have e5 : cl (B.1 16 (cl (B.1 18 h))) = b_sz B (lon B h) := rfl
            rw [if_pos hr, e5, b_X12_stepAt_112, if_pos (show (0 : Int32) < nI (b_sz B (lon B h)) by rw [← nI_0]; exact nI_lt (by omega) (by omega)), nI_1, show (5 : Int32) * nI (i + 1) + nI j + nI (b_sz B (lon B h)) = nI (5 * (i + 1) + (j + b_sz B (lon B h))) by rw [show (5 : Int32) = nI 5 from rfl, pk_mul, nI_add, nI_add, Nat.add_assoc], if_neg (nI_out (by omega) (by decide)), nI_clamp (by omega), hrow _ hrl, nI_1]
            have nx2 := nc_far P B H a L (i + 1) (j + b_sz B (lon B h))
            by_cases hlt : nc P B H a L (i + 1) (j + b_sz B (lon B h)) + 1 < bb
            · rw [if_pos (nI_lt hlt (by omega)), if_neg (nI_out2 (by omega) (by omega)), nI_1]
              rw [Nat.min_eq_right (by omega)] at ih'
              exact ih'
            · rw [if_neg (nI_nlt (by omega) (by omega)), nI_1]
              rw [Nat.min_eq_left (by omega)] at ih'
              exact ih'
          · rw [if_neg hr, nI_0]
            exact skip (fun q => hr q.2)
        · rw [if_pos hwl]
          exact skip (fun q => hwl q.1)
    have := loop H 0 (by omega)
    rw [nI_0] at this
    exact this
  · rw [if_neg (nI_nlt (by omega) (by omega)), if_neg hjz]
    exact g166 1000000
/-- row x of the reference's costs holds those of L words from x on -/
abbrev rowok (P : q_P) (B : a_M) (H a L x : Nat) (T : a_M) : Prop := ∀ y, y ≤ b_sz B a → T.1 95 (5 * x + y) = nI (nc P B H a L x y)
theorem X12_nameCost {P : q_P} {B T : a_M} {N W H a fr to : Nat} (ok : q_ok P) (hB : i_B N W B) (hH : i_H N H B) (hm : m_w P B) (hT : c95 B T) (ha : a < N) (hft : fr ≤ to) (hto : to ≤ P.1) :
    ∃ T', x_X12_nameCost [.ref 56, .int (nI a), .int (nI fr), .int (nI to)] T = some (some (.int (nI (nc P B H a (to - fr) fr 0))), T') ∧ c95 B T' := by
  have hn := ok.1.1
  have hN := hB.1
  have b6 := hB.2.2.2.2.2.1
  obtain ⟨y1, y2, y3⟩ := hB.2.2.2.2.2.2.1 a ha
  have y2' : b_sz B a ≤ 4 := y2
  have y3' : B.1 16 a = nI (b_sz B a) := y3
  have ca : (nI a).toNatClampNeg = a := nI_clamp (by omega)
  have na : ¬ (nI a < 0 ∨ 60 ≤ a) := nI_out2 (by omega) (by omega)
  -- the row at the end
  have first : ∀ e j T1, j + e = 5 → c95 B T1 → (∀ y, y < j → T1.1 95 (5 * to + y) = nI (if y = b_sz B a then 0 else 1000000)) → ∃ T', g_X12_nameCost 3 [.ref 56, .int (nI a), .int (nI fr), .int (nI to), .int (nI j), .null] [] T1 = g_X12_nameCost 48 [.ref 56, .int (nI a), .int (nI fr), .null, .int (dn to), .null] [] T' ∧ c95 B T' ∧ rowok P B H a 0 to T' := by
    intro e
    induction e with
    | zero =>
      intro j T1 h1 h2 h3
      obtain rfl : j = 5 := by omega
      rw [b_X12_nameCost_3, if_pos (by decide), dn_m]
      refine ⟨T1, rfl, h2, fun y hy => ?_⟩
      rw [h3 y (by omega)]; rfl
    | succ e ih =>
      intro j T1 h1 h2 h3
      have e1 : (5 : Int32) * nI to + nI j = nI (5 * to + j) := by rw [show (5 : Int32) = nI 5 from rfl, pk_mul, nI_add]
      have nxt : ∀ w : Nat, w = (if j = b_sz B a then 0 else 1000000) → ∃ T', g_X12_nameCost 3 [.ref 56, .int (nI a), .int (nI fr), .int (nI to), .int (nI (j + 1)), .null] [] (a_wi T1 95 (5 * to + j) (nI w)) = g_X12_nameCost 48 [.ref 56, .int (nI a), .int (nI fr), .null, .int (dn to), .null] [] T' ∧ c95 B T' ∧ rowok P B H a 0 to T' := by
        intro w hw
        refine ih (j + 1) _ (by omega) ⟨fun c hc => (wi_n hc).trans (h2.1 c hc), h2.2⟩ (fun y hy => ?_)
        rw [wi_at, if_pos rfl]
        by_cases ey : y = j
        · rw [if_pos (by omega), ey, hw]
        · rw [if_neg (by omega)]; exact h3 y (by omega)
      rw [b_X12_nameCost_3, if_neg (show ¬ (4 : Int32) < nI j from nI_nlt (b := j) (a := 4) (by omega) (by decide)), ca, if_neg na, h2.1 64 (by decide), ← b6, y3', e1, nI_1]
      by_cases ej : j = b_sz B a
      · rw [if_pos (by rw [ej]), if_neg (nI_out (by omega) (by decide)), nI_clamp (by omega)]
        exact nxt 0 (by rw [if_pos ej])
      · rw [if_neg (nI_ne (by omega) (by omega) ej), if_neg (nI_out (by omega) (by decide)), nI_clamp (by omega)]
        exact nxt 1000000 (by rw [if_neg ej])
  -- a row from the one behind it
  have row : ∀ i, i < P.1 → ∀ L j T1, j ≤ b_sz B a + 1 → c95 B T1 → rowok P B H a L (i + 1) T1 → (∀ y, j ≤ y → y ≤ b_sz B a → T1.1 95 (5 * i + y) = nI (nc P B H a (L + 1) i y)) → ∃ T', g_X12_nameCost 62 [.ref 56, .int (nI a), .int (nI fr), .null, .int (nI i), .int (dn j)] [] T1 = g_X12_nameCost 48 [.ref 56, .int (nI a), .int (nI fr), .null, .int (dn i), .null] [] T' ∧ c95 B T' ∧ rowok P B H a (L + 1) i T' := by
    intro i hi L j
    induction j with
    | zero =>
      intro T1 h1 h2 h3 h4
      rw [b_X12_nameCost_62, if_pos (by decide), dn_p]
      exact ⟨T1, rfl, h2, fun y hy => h4 y (Nat.zero_le _) hy⟩
    | succ j ih =>
      intro T1 h1 h2 h3 h4
      rw [b_X12_nameCost_62, show dn (j + 1) = nI j from rfl, if_neg (nI_pos (by omega)), X12_stepAt (L := L) ok hB hH hm h2 ha hi (by omega) h3]
      simp only [Option.bind_some, Option.toList_none, List.append_nil, b_X12_nameCost_76]
      rw [dn_p]
      refine ih _ (by omega) ⟨fun c hc => (wi_n hc).trans (h2.1 c hc), h2.2⟩ (fun y hy => ?_) (fun y h5 h6 => ?_)
      · rw [wi_s (by omega)]; exact h3 y hy
      · rw [wi_at, if_pos rfl]
        by_cases ey : y = j
        · rw [if_pos (by omega), ey]
        · rw [if_neg (by omega)]; exact h4 y (by omega) h6
  have rows : ∀ e i T1, e + fr = i → i ≤ to → c95 B T1 → rowok P B H a (to - i) i T1 → ∃ T', g_X12_nameCost 48 [.ref 56, .int (nI a), .int (nI fr), .null, .int (dn i), .null] [] T1 = some (some (.int (nI (nc P B H a (to - fr) fr 0))), T') ∧ c95 B T' := by
    intro e
    induction e with
    | zero =>
      intro i T1 h1 h2 h3 h4
      obtain rfl : fr = i := by omega
      have hlt : dn fr < nI fr := by
        cases fr with
        | zero => decide
        | succ k => exact nI_lt (by omega) (by omega)
      have h40 := h4 0 (Nat.zero_le _)
      rw [Nat.add_zero] at h40
      rw [b_X12_nameCost_48, if_pos hlt, show (5 : Int32) * nI fr = nI (5 * fr) by rw [show (5 : Int32) = nI 5 from rfl, pk_mul], if_neg (nI_out (by omega) (by decide)), nI_clamp (by omega), h40]
      exact ⟨T1, rfl, h3⟩
    | succ e ih =>
      intro i T1 h1 h2 h3 h4
      obtain ⟨k, rfl⟩ : ∃ k, i = k + 1 := ⟨i - 1, by omega⟩
      rw [b_X12_nameCost_48, show dn (k + 1) = nI k from rfl, if_neg (nI_nlt (by omega) (by omega)), ca, if_neg na, h3.1 64 (by decide), ← b6, y3', show nI (b_sz B a) = dn (b_sz B a + 1) from rfl]
      obtain ⟨T2, f1, f2, f3⟩ := row k (by omega) (to - (k + 1)) (b_sz B a + 1) T1 (Nat.le_refl _) h3 h4 (fun y h5 h6 => by omega)
      rw [f1]
      rw [show to - (k + 1) + 1 = to - k by omega] at f3
      exact ih k T2 (by omega) (by omega) f2 f3
  rw [e_X12_nameCost]
  obtain ⟨T1, f1, f2, f3⟩ := first 5 0 T (by omega) hT (fun y hy => by omega)
  rw [nI_0] at f1
  rw [f1]
  exact rows (to - fr) to T1 (by omega) (Nat.le_refl _) f2 (by rw [Nat.sub_self]; exact f3)
