/-! ===== the cost of a row ===== -/
def unm (a w : Nat → Int32) (x : Int32) : Nat → Int32
  | 0 => -1
  | u + 1 => if w u = x then a u else unm a w x u
theorem unm_spec (a w : Nat → Int32) (x : Int32) : ∀ U, (∃ u, u < U ∧ w u = x ∧ unm a w x U = a u) ∨ ((∀ u, u < U → ¬ w u = x) ∧ unm a w x U = -1) := by
  intro U
  induction U with
  | zero => exact Or.inr ⟨fun u hu => absurd hu (Nat.not_lt_zero _), rfl⟩
  | succ U ih =>
    by_cases h : w U = x
    · exact Or.inl ⟨U, Nat.lt_succ_self _, h, if_pos h⟩
    · have e : unm a w x (U + 1) = unm a w x U := if_neg h
      rw [e]
      rcases ih with ⟨u, h1, h2, h3⟩ | ⟨h1, h2⟩
      · exact Or.inl ⟨u, by omega, h2, h3⟩
      · refine Or.inr ⟨fun u hu hq => ?_, h2⟩
        by_cases hU : u = U
        · subst hU; exact h hq
        · exact h1 u (by omega) hq
/-- the name of the unit word that word k is, or none -/
def un (P : q_P) (B : a_M) (W U k : Nat) : Int32 := unm (B.1 26) (B.1 27) (lkf P (B.1 14) (B.1 13) W k) U
theorem un_c {P : q_P} {S T : a_M} (e13 : T.1 13 = S.1 13) (e14 : T.1 14 = S.1 14) (e26 : T.1 26 = S.1 26) (e27 : T.1 27 = S.1 27) (W U k : Nat) : un P T W U k = un P S W U k := by
  unfold un
  rw [e13, e14, e26, e27]
/-- words of unit words tell their names -/
theorem u_inj {N W U : Nat} {S : a_M} (hB : i_B N W S) (hU : i_U N U S) {u v : Nat} (hu : u < U) (hv : v < U) (h : S.1 27 u = S.1 27 v) : S.1 26 u = S.1 26 v := by
  obtain ⟨u1, u2, u3, u4, u5, u6⟩ := hU
  obtain ⟨a1, a2, a3, a4⟩ := u5 u hu
  obtain ⟨c1, c2, c3, c4⟩ := u5 v hv
  have := hB.2.2.2.2.2.2.2.2.2.2 (cl (S.1 26 u)) (cl (S.1 26 v)) a1 c1 (a3.trans c3.symm) (fun j hj => by
    have : j = 0 := by omega
    subst this
    exact a4.symm.trans (h.trans c4))
  rw [a2, c2, this]
theorem X6_unitNameOf {N W U : Nat} {S : a_M} (hB : i_B N W S) (hU : i_U N U S) (x : Int32) : x_X6_unitNameOf [.ref 20, .int x] S = some (some (.int (unm (S.1 26) (S.1 27) x U)), S) := by
  have hU' := hU
  obtain ⟨u1, u2, u3, u4, u5, u6⟩ := hU
  have st : ∀ i, i < U → g_X6_unitNameOf 2 [.ref 20, .int x, .int (nI i)] [] S = if S.1 27 i = x then some (some (.int (S.1 26 i)), S) else g_X6_unitNameOf 2 [.ref 20, .int x, .int (nI (i + 1))] [] S := by
    intro i hi
    rw [b_X6_unitNameOf_2, u2, if_pos (nI_lt hi (by omega)), at_27, av_nI (by omega) (by decide)]
    simp only [Option.bind_some, Option.toList_some, List.append_nil, b_X6_unitNameOf_18]
    by_cases h : S.1 27 i = x
    · rw [if_pos h, if_pos h, at_26, av_nI (by omega) (by decide)]
      simp only [Option.bind_some, Option.toList_some, List.append_nil, b_X6_unitNameOf_30]
    · rw [if_neg h, if_neg h, nI_1]
  have key := lp_first (fun i => g_X6_unitNameOf 2 [.ref 20, .int x, .int (nI i)] [] S) U (fun i => S.1 27 i = x) (fun i => some (some (.int (S.1 26 i)), S))
    (fun i hi hq => by rw [st i hi, if_pos hq]) (fun i hi hq => by rw [st i hi, if_neg hq])
  rw [nI_0] at key
  rw [e_X6_unitNameOf]
  rcases key with ⟨i, k1, k2, k3, k4⟩ | ⟨k1, k2⟩
  · rw [k4]
    rcases unm_spec (S.1 26) (S.1 27) x U with ⟨u, g1, g2, g3⟩ | ⟨g1, g2⟩
    · rw [g3, u_inj hB hU' k1 g1 (k2.trans g2.symm)]
    · exact absurd k2 (g1 i k1)
  · rw [k2, b_X6_unitNameOf_2, u2, if_neg (nI_nlt (Nat.le_refl _) (by omega))]
    rcases unm_spec (S.1 26) (S.1 27) x U with ⟨u, g1, g2, g3⟩ | ⟨g1, g2⟩
    · exact absurd g2 (k1 u g1)
    · rw [g2]
theorem lkf_iff {P : q_P} {N W : Nat} {S : a_M} (hB : i_B N W S) {t w : Nat} (hw : w < W) : nI w = lkf P (S.1 14) (S.1 13) W t ↔ wlike P S t w := by
  have hN := hB.1
  have hW := hB.2.1
  rcases lkf_spec P (S.1 14) (S.1 13) W t with ⟨v, h1, h2, h3⟩ | ⟨h1, h2⟩
  · rw [h3]
    constructor
    · intro h
      have := (nI_eq (by omega) (by omega)).mp h
      rw [this]; exact h2
    · intro h
      rw [wlk_uniq hB.2.2.2.2.2.2.2.2.2.1 hw h1 h h2]
  · rw [h2]
    exact ⟨fun h => absurd h (fun q => nI_pos (n := w) (by omega) (by rw [q]; decide)), fun h => absurd h (h1 w hw)⟩
theorem X12_unitWordAt {P : q_P} {N W U : Nat} {S : a_M} (ok : q_ok P) (hB : i_B N W S) (hU : i_U N U S) (hm : m_w P S) {t : Nat} (ht : t < P.1) : x_X12_unitWordAt [.ref 56, .int (nI t)] S = some (some (.int (un P S W U t)), S) := by
  have hN := hB.1
  obtain ⟨u1, u2, u3, u4, u5, u6⟩ := hU
  have key : ∀ d i, i + d = U → g_X12_unitWordAt 4 [.ref 56, .int (nI t), .int (unm (S.1 26) (S.1 27) (lkf P (S.1 14) (S.1 13) W t) i), .int (nI i)] [] S = some (some (.int (un P S W U t)), S) := by
    intro d
    induction d with
    | zero =>
      intro i hi
      obtain rfl : i = U := by omega
      rw [b_X12_unitWordAt_4, u3, if_neg (nI_nlt (Nat.le_refl _) (by omega))]
      rfl
    | succ d ih =>
      intro i hi
      obtain ⟨a1, a2, a3, a4⟩ := u5 i (by omega)
      have ci : (nI i).toNatClampNeg = i := nI_clamp (by omega)
      have ni : ¬ (nI i < 0 ∨ 10 ≤ i) := nI_out2 (by omega) (by omega)
      obtain ⟨A, hA⟩ : ∃ A, A = cl (S.1 26 i) := ⟨_, rfl⟩
      rw [← hA] at a1 a2 a3 a4
      have hsz : b_sz S A = 1 := a3
      obtain ⟨m1, m2, m3⟩ := mlen (k := A) (j := 0) hB a1 (by omega)
      have hw := (hB.2.2.2.2.2.2.2.1 A 0 a1 (by show 0 < b_sz S A; omega))
      have ei := ih (i + 1) (by omega)
      have eu : unm (S.1 26) (S.1 27) (lkf P (S.1 14) (S.1 13) W t) (i + 1) = if S.1 27 i = lkf P (S.1 14) (S.1 13) W t then S.1 26 i else unm (S.1 26) (S.1 27) (lkf P (S.1 14) (S.1 13) W t) i := rfl
      have hq := X12_isWordOf (k := A) (j := 0) ok hm ht (by omega) (by decide) m1 m2
      rw [nI_0] at hq
      rw [b_X12_unitWordAt_4, u3, if_pos (nI_lt (by omega) (by omega)), ci, if_neg ni, ← u4, a2, hq]
      simp only [Option.bind_some, Option.toList_some, List.append_nil, b_X12_unitWordAt_24, b2i_z]
      rw [ci, if_neg ni, ← u4, nI_1]
      have e27 : S.1 27 i = nI (b_id S A 0) := a4.trans hw.2.1
      rw [eu, e27] at ei
      by_cases hl : mlike P S t (A * 4 + 0)
      · rw [if_neg (fun q => q hl)]
        rw [if_pos ((lkf_iff hB hw.1).mpr ((mlike_iff hB a1 (by omega)).mp hl))] at ei
        exact ei
      · rw [if_pos hl]
        rw [if_neg (fun q => hl ((mlike_iff hB a1 (by omega)).mpr ((lkf_iff hB hw.1).mp q)))] at ei
        exact ei
  have := key U 0 (by omega)
  rw [nI_0] at this
  rw [e_X12_unitWordAt]
  exact this
/-- the cost of breaks within a row -/
def bkc (P : q_P) (k : Nat) : Nat → Nat
  | 0 => 0
  | 1 => 0
  | L + 2 => bkc P k (L + 1) + (if q_br P (k + L + 1) = true then 2 else 0)
theorem bkc_s (P : q_P) (k L : Nat) (h : 1 ≤ L) : bkc P k (L + 1) = bkc P k L + (if q_br P (k + L) = true then 2 else 0) := by
  obtain ⟨l, rfl⟩ : ∃ l, L = l + 1 := ⟨L - 1, by omega⟩
  rfl
theorem bkc_le (P : q_P) (k L : Nat) : bkc P k L ≤ 2 * L := by
  induction L with
  | zero => exact Nat.le_refl _
  | succ L ih =>
    rcases Nat.eq_zero_or_pos L with h | h
    · subst h; exact Nat.zero_le _
    · rw [bkc_s P k L h]
      by_cases hb : q_br P (k + L) = true
      · rw [if_pos hb]; omega
      · rw [if_neg hb]; omega
theorem X7_breakCost {P : q_P} {T : a_M} (ok : q_ok P) (h : q_c P T) {k L : Nat} (h1 : 1 ≤ L) (hk : k + L ≤ P.1) : x_X7_breakCost [.ref 45, .int (nI k), .int (nI L)] T = some (some (.int (nI (bkc P k L))), T) := by
  have hn := ok.1.1
  have key : ∀ d j, j + d = L → 1 ≤ j → g_X7_breakCost 7 [.ref 45, .int (nI k), .int (nI L), .int (nI (bkc P k j)), .int (nI (k + j))] [] T = some (some (.int (nI (bkc P k L))), T) := by
    intro d
    induction d with
    | zero =>
      intro j hj _
      obtain rfl : j = L := by omega
      rw [b_X7_breakCost_7, nI_add, if_neg (nI_nlt (Nat.le_refl _) (by omega))]
    | succ d ih =>
      intro j hj hj1
      rw [b_X7_breakCost_7, nI_add, if_pos (nI_lt (by omega) (by omega)), X10_breakAhead ok h (by omega)]
      simp only [Option.bind_some, Option.toList_some, List.cons_append, List.nil_append, b_X7_breakCost_26]
      have e := ih (j + 1) (by omega) (by omega)
      rw [bkc_s P k j hj1] at e
      rw [nI_1]
      have e2 : nI (bkc P k j) + 2 * b2i (q_br P (k + j) = true) = nI (bkc P k j + (if q_br P (k + j) = true then 2 else 0)) := by
        by_cases hb : q_br P (k + j) = true
        · rw [if_pos hb, b2i_t hb]; exact nI_add _ 2
        · rw [if_neg hb, b2i_f hb]; exact nI_add _ 0
      rw [e2]
      exact e
  have := key (L - 1) 1 (by omega) (Nat.le_refl _)
  rw [e_X7_breakCost]
  rw [nI_1]
  exact this
/-- what a row of L words from s costs for part p -/
def rcost (P : q_P) (E0 E1 : Nat → Nat → Nat × Int32) (u : Nat → Int32) (p s L : Nat) : Nat :=
  if p = 0 then (if L = 1 ∧ isNum P s then 0 else 1000000)
  else if p = 1 then (E0 s L).1
  else if p = 2 then (if L = 2 ∧ ¬ u s = -1 ∧ q_len P (s + 1) ≤ 4 then 0 else 1000000)
  else if p = 3 then (E1 s L).1
  else (if L = 1 ∧ isCod P s then 0 else 1000000)
def rnum (E0 E1 : Nat → Nat → Nat × Int32) (p s L : Nat) : Int32 := if p = 1 then (E0 s L).2 else if p = 3 then (E1 s L).2 else -1
theorem X7_rowCost {P : q_P} {T : a_M} {E0 E1 : Nat → Nat → Nat × Int32} {u : Nat → Int32} (ok : q_ok P) (hc : q_c P T) (h0 : rows P.1 (T.1 47) (T.1 48) E0) (h1 : rows P.1 (T.1 50) (T.1 51) E1) (hu : ∀ k, k < P.1 → T.1 52 k = u k) {p s L : Nat} (hp : p ≤ 4) (hL : 1 ≤ L) (hL4 : L ≤ 4) (hs : s + L ≤ P.1) :
    x_X7_rowCost [.ref 45, .int (nI p), .int (nI s), .int (nI L)] T = some (some (.int (nI (rcost P E0 E1 u p s L))), T) := by
  have hn := ok.1.1
  have ecell : ((nI s * 4) + nI L) - 1 = nI (s * 4 + L - 1) := by
    rw [show (4 : Int32) = nI 4 from rfl, pk_mul, nI_add, show (1 : Int32) = nI 1 from rfl, pk_sub (by omega)]
  have g1 : ¬ nI L < 1 := nI_nlt (b := 1) hL (by omega)
  have g2 : ¬ (4 : Int32) < nI L := nI_nlt (a := 4) hL4 (by decide)
  rw [e_X7_rowCost]
  unfold rcost
  rcases (show p = 0 ∨ p = 1 ∨ p = 2 ∨ p = 3 ∨ p = 4 by omega) with rfl | rfl | rfl | rfl | rfl
  · rw [if_pos (show nI 0 = 0 by decide), if_pos rfl]
    by_cases hl : L = 1
    · rw [if_pos (show nI L = 1 by rw [hl]; rfl), X10_isNumber ok hc (by omega)]
      simp only [Option.bind_some, Option.toList_some, List.append_nil, b_X7_rowCost_49, b2i_z]
      by_cases hq : isNum P s
      · rw [if_neg (fun q => q hq), if_pos ⟨hl, hq⟩]; rfl
      · rw [if_pos hq, if_neg (fun q => hq q.2)]; rfl
    · rw [if_neg (show ¬ nI L = 1 from nI_ne (b := 1) (by omega) (by decide) hl), if_neg (fun q => hl q.1)]; rfl
  · rw [if_neg (show ¬ nI 1 = 0 by decide), if_pos (show nI 1 = 1 by decide), if_neg (by decide), if_pos rfl, e_X8_costOf_46, if_neg g1, if_neg g2, e_X8_cell]
    simp only [Option.bind_some, Option.toList_some, List.cons_append, List.nil_append, b_X8_costOf_46_19, ecell, at_47]
    rw [av_nI (by omega) (by decide)]
    simp only [Option.bind_some, Option.toList_some, List.append_nil, b_X8_costOf_46_22, b_X7_rowCost_68]
    rw [(h0 s L hL hL4 hs).1]
  · rw [if_neg (show ¬ nI 2 = 0 by decide), if_neg (show ¬ nI 2 = 1 by decide), if_pos (show nI 2 = 2 by decide), if_neg (show ¬ (2 : Nat) = 0 by decide), if_neg (show ¬ (2 : Nat) = 1 by decide), if_pos rfl]
    by_cases hl : L = 2
    · rw [if_pos (show nI L = 2 by rw [hl]; rfl), e_X7_isUnit, at_52, av_nI (by omega) (by decide), hu s (by omega)]
      simp only [Option.bind_some, Option.toList_some, List.append_nil, b_X7_isUnit_8]
      by_cases hq : u s = -1
      · rw [if_pos hq]
        simp only [Option.bind_some, Option.toList_some, List.append_nil, b_X7_rowCost_79]
        rw [if_pos trivial, if_neg (fun q => q.2.1 hq)]; rfl
      · rw [if_neg hq, nI_1, X10_lengthOf ok hc (by omega)]
        have hlen := ok.1.2.2.1 (s + 1) (by omega)
        simp only [Option.bind_some, Option.toList_some, List.append_nil, b_X7_isUnit_22]
        by_cases hw : q_len P (s + 1) ≤ 4
        · rw [if_neg (show ¬ (4 : Int32) < nI (q_len P (s + 1)) from nI_nlt (a := 4) hw (by decide))]
          simp only [Option.bind_some, Option.toList_some, List.append_nil, b_X7_rowCost_79]
          rw [if_neg (by decide), if_pos ⟨hl, hq, hw⟩]; rfl
        · rw [if_pos (show (4 : Int32) < nI (q_len P (s + 1)) from nI_lt (a := 4) (by omega) (by omega))]
          simp only [Option.bind_some, Option.toList_some, List.append_nil, b_X7_rowCost_79]
          rw [if_pos trivial, if_neg (fun q => hw q.2.2)]; rfl
    · rw [if_neg (show ¬ nI L = 2 from nI_ne (b := 2) (by omega) (by decide) hl), if_neg (fun q => hl q.1)]; rfl
  · rw [if_neg (show ¬ nI 3 = 0 by decide), if_neg (show ¬ nI 3 = 1 by decide), if_neg (show ¬ nI 3 = 2 by decide), if_pos (show nI 3 = 3 by decide), if_neg (by decide), if_neg (by decide), if_neg (by decide), if_pos rfl, e_X8_costOf_49, if_neg g1, if_neg g2, e_X8_cell]
    simp only [Option.bind_some, Option.toList_some, List.cons_append, List.nil_append, b_X8_costOf_49_19, ecell, at_50]
    rw [av_nI (by omega) (by decide)]
    simp only [Option.bind_some, Option.toList_some, List.append_nil, b_X8_costOf_49_22, b_X7_rowCost_98]
    rw [(h1 s L hL hL4 hs).1]
  · rw [if_neg (show ¬ nI 4 = 0 by decide), if_neg (show ¬ nI 4 = 1 by decide), if_neg (show ¬ nI 4 = 2 by decide), if_neg (show ¬ nI 4 = 3 by decide), if_pos (show nI 4 = 4 by decide), if_neg (show ¬ (4 : Nat) = 0 by decide), if_neg (show ¬ (4 : Nat) = 1 by decide), if_neg (show ¬ (4 : Nat) = 2 by decide), if_neg (show ¬ (4 : Nat) = 3 by decide)]
    by_cases hl : L = 1
    · rw [if_pos (show nI L = 1 by rw [hl]; rfl), X10_isCode ok hc (by omega)]
      simp only [Option.bind_some, Option.toList_some, List.append_nil, b_X7_rowCost_112, b2i_z]
      by_cases hq : isCod P s
      · rw [if_neg (fun q => q hq), if_pos ⟨hl, hq⟩]; rfl
      · rw [if_pos hq, if_neg (fun q => hq q.2)]; rfl
    · rw [if_neg (show ¬ nI L = 1 from nI_ne (b := 1) (by omega) (by decide) hl), if_neg (fun q => hl q.1)]; rfl
