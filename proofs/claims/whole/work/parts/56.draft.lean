/-! ===== the class's draft ===== -/
def sgF (P : q_P) (s : Nat) (f : Nat → Int32) : Nat → Nat → Int32
  | 0 => f
  | i + 1 => upd (sgF P s f i) (13 + i) (q_sg P (s + 1) i)
/-- the fields f with the row of L words from s laid in for a part -/
def layF (P : q_P) (E0 E1 : Nat → Nat → Nat × Int32) (u : Nat → Int32) (part s L : Nat) (f : Nat → Int32) : Nat → Int32 :=
  if part = 0 then upd (upd (upd f 0 1) 5 (vl (q_sg P s) (ld P s))) 6 (lt_ P s)
  else if part = 1 then upd (upd f 1 1) 7 (E0 s L).2
  else if part = 2 then sgF P s (upd (upd (upd f 2 1) 8 (u s)) 9 (nI (q_len P (s + 1)))) (q_len P (s + 1))
  else if part = 3 then upd (upd f 3 1) 10 (E1 s L).2
  else upd (upd f 4 1) 11 (vl (q_sg P s) (ld P s))
/-- only the draft may differ -/
def c40 (S T : a_M) : Prop := (∀ c, c ≠ 40 → T.1 c = S.1 c) ∧ T.2 = S.2
theorem c40_rfl (S : a_M) : c40 S S := ⟨fun _ _ => rfl, rfl⟩
theorem c40_tr {A B C : a_M} (h1 : c40 A B) (h2 : c40 B C) : c40 A C := ⟨fun c a => (h2.1 c a).trans (h1.1 c a), h2.2.trans h1.2⟩
theorem X1_draft {T : a_M} {i : Nat} {v : Int32} (hi : i < 17) : x_X1_draft [.ref 38, .int (nI i), .int v] T = some (none, a_wi T 40 i v) := by
  rw [e_X1_draft, put_40, pv_nI (by omega) (by decide)]
  simp only [Option.bind_some, Option.toList_none, List.append_nil, b_X1_draft_9]
theorem c40_wi (S : a_M) (i : Nat) (v : Int32) : c40 S (a_wi S 40 i v) := ⟨fun c a => wi_n a, rfl⟩
theorem c40_c {P : q_P} {S T : a_M} (h : c40 S T) (hc : q_c P S) : q_c P T := q_c_same hc (fun c g1 g2 => h.1 c (by omega))
theorem X7_describePart {P : q_P} {T : a_M} {E0 E1 : Nat → Nat → Nat × Int32} {u : Nat → Int32} (ok : q_ok P) (hc : q_c P T) (h0 : rows P.1 (T.1 47) (T.1 48) E0) (h1 : rows P.1 (T.1 50) (T.1 51) E1) (hu : ∀ k, k < P.1 → T.1 52 k = u k) {p s L : Nat} (hp : p ≤ 4) (hL : 1 ≤ L) (hL4 : L ≤ 4) (hs : s + L ≤ P.1) (hr : rcost P E0 E1 u p s L < 1000000) :
    ∃ T', x_X7_describePart [.ref 45, .int (nI p), .int (nI s), .int (nI L)] T = some (none, T') ∧ c40 T T' ∧ T'.1 40 = layF P E0 E1 u p s L (T.1 40) := by
  have hn := ok.1.1
  have ecell : ((nI s * 4) + nI L) - 1 = nI (s * 4 + L - 1) := by
    rw [show (4 : Int32) = nI 4 from rfl, pk_mul, nI_add, show (1 : Int32) = nI 1 from rfl, pk_sub (by omega)]
  have g1 : ¬ nI L < 1 := nI_nlt (b := 1) hL (by omega)
  have g2 : ¬ (4 : Int32) < nI L := nI_nlt (a := 4) hL4 (by decide)
  have hd : x_X1_draft [.ref 38, .int (nI p), .int 1] T = some (none, a_wi T 40 p 1) := X1_draft (by omega)
  have hc' := c40_c (c40_wi T p 1) hc
  rw [e_X7_describePart, hd]
  simp only [Option.bind_some, Option.toList_none, List.append_nil, b_X7_describePart_9]
  unfold rcost at hr
  unfold layF
  rcases (show p = 0 ∨ p = 1 ∨ p = 2 ∨ p = 3 ∨ p = 4 by omega) with rfl | rfl | rfl | rfl | rfl
  · rw [if_pos rfl] at hr ⊢
    have hh : L = 1 ∧ isNum P s := by
      by_cases hq : L = 1 ∧ isNum P s
      · exact hq
      · rw [if_neg hq] at hr; omega
    rw [if_pos (show nI 0 = 0 by decide), X10_numberOf ok hc' (by omega) hh.2.2.1]
    simp only [Option.bind_some, Option.toList_some, List.cons_append, List.nil_append, b_X7_describePart_53]
    rw [show (5 : Int32) = nI 5 from rfl, X1_draft (by decide)]
    simp only [Option.bind_some, Option.toList_none, List.append_nil, b_X7_describePart_56]
    rw [X10_letterOf ok (c40_c (c40_wi _ _ _) hc') (by omega) (fun q => by rcases hh.2.2.2 with g | g; omega; exact g.2)]
    simp only [Option.bind_some, Option.toList_some, List.cons_append, List.nil_append, b_X7_describePart_70]
    rw [show (6 : Int32) = nI 6 from rfl, X1_draft (by decide)]
    simp only [Option.bind_some, Option.toList_none, List.append_nil, b_X7_describePart_73]
    exact ⟨_, rfl, c40_tr (c40_wi _ _ _) (c40_tr (c40_wi _ _ _) (c40_wi _ _ _)), by rw [wi_e, wi_e, wi_e]⟩
  · rw [if_neg (show ¬ nI 1 = 0 by decide), if_pos (show nI 1 = 1 by decide), e_X8_numberOf_46, if_neg g1, if_neg g2, e_X8_cell]
    simp only [Option.bind_some, Option.toList_some, List.cons_append, List.nil_append, b_X8_numberOf_46_19, ecell, at_48]
    rw [av_nI (by omega) (by decide), wi_n (by decide), (h0 s L hL hL4 hs).2]
    simp only [Option.bind_some, Option.toList_some, List.cons_append, List.nil_append, List.append_nil, b_X8_numberOf_46_22, b_X7_describePart_91]
    rw [show (7 : Int32) = nI 7 from rfl, X1_draft (by decide)]
    simp only [Option.bind_some, Option.toList_none, List.append_nil, b_X7_describePart_94]
    exact ⟨_, rfl, c40_tr (c40_wi _ _ _) (c40_wi _ _ _), by rw [if_pos trivial, wi_e, wi_e, if_neg (show ¬ (1 : Nat) = 0 by decide)]⟩
  · rw [if_neg (show ¬ (2 : Nat) = 0 by decide), if_neg (show ¬ (2 : Nat) = 1 by decide), if_pos rfl] at hr ⊢
    have hh : L = 2 ∧ ¬ u s = -1 ∧ q_len P (s + 1) ≤ 4 := by
      by_cases hq : L = 2 ∧ ¬ u s = -1 ∧ q_len P (s + 1) ≤ 4
      · exact hq
      · rw [if_neg hq] at hr; omega
    rw [if_neg (show ¬ nI 2 = 0 by decide), if_neg (show ¬ nI 2 = 1 by decide), if_pos (show nI 2 = 2 by decide), e_X7_describeUnit, nI_1, X10_lengthOf ok hc' (by omega)]
    simp only [Option.bind_some, Option.toList_some, List.cons_append, List.nil_append, b_X7_describeUnit_10]
    rw [at_52, av_nI (by omega) (by decide), wi_n (by decide), hu s (by omega)]
    simp only [Option.bind_some, Option.toList_some, List.cons_append, List.nil_append, b_X7_describeUnit_25]
    rw [show (8 : Int32) = nI 8 from rfl, X1_draft (by decide)]
    simp only [Option.bind_some, Option.toList_none, List.append_nil, b_X7_describeUnit_28]
    rw [show (9 : Int32) = nI 9 from rfl, X1_draft (by decide)]
    simp only [Option.bind_some, Option.toList_none, List.append_nil, b_X7_describeUnit_38]
    have loop : ∀ d i T1, i + d = q_len P (s + 1) → c40 T T1 → T1.1 40 = sgF P s (upd (upd (upd (T.1 40) 2 1) 8 (u s)) 9 (nI (q_len P (s + 1)))) i →
        ∃ T', g_X7_describeUnit 40 [.ref 45, .int (nI s), .int (nI (q_len P (s + 1))), .int (nI i)] [] T1 = some (none, T') ∧ c40 T T' ∧ T'.1 40 = sgF P s (upd (upd (upd (T.1 40) 2 1) 8 (u s)) 9 (nI (q_len P (s + 1)))) (q_len P (s + 1)) := by
      intro d
      induction d with
      | zero =>
        intro i T1 k1 k2 k3
        obtain rfl : i = q_len P (s + 1) := by omega
        rw [b_X7_describeUnit_40, if_neg (nI_nlt (Nat.le_refl _) (by omega))]
        exact ⟨T1, rfl, k2, k3⟩
      | succ d ih =>
        intro i T1 k1 k2 k3
        rw [b_X7_describeUnit_40, if_pos (nI_lt (by omega) (by omega)), nI_1, X10_signAt ok (c40_c k2 hc) (by omega) (by omega)]
        simp only [Option.bind_some, Option.toList_some, List.cons_append, List.nil_append, b_X7_describeUnit_64]
        rw [show (13 : Int32) = nI 13 from rfl, nI_add, X1_draft (by omega)]
        simp only [Option.bind_some, Option.toList_none, List.append_nil, b_X7_describeUnit_67]
        rw [nI_1]
        refine ih (i + 1) _ (by omega) (c40_tr k2 (c40_wi _ _ _)) ?_
        rw [wi_e, k3]
        unfold q_sat
        rw [if_pos (show i < q_len P (s + 1) by omega)]
        rfl
    obtain ⟨T', r1, r2, r3⟩ := loop (q_len P (s + 1)) 0 _ (Nat.zero_add _) (c40_tr (c40_wi T 2 1) (c40_tr (c40_wi _ 8 (u s)) (c40_wi _ 9 (nI (q_len P (s + 1)))))) (by rw [wi_e, wi_e, wi_e]; rfl)
    rw [nI_0] at r1
    rw [r1]
    simp only [Option.bind_some, Option.toList_none, List.append_nil, b_X7_describePart_102]
    exact ⟨T', rfl, r2, r3⟩
  · rw [if_neg (show ¬ nI 3 = 0 by decide), if_neg (show ¬ nI 3 = 1 by decide), if_neg (show ¬ nI 3 = 2 by decide), if_pos (show nI 3 = 3 by decide), e_X8_numberOf_49, if_neg g1, if_neg g2, e_X8_cell]
    simp only [Option.bind_some, Option.toList_some, List.cons_append, List.nil_append, b_X8_numberOf_49_19, ecell, at_51]
    rw [av_nI (by omega) (by decide), wi_n (by decide), (h1 s L hL hL4 hs).2]
    simp only [Option.bind_some, Option.toList_some, List.cons_append, List.nil_append, List.append_nil, b_X8_numberOf_49_22, b_X7_describePart_120]
    rw [show (10 : Int32) = nI 10 from rfl, X1_draft (by decide)]
    simp only [Option.bind_some, Option.toList_none, List.append_nil, b_X7_describePart_123]
    exact ⟨_, rfl, c40_tr (c40_wi _ _ _) (c40_wi _ _ _), by rw [if_pos trivial, wi_e, wi_e, if_neg (show ¬ (3 : Nat) = 0 by decide), if_neg (show ¬ (3 : Nat) = 1 by decide), if_neg (show ¬ (3 : Nat) = 2 by decide)]⟩
  · rw [if_neg (show ¬ (4 : Nat) = 0 by decide), if_neg (show ¬ (4 : Nat) = 1 by decide), if_neg (show ¬ (4 : Nat) = 2 by decide), if_neg (show ¬ (4 : Nat) = 3 by decide)] at hr ⊢
    have hh : L = 1 ∧ isCod P s := by
      by_cases hq : L = 1 ∧ isCod P s
      · exact hq
      · rw [if_neg hq] at hr; omega
    rw [if_neg (show ¬ nI 4 = 0 by decide), if_neg (show ¬ nI 4 = 1 by decide), if_neg (show ¬ nI 4 = 2 by decide), if_neg (show ¬ nI 4 = 3 by decide), X10_numberOf ok hc' (by omega) (by have := hh.2.1; omega)]
    simp only [Option.bind_some, Option.toList_some, List.cons_append, List.nil_append, b_X7_describePart_140]
    rw [show (11 : Int32) = nI 11 from rfl, X1_draft (by decide)]
    simp only [Option.bind_some, Option.toList_none, List.append_nil, b_X7_describePart_143]
    exact ⟨_, rfl, c40_tr (c40_wi _ _ _) (c40_wi _ _ _), by rw [wi_e, wi_e]⟩
