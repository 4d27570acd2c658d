/-! ===== the reference's line gone through ===== -/
def m_folds (S : a_M) (n : Nat) : Prop := n ≤ 30 ∧ S.1 56 5 = nI n ∧ (∀ i j, i < n → j < n → S.1 58 i = S.1 58 j → i = j) ∧ ∀ i, i < n → S.1 60 i = -1 ∨ ¬ S.1 60 i < 0
theorem m_same_c {S T : a_M} (h : m_same S T) : T.1 57 = S.1 57 ∧ T.1 58 = S.1 58 ∧ T.1 59 = S.1 59 ∧ T.1 60 = S.1 60 ∧ T.1 56 1 = S.1 56 1 ∧ T.1 56 5 = S.1 56 5 :=
  ⟨h.1 57 (by decide) (by decide) (by decide) (by decide), h.1 58 (by decide) (by decide) (by decide) (by decide), h.1 59 (by decide) (by decide) (by decide) (by decide), h.1 60 (by decide) (by decide) (by decide) (by decide), h.2.1 1 (by decide) (by decide) (by decide) (by decide), h.2.1 5 (by decide) (by decide) (by decide) (by decide)⟩
theorem X12_takeFolded {P : q_P} {T : a_M} {n : Nat} {a : Int32} (hf : m_folds T n) (ok : q_ok P) (h : q_m P T) : ∃ T', x_X12_takeFolded [.ref 56, .int a] T = some (none, T') ∧ q_m (q_foldl (fo n (T.1 58) (T.1 59) (T.1 60) a) P) T' ∧ m_same T T' := by
  obtain ⟨hn, h3, hd, hb⟩ := hf
  obtain ⟨r, hr, hcase⟩ := X12_foldOf a T h3 hn
  rw [e_X12_takeFolded, hr]
  simp only [Option.bind_some, Option.toList_some, List.append_nil, b_X12_takeFolded_5]
  rcases hcase with ⟨rfl, hno⟩ | ⟨i, hi, rfl, hia⟩
  · rw [if_pos (by decide), fo_none hno, X12_in]
    simp only [Option.bind_some, Option.toList_some, List.cons_append, List.nil_append, b_X12_takeFolded_19, b2i_z, b_X12_takeFolded_30]
    by_cases hg : p_great a
    · rw [if_neg (not_not_intro hg), if_pos hg]
      obtain ⟨T1, e1, e2, e3⟩ := X12_take (a := a + 32) ok h
      rw [e1]
      simp only [Option.bind_some, Option.toList_none, List.append_nil, b_X12_takeFolded_33]
      exact ⟨T1, rfl, e2, e3⟩
    · rw [if_pos hg, if_neg hg]
      obtain ⟨T1, e1, e2, e3⟩ := X12_take (a := a) ok h
      rw [e1]
      simp only [Option.bind_some, Option.toList_none, List.append_nil, b_X12_takeFolded_33]
      exact ⟨T1, rfl, e2, e3⟩
  · rw [if_neg (nI_pos (by omega)), if_neg (nI_out (by omega) (by decide)), fo_some hd hi hia, nI_clamp (by omega)]
    obtain ⟨T1, e1, e2, e3⟩ := X12_take (a := T.1 59 i) ok h
    have e60 := (m_same_c e3).2.2.2.1
    rw [e1]
    simp only [Option.bind_some, Option.toList_none, List.append_nil, b_X12_takeFolded_44]
    rw [if_neg (nI_out (by omega) (by decide)), nI_clamp (by omega), e60]
    by_cases hq : T.1 60 i = -1
    · rw [if_pos hq, if_pos (by rw [hq]; decide)]
      exact ⟨T1, rfl, e2, e3⟩
    · rw [if_neg hq, if_neg ((hb i hi).resolve_left hq), if_neg (show ¬ (nI i < 0 ∨ 30 ≤ i) from nI_out2 (by omega) (by omega))]
      obtain ⟨T2, f1, f2, f3⟩ := X12_take (a := T.1 60 i) (q_take_ok ok) e2
      rw [f1]
      simp only [Option.bind_some, Option.toList_none, List.append_nil, b_X12_takeFolded_63]
      exact ⟨T2, rfl, f2, m_same_tr e3 f3⟩
theorem X12_isPair {S : a_M} {n i : Nat} (hn : n ≤ 120) (h1 : S.1 56 1 = nI n) (hi : i < n) : x_X12_isPair [.ref 56, .int (nI i)] S = some (some (.int (b2i (p_pair (S.1 57) n i))), S) := by
  rw [e_X12_isPair, h1, nI_1]
  by_cases e : i + 1 < n
  · rw [if_pos (nI_lt e (by omega)), if_neg (nI_out (by omega) (by decide)), nI_clamp (by omega), X12_in]
    simp only [Option.bind_some, Option.toList_some, List.append_nil, b_X12_isPair_23, b2i_z]
    by_cases e2 : p_h1 (S.1 57 i)
    · rw [if_neg (not_not_intro e2), nI_1, if_neg (nI_out (by omega) (by decide)), nI_clamp (by omega), X12_in]
      simp only [Option.bind_some, Option.toList_some, List.append_nil, b_X12_isPair_41, b2i_z]
      by_cases e3 : p_h2 (S.1 57 (i + 1))
      · rw [if_neg (not_not_intro e3), b2i_t ⟨e, e2, e3⟩]
      · rw [if_pos e3, b2i_f (fun q => e3 q.2.2)]
    · rw [if_pos e2, b2i_f (fun q => e2 q.2.1)]
  · rw [if_neg (nI_nlt (by omega) (by omega)), b2i_f (fun q => e q.1)]
/-- whether a half stands alone in the line -/
def q_bk (u : Nat → Int32) (n d i : Nat) (b : Bool) : Bool := p_walk u n (fun _ b => b) (fun _ => true) d i b
theorem q_bk_t (u : Nat → Int32) (n : Nat) : ∀ d i, q_bk u n d i true = true := by
  intro d
  induction d with
  | zero => intro i; rfl
  | succ d ih =>
    intro i
    show p_walk u n _ _ (d + 1) i true = true
    unfold p_walk
    split
    · split
      · exact ih _
      · split
        · exact ih _
        · exact ih _
    · rfl
theorem X12_isBrokenl {S : a_M} {n : Nat} (hn : n ≤ 120) (h1 : S.1 56 1 = nI n) : ∀ d i, n ≤ i + d → i ≤ n → g_X12_isBroken 2 [.ref 56, .int (nI i)] [] S = some (some (.int (b2i (q_bk (S.1 57) n d i false = true))), S) := by
  intro d
  induction d with
  | zero =>
    intro i h2 h3
    rw [b_X12_isBroken_2, h1, if_neg (nI_nlt (by omega) (by omega))]
    rfl
  | succ d ih =>
    intro i h2 h3
    rw [b_X12_isBroken_2, h1]
    rcases Nat.lt_or_ge i n with h4 | h4
    · rw [if_pos (nI_lt h4 (by omega)), X12_isPair hn h1 h4]
      simp only [Option.bind_some, Option.toList_some, List.append_nil, b_X12_isBroken_15, b2i_z]
      have hu : q_bk (S.1 57) n (d + 1) i false = if p_pair (S.1 57) n i then q_bk (S.1 57) n d (i + 2) false else if p_half (S.1 57 i) then q_bk (S.1 57) n d (i + 1) true else q_bk (S.1 57) n d (i + 1) false := by
        show p_walk (S.1 57) n _ _ (d + 1) i false = _
        conv => lhs; unfold p_walk
        rw [if_pos h4]
        rfl
      rw [hu]
      by_cases hp : p_pair (S.1 57) n i
      · rw [if_neg (not_not_intro hp), if_pos hp, nI_1, nI_1]
        exact ih (i + 2) (by omega) (by have := hp.1; omega)
      · rw [if_pos hp, if_neg hp, if_neg (nI_out (by omega) (by decide)), nI_clamp (by omega), X12_in]
        simp only [Option.bind_some, Option.toList_some, List.append_nil, b_X12_isBroken_37, b2i_z]
        by_cases hh : p_half (S.1 57 i)
        · rw [if_neg (not_not_intro hh), if_pos hh, q_bk_t]; rfl
        · rw [if_pos hh, if_neg hh, nI_1]
          exact ih (i + 1) (by omega) (by omega)
    · rw [if_neg (nI_nlt h4 (by omega))]
      have : q_bk (S.1 57) n (d + 1) i false = false := by
        show p_walk (S.1 57) n _ _ (d + 1) i false = _
        unfold p_walk
        rw [if_neg (by omega)]
      rw [this]; rfl
theorem q_bk_parse (u : Nat → Int32) (n m : Nat) (f g h : Nat → Int32) (d i : Nat) (P : q_P) : (p_walk u n (q_F m f g h) q_B d i (P, false)).2 = q_bk u n d i false :=
  p_walk_rel (fun (x : q_P × Bool) (b : Bool) => x.2 = b) (F := q_F m f g h) (B := q_B) (fun _ _ _ h => h) (fun _ _ _ => rfl) d i (P, false) false rfl
def m_fin (T : a_M) : Option a_O := if T.1 56 53 = 0 then (if T.1 56 6 = 0 then some (some (.int (-5)), T) else some (some (.int (T.1 56 6)), T)) else some (some (.int (-4)), T)
theorem X12_takenl {S : a_M} {n m : Nat} (hn : n ≤ 120) (h1 : S.1 56 1 = nI n) (hf : m_folds S m) : ∀ d i T P, m_same S T → q_ok P → q_m P T → n ≤ i + d → i ≤ n → q_bk (S.1 57) n d i false = false →
    ∃ T', g_X12_taken 32 [.ref 56, .int (nI i)] [] T = m_fin T' ∧ m_same S T' ∧ q_m (p_walk (S.1 57) n (q_F m (S.1 58) (S.1 59) (S.1 60)) q_B d i (P, false)).1 T' := by
  intro d
  induction d with
  | zero =>
    intro i T P hS ok h h2 h3 hb
    obtain ⟨-, -, -, -, e1, -⟩ := m_same_c hS
    rw [b_X12_taken_32, e1, h1, if_neg (nI_nlt (by omega) (by omega))]
    exact ⟨T, rfl, hS, h⟩
  | succ d ih =>
    intro i T P hS ok h h2 h3 hb
    obtain ⟨e57, e58, e59, e60, e1, e5⟩ := m_same_c hS
    have hfT : m_folds T m := by
      obtain ⟨a1, a2, a3, a4⟩ := hf
      exact ⟨a1, by rw [e5]; exact a2, by rw [e58]; exact a3, by rw [e60]; exact a4⟩
    rw [b_X12_taken_32, e1, h1]
    rcases Nat.lt_or_ge i n with h4 | h4
    · rw [if_pos (nI_lt h4 (by omega)), X12_isPair hn (e1.trans h1) h4]
      simp only [Option.bind_some, Option.toList_some, List.append_nil, b_X12_taken_45, b2i_z]
      rw [e57]
      have hu : q_bk (S.1 57) n (d + 1) i false = if p_pair (S.1 57) n i then q_bk (S.1 57) n d (i + 2) false else if p_half (S.1 57 i) then q_bk (S.1 57) n d (i + 1) true else q_bk (S.1 57) n d (i + 1) false := by
        show p_walk (S.1 57) n _ _ (d + 1) i false = _
        conv => lhs; unfold p_walk
        rw [if_pos h4]
        rfl
      rw [hu] at hb
      unfold p_walk
      rw [if_pos h4]
      by_cases hp : p_pair (S.1 57) n i
      · rw [if_pos hp] at hb
        rw [if_neg (not_not_intro hp), if_pos hp, if_neg (nI_out (by omega) (by decide)), nI_1, if_neg (nI_out (by have := hp.1; omega) (by decide)), nI_clamp (by omega), nI_clamp (by omega)]
        obtain ⟨T1, f1, f2, f3⟩ := X12_takeFolded (a := p_code (S.1 57 i) (S.1 57 (i + 1))) hfT ok h
        unfold p_code at f1
        rw [f1]
        simp only [Option.bind_some, Option.toList_none, List.append_nil, b_X12_taken_80]
        rw [nI_1, nI_1]
        rw [e58, e59, e60] at f2
        exact ih (i + 2) T1 _ (m_same_tr hS f3) (q_foldl_ok _ _ ok) f2 (by omega) (by have := hp.1; omega) hb
      · rw [if_neg hp] at hb
        by_cases hh : p_half (S.1 57 i)
        · rw [if_pos hh, q_bk_t] at hb; cases hb
        · rw [if_neg hh] at hb
          rw [if_pos hp, if_neg hp, if_neg hh, if_neg (nI_out (by omega) (by decide)), nI_clamp (by omega)]
          obtain ⟨T1, f1, f2, f3⟩ := X12_takeFolded (a := S.1 57 i) hfT ok h
          rw [f1]
          simp only [Option.bind_some, Option.toList_none, List.append_nil, b_X12_taken_96]
          rw [nI_1]
          rw [e58, e59, e60] at f2
          exact ih (i + 1) T1 _ (m_same_tr hS f3) (q_foldl_ok _ _ ok) f2 (by omega) (by omega) hb
    · have e : p_walk (S.1 57) n (q_F m (S.1 58) (S.1 59) (S.1 60)) q_B (d + 1) i (P, false) = (P, false) := by
        unfold p_walk
        rw [if_neg (by omega)]
      rw [if_neg (nI_nlt h4 (by omega)), e]
      exact ⟨T, rfl, hS, h⟩
theorem X12_taken {S : a_M} {n m : Nat} (hn : n ≤ 120) (h1 : S.1 56 1 = nI n) (hf : m_folds S m) :
    ∃ T', x_X12_taken [.ref 56] S = some (some (.int (q_ans (q_parse (S.1 57) n m (S.1 58) (S.1 59) (S.1 60)))), T') ∧ m_same S T' ∧ ((q_parse (S.1 57) n m (S.1 58) (S.1 59) (S.1 60)).2 = false → q_m (q_parse (S.1 57) n m (S.1 58) (S.1 59) (S.1 60)).1 T') := by
  have hb := q_bk_parse (S.1 57) n m (S.1 58) (S.1 59) (S.1 60) n 0 q_zero
  have ok := q_parse_ok (S.1 57) n m (S.1 58) (S.1 59) (S.1 60)
  have hz := X12_isBrokenl hn h1 n 0 (by omega) (by omega)
  rw [nI_0] at hz
  rw [e_X12_taken, e_X12_isBroken, hz]
  simp only [Option.bind_some, Option.toList_some, List.append_nil, b_X12_taken_4, b2i_z]
  unfold q_ans
  by_cases hq : q_bk (S.1 57) n n 0 false = true
  · rw [if_neg (not_not_intro hq)]
    have h2 : (q_parse (S.1 57) n m (S.1 58) (S.1 59) (S.1 60)).2 = true := hb.trans hq
    rw [if_pos h2]
    exact ⟨S, rfl, m_same_rfl S, fun q => by rw [h2] at q; cases q⟩
  · have hqf : q_bk (S.1 57) n n 0 false = false := by cases hx : q_bk (S.1 57) n n 0 false <;> simp_all
    have h2 : (q_parse (S.1 57) n m (S.1 58) (S.1 59) (S.1 60)).2 = false := hb.trans hqf
    rw [if_pos hq, if_neg (by rw [h2]; decide)]
    have hs0 : m_same S (a_wi (a_wi (a_wi (a_wi S 56 6 0) 56 51 0) 56 52 0) 56 53 0) := m_same_56 (m_same_56 (m_same_56 (m_same_56 (m_same_rfl S) (by omega)) (by omega)) (by omega)) (by omega)
    have hm0 : q_m q_zero (a_wi (a_wi (a_wi (a_wi S 56 6 0) 56 51 0) 56 52 0) 56 53 0) := by
      refine ⟨⟨0, by omega, by simp [wi_at, nI_0], fun q => ?_, fun k hk => absurd hk (Nat.not_lt_zero _)⟩, by simp [wi_at, b2i, q_zero], fun _ => ⟨?_, ?_, ?_, fun k hk => absurd hk (Nat.not_lt_zero _)⟩⟩
      · simp [wi_at] at q
      · simp [wi_at, q_zero, nI_0]
      · simp [wi_at, b2i, q_zero]
      · simp [wi_at, b2i, q_zero]
    obtain ⟨T', f1, f2, f3⟩ := X12_takenl hn h1 hf n 0 _ q_zero hs0 q_zero_ok hm0 (by omega) (by omega) hqf
    rw [nI_0] at f1
    rw [f1]
    refine ⟨T', ?_, f2, fun _ => f3⟩
    change q_m (q_parse (S.1 57) n m (S.1 58) (S.1 59) (S.1 60)).1 T' at f3
    obtain ⟨-, a2, a3⟩ := f3
    unfold m_fin
    rw [a2]
    by_cases e2 : q_lo (q_parse (S.1 57) n m (S.1 58) (S.1 59) (S.1 60)).1 = true
    · rw [if_pos e2, if_neg (by rw [b2i_t e2]; decide)]
    · have e2f : q_lo (q_parse (S.1 57) n m (S.1 58) (S.1 59) (S.1 60)).1 = false := by cases hx : q_lo (q_parse (S.1 57) n m (S.1 58) (S.1 59) (S.1 60)).1 <;> simp_all
      rw [if_neg e2, if_pos (b2i_f e2), (a3 e2f).1]
      have := ok.1.1
      by_cases e3 : (q_parse (S.1 57) n m (S.1 58) (S.1 59) (S.1 60)).1.1 = 0
      · rw [if_pos e3, if_pos (by rw [e3]; exact nI_0)]
      · rw [if_neg e3, if_neg (nI_ne0 (by omega) (by omega))]
