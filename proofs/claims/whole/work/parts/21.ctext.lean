/-! ===== the class's text ===== -/
theorem c_foldl_rep (l : List Int32) : ∀ (P : q_P) (T : a_M), q_ok P → q_c P T → q_c (q_foldl l P) (c_foldl l T) := by
  induction l with
  | nil => intro P T _ h; exact h
  | cons a l ih => intro P T ok h; exact ih _ _ (q_take_ok ok) (c_take_rep ok h)
theorem c_app1_75 (a k l : Int32) (T : a_M) : (c_app1 a k l T).1 7 = T.1 7 := by
  unfold c_app1 c_app2
  split
  · split
    · split
      · rw [pv_n (by decide), pv_n (by decide), pv_n (by decide)]
      · rw [pv_n (by decide), pv_n (by decide)]
    · rw [pv_n (by decide), pv_n (by decide)]
  · rfl
theorem c_take_75 (a : Int32) (T : a_M) : (c_take a T).1 7 5 = T.1 7 5 := by
  have hb : ∀ T : a_M, (c_begin T).1 7 5 = T.1 7 5 := by
    intro T
    unfold c_begin
    split
    · rw [wi_s (by decide), wi_s (by decide), pv_n (by decide), pv_n (by decide), pv_n (by decide), wi_s (by decide)]
    · rw [wi_s (by decide), wi_s (by decide)]
  have ha : ∀ T : a_M, (c_append a T).1 7 5 = T.1 7 5 := by
    intro T
    unfold c_append
    rw [c_app1_75]
    split
    · rfl
    · exact wi_s (by decide)
  unfold c_take
  split
  · rw [ha]
    split
    · exact hb T
    · rfl
  · split
    · rw [wi_s (by decide), wi_s (by decide)]
    · rw [wi_s (by decide)]
theorem c_foldl_75 (l : List Int32) : ∀ T : a_M, (c_foldl l T).1 7 5 = T.1 7 5 := by
  induction l with
  | nil => intro T; rfl
  | cons a l ih => intro T; exact (ih _).trans (c_take_75 a T)
def q_cb (x : q_P × Bool) (T : a_M) : Prop := q_ok x.1 ∧ q_c x.1 T ∧ T.1 7 5 = b2i (x.2 = true)
theorem c_split_rep (S : a_M) (n m : Nat) : q_cb (q_parse (S.1 2) n m (S.1 4) (S.1 5) (S.1 6)) (c_split S n m) := by
  unfold q_parse c_split
  refine p_walk_rel (fun (x : q_P × Bool) (T : a_M) => q_cb x T) ?_ ?_ n 0 _ _ ?_
  · rintro a x T ⟨h1, h2, h3⟩
    exact ⟨q_foldl_ok _ _ h1, c_foldl_rep _ _ _ h1 h2, (c_foldl_75 _ T).trans h3⟩
  · rintro x T ⟨h1, ⟨a1, a2, a3, a4, a5⟩, h3⟩
    refine ⟨h1, ⟨?_, ?_, ?_, ?_, fun k hk => ?_⟩, ?_⟩
    · show (a_wi T 7 5 1).1 7 4 = _
      rw [wi_s (by decide)]; exact a1
    · show (a_wi T 7 5 1).1 7 6 = _
      rw [wi_s (by decide)]; exact a2
    · show (a_wi T 7 5 1).1 7 7 = _
      rw [wi_s (by decide)]; exact a3
    · show (a_wi T 7 5 1).1 7 8 = _
      rw [wi_s (by decide)]; exact a4
    · have e : ∀ c, c ≠ 7 → (c_B T).1 c = T.1 c := fun c hc => wi_n hc
      rw [e 9 (by decide), e 11 (by decide), e 10 (by decide), e 8 (by decide)]
      exact a5 k hk
    · show (a_wi T 7 5 1).1 7 5 = _
      rw [wi_v]; rfl
  · refine ⟨q_zero_ok, ⟨?_, ?_, ?_, ?_, fun k hk => absurd hk (Nat.not_lt_zero _)⟩, ?_⟩
    · show (c_zero S).1 7 4 = nI 0
      unfold c_zero; simp [wi_at, nI_0]
    · unfold c_zero; simp [wi_at, b2i, q_zero]
    · unfold c_zero; simp [wi_at, b2i, q_zero]
    · unfold c_zero; simp [wi_at, b2i, q_zero]
    · unfold c_zero; simp [wi_at, b2i]
abbrev cl (x : Int32) : Nat := x.toNatClampNeg
/-- the line's words, and whether it is broken -/
def q_pS (S : a_M) : q_P × Bool := q_parse (S.1 2) (cl (S.1 1 1)) (cl (S.1 3 3)) (S.1 4) (S.1 5) (S.1 6)
def c_lineok (S : a_M) : Prop := ∃ n, c_line S n
def c_foldok (S : a_M) : Prop := ∃ m, c_folds S m
def c_text (S : a_M) : Prop := S.1 0 10 ≠ 0 → q_cb (q_pS S) S
theorem X11_freshText {S : a_M} (h1 : c_lineok S) (h2 : c_foldok S) (h3 : c_text S) : ∃ T, x_X11_freshText [.ref 0] S = some (some (.ref 7), a_wi T 0 10 1) ∧ c_same S T ∧ q_cb (q_pS S) T := by
  rw [e_X11_freshText]
  by_cases h : S.1 0 10 = 0
  · rw [if_pos h]
    obtain ⟨n, hn⟩ := h1
    obtain ⟨m, hm⟩ := h2
    rw [X10_split hn hm]
    simp only [Option.bind_some, Option.toList_none, List.append_nil, b_X11_freshText_22]
    refine ⟨_, rfl, c_split_same S n m, ?_⟩
    have e1 : cl (S.1 1 1) = n := by rw [hn.2]; exact nI_clamp (by have := hn.1; omega)
    have e2 : cl (S.1 3 3) = m := by rw [hm.2.1]; exact nI_clamp (by have := hm.1; omega)
    unfold q_pS
    rw [e1, e2]
    exact c_split_rep S n m
  · rw [if_neg h]
    exact ⟨_, rfl, ⟨fun _ _ => rfl, rfl⟩, h3 h⟩
theorem X10_state {x : q_P × Bool} {T : a_M} (h : q_cb x T) : x_X10_state [.ref 7] T = some (some (.int (q_ans x)), T) := by
  obtain ⟨h1, ⟨a1, a2, -, -, -⟩, h3⟩ := h
  rw [e_X10_state, h3, a1, a2]
  unfold q_ans
  simp only [b2i_z]
  have hn := h1.1.1
  by_cases e1 : x.2 = true
  · rw [if_neg (not_not_intro e1), if_pos e1]
  · rw [if_pos e1, if_neg e1]
    by_cases e2 : q_lo x.1 = true
    · rw [if_neg (not_not_intro e2), if_pos e2]
    · rw [if_pos e2, if_neg e2]
      by_cases e3 : x.1.1 = 0
      · rw [if_pos e3, if_pos (by rw [e3]; exact nI_0)]
      · rw [if_neg e3, if_neg (nI_ne0 (by omega) (by omega))]
theorem q_cb_frame {x : q_P × Bool} {S T : a_M} (h : q_cb x S) (e : ∀ c, 7 ≤ c → c ≤ 11 → T.1 c = S.1 c) : q_cb x T := by
  obtain ⟨h1, ⟨a1, a2, a3, a4, a5⟩, h3⟩ := h
  unfold q_cb q_c
  rw [e 7 (by decide) (by decide), e 8 (by decide) (by decide), e 9 (by decide) (by decide), e 10 (by decide) (by decide), e 11 (by decide) (by decide)]
  exact ⟨h1, ⟨a1, a2, a3, a4, a5⟩, h3⟩
/-- the answer of words is below 0, or tells that all is well -/
theorem q_ans_neg (x : q_P × Bool) (ok : q_ok x.1) : (q_ans x < 0 ∧ (x.2 = true ∨ q_lo x.1 = true ∨ x.1.1 = 0)) ∨ (x.2 = false ∧ q_lo x.1 = false ∧ 0 < x.1.1 ∧ q_ans x = nI x.1.1) := by
  have hn := ok.1.1
  unfold q_ans
  by_cases e1 : x.2 = true
  · rw [if_pos e1]; exact Or.inl ⟨by decide, Or.inl e1⟩
  · rw [if_neg e1]
    by_cases e2 : q_lo x.1 = true
    · rw [if_pos e2]; exact Or.inl ⟨by decide, Or.inr (Or.inl e2)⟩
    · rw [if_neg e2]
      by_cases e3 : x.1.1 = 0
      · rw [if_pos e3]; exact Or.inl ⟨by decide, Or.inr (Or.inr e3)⟩
      · rw [if_neg e3]
        refine Or.inr ⟨?_, ?_, by omega, rfl⟩
        · cases hx : x.2 <;> simp_all
        · cases hx : q_lo x.1 <;> simp_all
/-! reads of the text -/
theorem X10_lengthOf {P : q_P} {T : a_M} (ok : q_ok P) (h : q_c P T) {k : Nat} (hk : k < P.1) : x_X10_lengthOf [.ref 7, .int (nI k)] T = some (some (.int (nI (q_len P k))), T) := by
  have hn := ok.1.1
  rw [e_X10_lengthOf, at_9]
  simp only [Option.bind_some, Option.toList_some, List.append_nil, b_X10_lengthOf_8]
  rw [av_nI (by omega) (by decide), (h.2.2.2.2 k hk).1]
theorem X10_breakAhead {P : q_P} {T : a_M} (ok : q_ok P) (h : q_c P T) {k : Nat} (hk : k < P.1) : x_X10_breakAhead [.ref 7, .int (nI k)] T = some (some (.int (b2i (q_br P k = true))), T) := by
  have hn := ok.1.1
  rw [e_X10_breakAhead, at_11]
  simp only [Option.bind_some, Option.toList_some, List.append_nil, b_X10_breakAhead_8]
  rw [av_nI (by omega) (by decide), (h.2.2.2.2 k hk).2.1]
/-- sign i of word k, or -1 -/
def q_sat (P : q_P) (k i : Nat) : Int32 := if i < q_len P k then q_sg P k i else -1
theorem X10_signAt {P : q_P} {T : a_M} (ok : q_ok P) (h : q_c P T) {k i : Nat} (hk : k < P.1) (hi : i < 2 ^ 31) : x_X10_signAt [.ref 7, .int (nI k), .int (nI i)] T = some (some (.int (q_sat P k i)), T) := by
  have hn := ok.1.1
  have hl := ok.1.2.2.1 k hk
  obtain ⟨a1, -, -, a4⟩ := h.2.2.2.2 k hk
  rw [e_X10_signAt, if_neg (nI_pos hi), at_9]
  simp only [Option.bind_some, Option.toList_some, List.cons_append, List.nil_append, b_X10_signAt_13]
  rw [av_nI (by omega) (by decide), a1]
  unfold q_sat
  by_cases e : i < q_len P k
  · rw [if_pos e, if_pos (nI_lt e (by omega)), show (16 : Int32) = nI 16 from rfl, pk_mul, nI_add, at_8]
    simp only [Option.bind_some, Option.toList_some, List.append_nil, b_X10_signAt_29]
    rw [av_nI (by omega) (by decide), a4 i e]
  · rw [if_neg e, if_neg (nI_nlt (by omega) (by omega))]
theorem X10_signAt_neg {T : a_M} {k i : Int32} (hi : i < 0) : x_X10_signAt [.ref 7, .int k, .int i] T = some (some (.int (-1)), T) := by
  rw [e_X10_signAt, if_pos hi]
