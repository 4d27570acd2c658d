/-! ===== the class's words of the line ===== -/
abbrev p_small (a : Int32) : Prop := ¬ a < 97 ∧ ¬ 122 < a
abbrev p_fig (a : Int32) : Prop := ¬ a < 48 ∧ ¬ 57 < a
abbrev p_great (a : Int32) : Prop := ¬ a < 65 ∧ ¬ 90 < a
abbrev p_half (a : Int32) : Prop := ¬ a < 55296 ∧ ¬ 57343 < a
abbrev p_h1 (a : Int32) : Prop := ¬ a < 55296 ∧ ¬ 56319 < a
abbrev p_h2 (a : Int32) : Prop := ¬ a < 56320 ∧ ¬ 57343 < a
abbrev p_word (a : Int32) : Prop := p_small a ∨ p_fig a ∨ ¬ a < 128
theorem X11_isSmall (a : Int32) (S : a_M) : x_X11_isSmallLetter [.int a] S = some (some (.int (b2i (p_small a))), S) := by
  rw [e_X11_isSmallLetter]
  by_cases h1 : a < 97 <;> by_cases h2 : 122 < a <;> simp [b2i, h1, h2]
theorem X11_isFigure (a : Int32) (S : a_M) : x_X11_isFigure [.int a] S = some (some (.int (b2i (p_fig a))), S) := by
  rw [e_X11_isFigure]
  by_cases h1 : a < 48 <;> by_cases h2 : 57 < a <;> simp [b2i, h1, h2]
theorem X11_isGreat (a : Int32) (S : a_M) : x_X11_isGreatLetter [.int a] S = some (some (.int (b2i (p_great a))), S) := by
  rw [e_X11_isGreatLetter]
  by_cases h1 : a < 65 <;> by_cases h2 : 90 < a <;> simp [b2i, h1, h2]
theorem X11_isHalf (a : Int32) (S : a_M) : x_X11_isHalf [.int a] S = some (some (.int (b2i (p_half a))), S) := by
  rw [e_X11_isHalf]
  by_cases h1 : a < 55296 <;> by_cases h2 : 57343 < a <;> simp [b2i, h1, h2]
theorem X11_isSecond (a : Int32) (S : a_M) : x_X11_isSecondHalf [.int a] S = some (some (.int (b2i (p_h2 a))), S) := by
  rw [e_X11_isSecondHalf]
  by_cases h1 : a < 56320 <;> by_cases h2 : 57343 < a <;> simp [b2i, h1, h2]
theorem p_lt_le (a b c : Int32) (h : b.toInt = c.toInt + 1) : a < b ↔ ¬ c < a := by
  rw [Int32.lt_iff_toInt_lt, Int32.lt_iff_toInt_lt]
  omega
theorem X11_isFirst (a : Int32) (S : a_M) : x_X11_isFirstHalf [.int a] S = some (some (.int (b2i (p_h1 a))), S) := by
  rw [e_X11_isFirstHalf]
  have h := p_lt_le a 56320 56319 (by decide)
  by_cases h1 : a < 55296 <;> by_cases h2 : 56319 < a <;> simp [b2i, h1, h2, h]
theorem X11_isWord (a : Int32) (S : a_M) : x_X11_isWordSign [.int a] S = some (some (.int (b2i (p_word a))), S) := by
  rw [e_X11_isWordSign, X11_isSmall]
  simp only [Option.bind_some, Option.toList_some, List.append_nil, b_X11_isWordSign_4, X11_isFigure, b_X11_isWordSign_11, b2i_z]
  by_cases h1 : p_small a
  · rw [if_neg (not_not_intro h1), b2i_t (Or.inl h1)]
  · rw [if_pos h1]
    by_cases h2 : p_fig a
    · rw [if_neg (not_not_intro h2), b2i_t (Or.inr (Or.inl h2))]
    · rw [if_pos h2]
      by_cases h3 : a < 128
      · rw [if_pos h3, b2i_f (fun q => q.elim h1 (fun q => q.elim h2 (fun q => q h3)))]
      · rw [if_neg h3, b2i_t (Or.inr (Or.inr h3))]
def c_begin (S : a_M) : a_M := if S.1 7 4 < 14 then
    a_wi (a_wi (pv (pv (pv (a_wi S 7 7 1) 11 14 (S.1 7 4) (if S.1 7 8 = 0 then 0 else if 0 < S.1 7 4 then 1 else 0)) 9 14 (S.1 7 4) 0) 10 14 (S.1 7 4) 0) 7 4 (S.1 7 4 + 1)) 7 8 0
  else a_wi (a_wi S 7 7 1) 7 6 1
theorem X10_begin (S : a_M) : x_X10_begin [.ref 7] S = some (none, c_begin S) := by
  rw [e_X10_begin]
  unfold c_begin
  by_cases h : S.1 7 4 < 14
  · rw [if_pos h, if_pos h]
    by_cases h2 : S.1 7 8 = 0
    · rw [if_pos h2, if_pos h2]
      simp (disch := decide) only [b_X10_begin_46, b_X10_begin_47, put_11, put_9, put_10, Option.bind_some, Option.toList_none, List.append_nil, b_X10_begin_50, b_X10_begin_62, b_X10_begin_74, pv_n, wi_s, wi_n]
    · rw [if_neg h2, if_neg h2]
      by_cases h3 : 0 < S.1 7 4
      · rw [if_pos h3, if_pos h3]
        simp (disch := decide) only [b_X10_begin_46, b_X10_begin_47, put_11, put_9, put_10, Option.bind_some, Option.toList_none, List.append_nil, b_X10_begin_50, b_X10_begin_62, b_X10_begin_74, pv_n, wi_s, wi_n]
      · rw [if_neg h3, if_neg h3]
        simp (disch := decide) only [b_X10_begin_46, b_X10_begin_47, put_11, put_9, put_10, Option.bind_some, Option.toList_none, List.append_nil, b_X10_begin_50, b_X10_begin_62, b_X10_begin_74, pv_n, wi_s, wi_n]
  · rw [if_neg h, if_neg h]
def c_app2 (a k l : Int32) (T : a_M) : a_M := if p_fig a then (if av T 10 14 k = l then pv T 10 14 k (l + 1) else T) else T
def c_app1 (a k l : Int32) (T : a_M) : a_M := if T.1 7 6 = 0 then c_app2 a k l (pv (pv T 8 224 (k * 16 + l) a) 9 14 k (l + 1)) else T
def c_append (a : Int32) (S : a_M) : a_M := c_app1 a (S.1 7 4 - 1) (av S 9 14 (S.1 7 4 - 1)) (if av S 9 14 (S.1 7 4 - 1) < 16 then S else a_wi S 7 6 1)
theorem X10_app1 (a k l : Int32) (T : a_M) : g_X10_append 27 [.ref 7, .int a, .int k, .int l] [] T = some (none, c_app1 a k l T) := by
  rw [b_X10_append_27]
  unfold c_app1
  by_cases h : T.1 7 6 = 0
  · rw [if_pos h, if_pos h]
    simp only [put_8, put_9, Option.bind_some, Option.toList_none, Option.toList_some, List.append_nil, b_X10_append_49, b_X10_append_60, X11_isFigure, b_X10_append_64, b2i_z, at_10, b_X10_append_75, put_10, b_X10_append_90]
    unfold c_app2
    by_cases h2 : p_fig a
    · rw [if_neg (not_not_intro h2), if_pos h2]
      split <;> rfl
    · rw [if_pos h2, if_neg h2]
  · rw [if_neg h, if_neg h]
theorem X10_append (a : Int32) (S : a_M) : x_X10_append [.ref 7, .int a] S = some (none, c_append a S) := by
  rw [e_X10_append, at_9]
  simp only [Option.bind_some, Option.toList_some, List.append_nil, b_X10_append_15, X10_app1]
  unfold c_append
  split <;> rfl
def c_take (a : Int32) (S : a_M) : a_M := if p_word a then c_append a (if S.1 7 7 = 0 then c_begin S else S) else (if a = 44 then a_wi (a_wi S 7 7 0) 7 8 1 else a_wi S 7 7 0)
theorem X10_take (a : Int32) (S : a_M) : x_X10_take [.ref 7, .int a] S = some (none, c_take a S) := by
  rw [e_X10_take, X11_isWord]
  simp only [Option.bind_some, Option.toList_some, List.append_nil, b_X10_take_4, b2i_z, X10_begin, Option.toList_none, b_X10_take_18, X10_append, b_X10_take_23]
  unfold c_take
  by_cases h : p_word a
  · rw [if_neg (not_not_intro h), if_pos h]
    split <;> rfl
  · rw [if_pos h, if_neg h]
    split <;> rfl
/-- outside of the words' own cells nothing moves -/
def c_in (k : Nat) : Prop := k = 7 ∨ k = 8 ∨ k = 9 ∨ k = 10 ∨ k = 11
theorem c_begin_fr (S : a_M) : (∀ k, ¬ c_in k → (c_begin S).1 k = S.1 k) ∧ (c_begin S).2 = S.2 := by
  unfold c_begin
  split
  · refine ⟨fun k hk => ?_, by simp only [wi_2, pv_2]⟩
    simp only [c_in, not_or] at hk
    rw [wi_n hk.1, wi_n hk.1, pv_n hk.2.2.2.1, pv_n hk.2.2.1, pv_n hk.2.2.2.2, wi_n hk.1]
  · refine ⟨fun k hk => ?_, rfl⟩
    simp only [c_in, not_or] at hk
    rw [wi_n hk.1, wi_n hk.1]
theorem c_append_fr (a : Int32) (S : a_M) : (∀ k, ¬ c_in k → (c_append a S).1 k = S.1 k) ∧ (c_append a S).2 = S.2 := by
  unfold c_append
  have h2 : ∀ (k l : Int32) (T : a_M), (∀ j, ¬ c_in j → (c_app1 a k l T).1 j = T.1 j) ∧ (c_app1 a k l T).2 = T.2 := by
    intro k l T
    unfold c_app1 c_app2
    refine ⟨fun j hj => ?_, ?_⟩
    · simp only [c_in, not_or] at hj
      split
      · split
        · split
          · rw [pv_n hj.2.2.2.1, pv_n hj.2.2.1, pv_n hj.2.1]
          · rw [pv_n hj.2.2.1, pv_n hj.2.1]
        · rw [pv_n hj.2.2.1, pv_n hj.2.1]
      · rfl
    · split
      · split
        · split <;> simp only [pv_2]
        · simp only [pv_2]
      · rfl
  obtain ⟨h3, h4⟩ := h2 (S.1 7 4 - 1) (av S 9 14 (S.1 7 4 - 1)) (if av S 9 14 (S.1 7 4 - 1) < 16 then S else a_wi S 7 6 1)
  refine ⟨fun k hk => ?_, ?_⟩
  · rw [h3 k hk]
    simp only [c_in, not_or] at hk
    split
    · rfl
    · exact wi_n hk.1
  · rw [h4]
    split <;> rfl
theorem c_take_fr (a : Int32) (S : a_M) : (∀ k, ¬ c_in k → (c_take a S).1 k = S.1 k) ∧ (c_take a S).2 = S.2 := by
  unfold c_take
  split
  · obtain ⟨h1, h2⟩ := c_append_fr a (if S.1 7 7 = 0 then c_begin S else S)
    refine ⟨fun k hk => ?_, ?_⟩
    · rw [h1 k hk]
      split
      · exact (c_begin_fr S).1 k hk
      · rfl
    · rw [h2]
      split
      · exact (c_begin_fr S).2
      · rfl
  · refine ⟨fun k hk => ?_, by split <;> rfl⟩
    simp only [c_in, not_or] at hk
    split
    · rw [wi_n hk.1, wi_n hk.1]
    · rw [wi_n hk.1]
/-! folds -/
/-- what a sign is folded to: n folds, from f to g, and h behind -/
def fo (n : Nat) (f g h : Nat → Int32) (a : Int32) : List Int32 := match (List.range n).find? (fun i => decide (f i = a)) with
  | some i => if h i = -1 then [g i] else [g i, h i]
  | none => [if p_great a then a + 32 else a]
theorem fo_some {n : Nat} {f g h : Nat → Int32} {a : Int32} (hd : ∀ i j, i < n → j < n → f i = f j → i = j) {i : Nat} (hi : i < n) (ha : f i = a) : fo n f g h a = if h i = -1 then [g i] else [g i, h i] := by
  unfold fo
  cases hf : (List.range n).find? (fun i => decide (f i = a)) with
  | none =>
    have := List.find?_eq_none.mp hf i (List.mem_range.mpr hi)
    simp [ha] at this
  | some j =>
    have h1 := List.find?_some hf
    have h2 := List.mem_range.mp (List.mem_of_find?_eq_some hf)
    have : j = i := hd j i h2 hi (by rw [ha]; exact of_decide_eq_true h1)
    rw [this]
theorem fo_none {n : Nat} {f g h : Nat → Int32} {a : Int32} (ha : ∀ i, i < n → f i ≠ a) : fo n f g h a = [if p_great a then a + 32 else a] := by
  unfold fo
  have : (List.range n).find? (fun i => decide (f i = a)) = none := List.find?_eq_none.mpr (fun i hi => by simpa using ha i (List.mem_range.mp hi))
  rw [this]
theorem X3_indexOf (a : Int32) (S : a_M) {n : Nat} (hn : S.1 3 3 = nI n) (hn30 : n ≤ 30) : ∃ r, x_X3_indexOf [.ref 3, .int a] S = some (some (.int r), S) ∧ ((r = -1 ∧ ∀ i, i < n → S.1 4 i ≠ a) ∨ ∃ i, i < n ∧ r = nI i ∧ S.1 4 i = a) := by
  rw [e_X3_indexOf]
  have key : ∀ d i, i + d = n → (∀ j, j < i → S.1 4 j ≠ a) → ∃ r, g_X3_indexOf 2 [.ref 3, .int a, .int (nI i)] [] S = some (some (.int r), S) ∧ ((r = -1 ∧ ∀ i, i < n → S.1 4 i ≠ a) ∨ ∃ i, i < n ∧ r = nI i ∧ S.1 4 i = a) := by
    intro d
    induction d with
    | zero =>
      intro i hi hj
      rw [b_X3_indexOf_2, if_neg (by rw [hn]; exact nI_nlt (by omega) (by omega))]
      exact ⟨_, rfl, Or.inl ⟨rfl, fun k hk => hj k (by omega)⟩⟩
    | succ d ih =>
      intro i hi hj
      rw [b_X3_indexOf_2, if_pos (by rw [hn]; exact nI_lt (by omega) (by omega)), at_4]
      simp only [Option.bind_some, Option.toList_some, List.append_nil, b_X3_indexOf_18]
      rw [av_nI (by omega) (by decide)]
      by_cases hq : S.1 4 i = a
      · rw [if_pos hq]
        exact ⟨_, rfl, Or.inr ⟨i, by omega, rfl, hq⟩⟩
      · rw [if_neg hq, nI_1]
        exact ih (i + 1) (by omega) (fun j hj' => by
          rcases Nat.lt_or_ge j i with h1 | h1
          · exact hj j h1
          · rw [show j = i by omega]; exact hq)
  have := key n 0 (by omega) (fun j hj => by omega)
  rw [nI_0] at this
  exact this
/-- what the class holds of folds -/
def c_folds (S : a_M) (n : Nat) : Prop := n ≤ 30 ∧ S.1 3 3 = nI n ∧ (∀ i j, i < n → j < n → S.1 4 i = S.1 4 j → i = j) ∧ ∀ i, i < n → S.1 6 i = -1 ∨ ¬ S.1 6 i < 0
def c_foldl (l : List Int32) (S : a_M) : a_M := l.foldl (fun T s => c_take s T) S
theorem c_foldl_fr (l : List Int32) : ∀ S : a_M, (∀ k, ¬ c_in k → (c_foldl l S).1 k = S.1 k) ∧ (c_foldl l S).2 = S.2 := by
  induction l with
  | nil => intro S; exact ⟨fun _ _ => rfl, rfl⟩
  | cons a l ih =>
    intro S
    have h1 := ih (c_take a S)
    have h2 := c_take_fr a S
    exact ⟨fun k hk => (h1.1 k hk).trans (h2.1 k hk), h1.2.trans h2.2⟩
theorem c_nin (k : Nat) (h : k < 7 ∨ 11 < k) : ¬ c_in k := by
  unfold c_in
  omega
theorem X10_takeFolded (a : Int32) (S : a_M) {n : Nat} (hf : c_folds S n) : x_X10_takeFolded [.ref 7, .int a, .ref 3] S = some (none, c_foldl (fo n (S.1 4) (S.1 5) (S.1 6) a) S) := by
  obtain ⟨hn, h3, hd, hb⟩ := hf
  obtain ⟨r, hr, hcase⟩ := X3_indexOf a S h3 hn
  rw [e_X10_takeFolded, hr]
  simp only [Option.bind_some, Option.toList_some, List.append_nil, b_X10_takeFolded_5]
  rcases hcase with ⟨rfl, hno⟩ | ⟨i, hi, rfl, hia⟩
  · rw [if_pos (by decide), fo_none hno, X11_isGreat]
    simp only [Option.bind_some, Option.toList_some, List.cons_append, List.nil_append, b_X10_takeFolded_15, b2i_z, b_X10_takeFolded_26, X10_take, Option.toList_none, b_X10_takeFolded_29]
    by_cases hg : p_great a
    · rw [if_neg (not_not_intro hg), if_pos hg]; rfl
    · rw [if_pos hg, if_neg hg]; rfl
  · rw [if_neg (nI_pos (by omega)), fo_some hd hi hia, e_X3_firstOf, at_5]
    simp only [Option.bind_some, Option.toList_some, List.append_nil, b_X3_firstOf_8, List.cons_append, List.nil_append, b_X10_takeFolded_36, X10_take, Option.toList_none, b_X10_takeFolded_39, e_X3_secondOf, at_6, b_X3_secondOf_8, b_X10_takeFolded_44, b_X10_takeFolded_54, b_X10_takeFolded_57]
    rw [av_nI (by omega) (by decide), av_nI (by omega) (by decide)]
    have h6 : (c_take (S.1 5 i) S).1 6 = S.1 6 := (c_take_fr _ S).1 6 (c_nin 6 (by omega))
    rw [h6]
    by_cases hq : S.1 6 i = -1
    · rw [if_pos hq, if_pos hq]; rfl
    · rw [if_neg hq, if_neg hq]; rfl
