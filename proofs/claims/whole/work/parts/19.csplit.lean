/-! ===== the class's split ===== -/
/-- whether a pair of units begins at i -/
abbrev p_pair (u : Nat → Int32) (n i : Nat) : Prop := i + 1 < n ∧ p_h1 (u i) ∧ p_h2 (u (i + 1))
def p_code (a b : Int32) : Int32 := ((65536 + (1024 * (a - 55296))) + b) - 56320
/-- the line gone through: F for a sign, B for a half alone -/
def p_walk {σ : Type} (u : Nat → Int32) (n : Nat) (F : Int32 → σ → σ) (B : σ → σ) : Nat → Nat → σ → σ
  | 0, _, s => s
  | d + 1, i, s => if i < n then
      (if p_pair u n i then p_walk u n F B d (i + 2) (F (p_code (u i) (u (i + 1))) s)
       else if p_half (u i) then p_walk u n F B d (i + 1) (B s)
       else p_walk u n F B d (i + 1) (F (u i) s))
    else s
theorem X5_get (i : Nat) (S : a_M) {n : Nat} (hn : S.1 1 1 = nI n) (hn2 : n ≤ 120) (hi : i ≤ 200) : x_X5_get [.ref 1, .int (nI i)] S = some (some (.int (if i < n then S.1 2 i else -1)), S) := by
  rw [e_X5_get, hn]
  by_cases h : i < n
  · rw [if_pos (nI_lt h (by omega)), at_2]
    simp only [Option.bind_some, Option.toList_some, List.append_nil, b_X5_get_16]
    rw [av_nI (by omega) (by decide), if_pos h]
  · rw [if_neg (nI_nlt (by omega) (by omega)), if_neg h]
/-- the line as the class holds it -/
def c_line (S : a_M) (n : Nat) : Prop := n ≤ 120 ∧ S.1 1 1 = nI n
def c_F (S0 : a_M) (m : Nat) (a : Int32) (T : a_M) : a_M := c_foldl (fo m (S0.1 4) (S0.1 5) (S0.1 6) a) T
def c_B (T : a_M) : a_M := a_wi T 7 5 1
/-- T has S's cells outside of the words -/
def c_same (S T : a_M) : Prop := (∀ k, ¬ c_in k → T.1 k = S.1 k) ∧ T.2 = S.2
theorem c_F_same {S T : a_M} {m : Nat} {a : Int32} (h : c_same S T) : c_same S (c_F S m a T) := by
  have h1 := c_foldl_fr (fo m (S.1 4) (S.1 5) (S.1 6) a) T
  exact ⟨fun k hk => (h1.1 k hk).trans (h.1 k hk), h1.2.trans h.2⟩
theorem c_B_same {S T : a_M} (h : c_same S T) : c_same S (c_B T) := by
  refine ⟨fun k hk => ?_, h.2⟩
  have : k ≠ 7 := fun q => hk (Or.inl q)
  exact (wi_n this).trans (h.1 k hk)
theorem p_half1 {a : Int32} (h : p_h1 a) : p_half a := by
  refine ⟨h.1, fun q => h.2 ?_⟩
  rw [Int32.lt_iff_toInt_lt] at q ⊢
  have h1 : (57343 : Int32).toInt = 57343 := by decide
  have h2 : (56319 : Int32).toInt = 56319 := by decide
  omega
theorem p_h2_m1 : ¬ p_h2 (-1) := by decide
theorem X10_splitl {S : a_M} {n m : Nat} (hl : c_line S n) (hf : c_folds S m) : ∀ (d i : Nat) (T : a_M), c_same S T → n ≤ i + d → i ≤ n + 1 → g_X10_split 27 [.ref 7, .ref 1, .ref 3, .int (nI i), .null, .null] [] T = some (none, p_walk (S.1 2) n (c_F S m) c_B d i T) ∨ (d = 0 ∧ i < n) := by
  obtain ⟨hn, h11⟩ := hl
  intro d
  induction d with
  | zero =>
    intro i T hT h1 h2
    rcases Nat.lt_or_ge i n with h3 | h3
    · exact Or.inr ⟨rfl, h3⟩
    · left
      have hT1 : T.1 1 1 = nI n := by rw [hT.1 1 (c_nin 1 (by omega))]; exact h11
      rw [b_X10_split_27, if_neg (by rw [hT1]; exact nI_nlt h3 (by omega))]
      rfl
  | succ d ih =>
    intro i T hT h1 h2
    left
    have hT1 : T.1 1 1 = nI n := by rw [hT.1 1 (c_nin 1 (by omega))]; exact h11
    have hT2 : T.1 2 = S.1 2 := hT.1 2 (c_nin 2 (by omega))
    have hfT : c_folds T m := by
      obtain ⟨a1, a2, a3, a4⟩ := hf
      refine ⟨a1, ?_, ?_, ?_⟩
      · rw [hT.1 3 (c_nin 3 (by omega))]; exact a2
      · rw [hT.1 4 (c_nin 4 (by omega))]; exact a3
      · rw [hT.1 6 (c_nin 6 (by omega))]; exact a4
    have hFT : ∀ a, c_foldl (fo m (T.1 4) (T.1 5) (T.1 6) a) T = c_F S m a T := by
      intro a
      unfold c_F
      rw [hT.1 4 (c_nin 4 (by omega)), hT.1 5 (c_nin 5 (by omega)), hT.1 6 (c_nin 6 (by omega))]
    rcases Nat.lt_or_ge i n with h3 | h3
    · have next : ∀ (i' : Nat) (T' : a_M), c_same S T' → n ≤ i' + d → i' ≤ n + 1 → (d ≠ 0 ∨ n ≤ i') → g_X10_split 27 [.ref 7, .ref 1, .ref 3, .int (nI i'), .null, .null] [] T' = some (none, p_walk (S.1 2) n (c_F S m) c_B d i' T') := by
        intro i' T' hT' q1 q2 q3
        rcases ih i' T' hT' q1 q2 with q | ⟨q4, q5⟩
        · exact q
        · omega
      rw [b_X10_split_27, if_pos (by rw [hT1]; exact nI_lt h3 (by omega)), X5_get i T hT1 hn (by omega)]
      simp only [Option.bind_some, Option.toList_some, List.append_nil, b_X10_split_40]
      rw [nI_1, X5_get (i + 1) T hT1 hn (by omega)]
      simp only [Option.bind_some, Option.toList_some, List.append_nil, b_X10_split_49, X11_isFirst, b_X10_split_56, b2i_z, X11_isSecond, b_X10_split_64]
      rw [if_pos h3, hT2]
      have alone : ¬ p_pair (S.1 2) n i → g_X10_split 96 [.ref 7, .ref 1, .ref 3, .int (nI i), .int (S.1 2 i), .null] [] T = some (none, p_walk (S.1 2) n (c_F S m) c_B (d + 1) i T) := by
        intro hp
        rw [b_X10_split_96, X11_isHalf]
        simp only [Option.bind_some, Option.toList_some, List.append_nil, b_X10_split_101, b2i_z]
        unfold p_walk
        rw [if_pos h3, if_neg hp]
        by_cases hh : p_half (S.1 2 i)
        · rw [if_neg (not_not_intro hh), if_pos hh, nI_1]
          exact next (i + 1) (c_B T) (c_B_same hT) (by omega) (by omega) (by omega)
        · rw [if_pos hh, if_neg hh, X10_takeFolded _ T hfT]
          simp only [Option.bind_some, Option.toList_none, List.append_nil, b_X10_split_119]
          rw [nI_1, hFT]
          exact next (i + 1) _ (c_F_same hT) (by omega) (by omega) (by omega)
      by_cases hh1 : p_h1 (S.1 2 i)
      · rw [if_neg (not_not_intro hh1)]
        by_cases hi1 : i + 1 < n
        · rw [if_pos hi1]
          by_cases hh2 : p_h2 (S.1 2 (i + 1))
          · rw [if_neg (not_not_intro hh2), X10_takeFolded _ T hfT]
            simp only [Option.bind_some, Option.toList_none, List.append_nil, b_X10_split_90]
            rw [nI_1, nI_1, hFT]
            unfold p_walk
            rw [if_pos h3, if_pos ⟨hi1, hh1, hh2⟩]
            exact next (i + 2) _ (c_F_same hT) (by omega) (by omega) (by omega)
          · rw [if_pos hh2]
            exact alone (fun q => hh2 q.2.2)
        · rw [if_neg hi1, if_pos p_h2_m1]
          exact alone (fun q => hi1 q.1)
      · rw [if_pos hh1]
        exact alone (fun q => hh1 q.2.1)
    · have h4 : p_walk (S.1 2) n (c_F S m) c_B (d + 1) i T = T := by
        unfold p_walk
        rw [if_neg (by omega)]
      rw [b_X10_split_27, if_neg (by rw [hT1]; exact nI_nlt h3 (by omega)), h4]
def c_zero (S : a_M) : a_M := a_wi (a_wi (a_wi (a_wi (a_wi S 7 4 0) 7 5 0) 7 6 0) 7 7 0) 7 8 0
theorem c_zero_same (S : a_M) : c_same S (c_zero S) := by
  refine ⟨fun k hk => ?_, rfl⟩
  have : k ≠ 7 := fun q => hk (Or.inl q)
  unfold c_zero
  rw [wi_n this, wi_n this, wi_n this, wi_n this, wi_n this]
/-- the words' cells behind split -/
def c_split (S : a_M) (n m : Nat) : a_M := p_walk (S.1 2) n (c_F S m) c_B n 0 (c_zero S)
theorem p_walk_same {S : a_M} {n m : Nat} : ∀ (d i : Nat) (T : a_M), c_same S T → c_same S (p_walk (S.1 2) n (c_F S m) c_B d i T) := by
  intro d
  induction d with
  | zero => intro i T hT; exact hT
  | succ d ih =>
    intro i T hT
    unfold p_walk
    split
    · split
      · exact ih _ _ (c_F_same hT)
      · split
        · exact ih _ _ (c_B_same hT)
        · exact ih _ _ (c_F_same hT)
    · exact hT
theorem X10_split {S : a_M} {n m : Nat} (hl : c_line S n) (hf : c_folds S m) : x_X10_split [.ref 7, .ref 1, .ref 3] S = some (none, c_split S n m) := by
  rw [e_X10_split]
  have h := X10_splitl hl hf n 0 (c_zero S) (c_zero_same S) (by omega) (by omega)
  rw [nI_0] at h
  rcases h with h | ⟨h1, h2⟩
  · exact h
  · omega
theorem c_split_same (S : a_M) (n m : Nat) : c_same S (c_split S n m) := p_walk_same n 0 _ (c_zero_same S)
