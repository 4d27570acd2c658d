/-! ===== the methods' segments as equations, by program ===== -/
def a_mkt (tab : Nat → Option a_E) (pc : Nat) (L : List Value) : List Value := match tab pc with
  | none => L
  | some e => a_mk (a_mo e) L
theorem a_mk_mk : ∀ (m : List Bool) (L : List Value), a_mk m (a_mk m L) = a_mk m L
  | [], L => rfl
  | b :: m, [] => rfl
  | b :: m, u :: l => by
    cases m with
    | nil => cases b <;> simp [a_mk]
    | cons b2 m2 =>
      have h := a_mk_mk (b2 :: m2) l
      cases b <;> simp only [a_mk, cond] at h ⊢ <;> rw [h]
theorem a_G_mkt (sc : a_Sc) (tab : Nat → Option a_E) (cb : a_C) (pc : Nat) (L st : List Value) (S : a_M) : a_G sc tab cb pc (a_mkt tab pc L) st S = a_G sc tab cb pc L st S := by
  rw [a_G_eq, a_G_eq sc tab cb pc L st S]
  unfold a_mkt
  cases h : tab pc with
  | none => rfl
  | some e =>
    dsimp only
    rw [a_mk_mk]
/-- some steps in the line, to a cut; what is dead there is forgotten -/
def a_evM (sc : a_Sc) (tab : Nat → Option a_E) (cb : a_C) (cut : Nat → Bool) (K : a_K) : Nat → a_K
  | 0 => K
  | n + 1 => fun pc L st S => bif cut pc then K pc (a_mkt tab pc L) st S else match tab pc with
    | none => none
    | some e => a_stp sc cb (a_evM sc tab cb cut K n) (fun pc L st S => K pc (a_mkt tab pc L) st S) e pc (a_mk (a_mo e) L) st S
theorem a_evM_G (sc : a_Sc) (tab : Nat → Option a_E) (cb : a_C) (cut : Nat → Bool) (n : Nat) : a_evM sc tab cb cut (a_G sc tab cb) n = a_G sc tab cb := by
  have hk : (fun pc L st S => a_G sc tab cb pc (a_mkt tab pc L) st S) = a_G sc tab cb := by
    funext pc L st S; exact a_G_mkt sc tab cb pc L st S
  induction n with
  | zero => rfl
  | succ n ih =>
    funext pc L st S
    show (bif cut pc then a_G sc tab cb pc (a_mkt tab pc L) st S else match tab pc with
      | none => none
      | some e => a_stp sc cb (a_evM sc tab cb cut (a_G sc tab cb) n) (fun pc L st S => a_G sc tab cb pc (a_mkt tab pc L) st S) e pc (a_mk (a_mo e) L) st S) = _
    rw [ih, hk, a_G_mkt]
    cases cut pc
    · exact (a_G_eq sc tab cb pc L st S).symm
    · rfl
theorem a_unf0 (sc : a_Sc) (tab : Nat → Option a_E) (cb : a_C) (cut : Nat → Bool) (n pc : Nat) (L st : List Value) (S : a_M) : a_G sc tab cb pc L st S = match tab pc with
    | none => none
    | some e => a_stp sc cb (a_evM sc tab cb cut (a_G sc tab cb) n) (fun pc L st S => a_G sc tab cb pc (a_mkt tab pc L) st S) e pc (a_mk (a_mo e) L) st S := by
  have hk : (fun pc L st S => a_G sc tab cb pc (a_mkt tab pc L) st S) = a_G sc tab cb := by
    funext pc L st S; exact a_G_mkt sc tab cb pc L st S
  rw [a_evM_G, hk]
  exact a_G_eq sc tab cb pc L st S
def k_X0_hasName : Nat → Bool := fun pc => false
noncomputable def g_X0_hasName : a_K := a_G none t_X0_hasName c_X0_hasName
theorem e_X0_hasName (a1 : Int32) (S : a_M) : x_X0_hasName [.ref 12, .int a1] S = (if a1 < 0 then some (some (.int (0)), S) else (if a1 < S.1 12 8 then some (some (.int (1)), S) else some (some (.int (0)), S))) :=
  (show x_X0_hasName [.ref 12, .int a1] S = g_X0_hasName 0 [.ref 12, .int (a1)] [] S from rfl).trans ((a_unf0 none t_X0_hasName c_X0_hasName k_X0_hasName 12 0 _ _ S).trans rfl)
def k_X0_sizeOf : Nat → Bool := fun pc => false
noncomputable def g_X0_sizeOf : a_K := a_G none t_X0_sizeOf c_X0_sizeOf
theorem e_X0_sizeOf (a1 : Int32) (S : a_M) : x_X0_sizeOf [.ref 12, .int a1] S = ((x_X11_at [.ref 16, .int (a1)] S).bind fun q => g_X0_sizeOf 8 [.null, .null] (q.1.toList ++ []) q.2) :=
  (show x_X0_sizeOf [.ref 12, .int a1] S = g_X0_sizeOf 0 [.ref 12, .int (a1)] [] S from rfl).trans ((a_unf0 none t_X0_sizeOf c_X0_sizeOf k_X0_sizeOf 7 0 _ _ S).trans rfl)
theorem b_X0_sizeOf_8 (s0 : Int32) (S : a_M) : g_X0_sizeOf 8 [.null, .null] [.int (s0)] S = some (some (.int (s0)), S) :=
  (a_unf0 none t_X0_sizeOf c_X0_sizeOf k_X0_sizeOf 7 8 _ _ S).trans rfl
def k_X0_wordOf : Nat → Bool := fun pc => false
noncomputable def g_X0_wordOf : a_K := a_G none t_X0_wordOf c_X0_wordOf
theorem e_X0_wordOf (a1 : Int32) (a2 : Int32) (S : a_M) : x_X0_wordOf [.ref 12, .int a1, .int a2] S = (if a2 < 0 then some (some (.int (-1)), S) else (if a2 < 4 then ((x_X11_at [.ref 15, .int ((a1 * 4) + a2)] S).bind fun q => g_X0_wordOf 21 [.null, .null, .null] (q.1.toList ++ []) q.2) else some (some (.int (-1)), S))) :=
  (show x_X0_wordOf [.ref 12, .int a1, .int a2] S = g_X0_wordOf 0 [.ref 12, .int (a1), .int (a2)] [] S from rfl).trans ((a_unf0 none t_X0_wordOf c_X0_wordOf k_X0_wordOf 18 0 _ _ S).trans rfl)
theorem b_X0_wordOf_21 (s0 : Int32) (S : a_M) : g_X0_wordOf 21 [.null, .null, .null] [.int (s0)] S = some (some (.int (s0)), S) :=
  (a_unf0 none t_X0_wordOf c_X0_wordOf k_X0_wordOf 18 21 _ _ S).trans rfl
def k_X0_lengthOf : Nat → Bool := fun pc => false
noncomputable def g_X0_lengthOf : a_K := a_G none t_X0_lengthOf c_X0_lengthOf
theorem e_X0_lengthOf (a1 : Int32) (S : a_M) : x_X0_lengthOf [.ref 12, .int a1] S = ((x_X11_at [.ref 14, .int (a1)] S).bind fun q => g_X0_lengthOf 8 [.null, .null] (q.1.toList ++ []) q.2) :=
  (show x_X0_lengthOf [.ref 12, .int a1] S = g_X0_lengthOf 0 [.ref 12, .int (a1)] [] S from rfl).trans ((a_unf0 none t_X0_lengthOf c_X0_lengthOf k_X0_lengthOf 7 0 _ _ S).trans rfl)
theorem b_X0_lengthOf_8 (s0 : Int32) (S : a_M) : g_X0_lengthOf 8 [.null, .null] [.int (s0)] S = some (some (.int (s0)), S) :=
  (a_unf0 none t_X0_lengthOf c_X0_lengthOf k_X0_lengthOf 7 8 _ _ S).trans rfl
def k_X0_signAt : Nat → Bool := fun pc => false
noncomputable def g_X0_signAt : a_K := a_G none t_X0_signAt c_X0_signAt
theorem e_X0_signAt (a1 : Int32) (a2 : Int32) (S : a_M) : x_X0_signAt [.ref 12, .int a1, .int a2] S = (if a2 < 0 then some (some (.int (-1)), S) else ((x_X11_at [.ref 14, .int (a1)] S).bind fun q => g_X0_signAt 13 [.ref 12, .int (a1), .int (a2)] (q.1.toList ++ [.int (a2)]) q.2)) :=
  (show x_X0_signAt [.ref 12, .int a1, .int a2] S = g_X0_signAt 0 [.ref 12, .int (a1), .int (a2)] [] S from rfl).trans ((a_unf0 none t_X0_signAt c_X0_signAt k_X0_signAt 21 0 _ _ S).trans rfl)
theorem b_X0_signAt_13 (a1 : Int32) (a2 : Int32) (s0 : Int32) (s1 : Int32) (S : a_M) : g_X0_signAt 13 [.ref 12, .int (a1), .int (a2)] [.int (s1), .int (s0)] S = (if s0 < s1 then ((x_X11_at [.ref 13, .int ((a1 * 16) + a2)] S).bind fun q => g_X0_signAt 29 [.null, .null, .null] (q.1.toList ++ []) q.2) else some (some (.int (-1)), S)) :=
  (a_unf0 none t_X0_signAt c_X0_signAt k_X0_signAt 21 13 _ _ S).trans rfl
theorem b_X0_signAt_29 (s0 : Int32) (S : a_M) : g_X0_signAt 29 [.null, .null, .null] [.int (s0)] S = some (some (.int (s0)), S) :=
  (a_unf0 none t_X0_signAt c_X0_signAt k_X0_signAt 21 29 _ _ S).trans rfl
def k_X10_lengthOf : Nat → Bool := fun pc => false
noncomputable def g_X10_lengthOf : a_K := a_G none t_X10_lengthOf c_X10_lengthOf
theorem e_X10_lengthOf (a1 : Int32) (S : a_M) : x_X10_lengthOf [.ref 7, .int a1] S = ((x_X11_at [.ref 9, .int (a1)] S).bind fun q => g_X10_lengthOf 8 [.null, .null] (q.1.toList ++ []) q.2) :=
  (show x_X10_lengthOf [.ref 7, .int a1] S = g_X10_lengthOf 0 [.ref 7, .int (a1)] [] S from rfl).trans ((a_unf0 none t_X10_lengthOf c_X10_lengthOf k_X10_lengthOf 7 0 _ _ S).trans rfl)
theorem b_X10_lengthOf_8 (s0 : Int32) (S : a_M) : g_X10_lengthOf 8 [.null, .null] [.int (s0)] S = some (some (.int (s0)), S) :=
  (a_unf0 none t_X10_lengthOf c_X10_lengthOf k_X10_lengthOf 7 8 _ _ S).trans rfl
def k_X10_signAt : Nat → Bool := fun pc => false
noncomputable def g_X10_signAt : a_K := a_G none t_X10_signAt c_X10_signAt
theorem e_X10_signAt (a1 : Int32) (a2 : Int32) (S : a_M) : x_X10_signAt [.ref 7, .int a1, .int a2] S = (if a2 < 0 then some (some (.int (-1)), S) else ((x_X11_at [.ref 9, .int (a1)] S).bind fun q => g_X10_signAt 13 [.ref 7, .int (a1), .int (a2)] (q.1.toList ++ [.int (a2)]) q.2)) :=
  (show x_X10_signAt [.ref 7, .int a1, .int a2] S = g_X10_signAt 0 [.ref 7, .int (a1), .int (a2)] [] S from rfl).trans ((a_unf0 none t_X10_signAt c_X10_signAt k_X10_signAt 21 0 _ _ S).trans rfl)
theorem b_X10_signAt_13 (a1 : Int32) (a2 : Int32) (s0 : Int32) (s1 : Int32) (S : a_M) : g_X10_signAt 13 [.ref 7, .int (a1), .int (a2)] [.int (s1), .int (s0)] S = (if s0 < s1 then ((x_X11_at [.ref 8, .int ((a1 * 16) + a2)] S).bind fun q => g_X10_signAt 29 [.null, .null, .null] (q.1.toList ++ []) q.2) else some (some (.int (-1)), S)) :=
  (a_unf0 none t_X10_signAt c_X10_signAt k_X10_signAt 21 13 _ _ S).trans rfl
theorem b_X10_signAt_29 (s0 : Int32) (S : a_M) : g_X10_signAt 29 [.null, .null, .null] [.int (s0)] S = some (some (.int (s0)), S) :=
  (a_unf0 none t_X10_signAt c_X10_signAt k_X10_signAt 21 29 _ _ S).trans rfl
def k_X0_isLike : Nat → Bool := fun pc => bif Nat.beq pc 22 then true else false
noncomputable def g_X0_isLike : a_K := a_G none t_X0_isLike c_X0_isLike
theorem e_X0_isLike (a2 : Int32) (a3 : Int32) (S : a_M) : x_X0_isLike [.ref 12, .ref 7, .int a2, .int a3] S = ((x_X0_lengthOf [.ref 12, .int (a3)] S).bind fun q => g_X0_isLike 5 [.ref 12, .ref 7, .int (a2), .int (a3), .null, .null] (q.1.toList ++ []) q.2) :=
  (show x_X0_isLike [.ref 12, .ref 7, .int a2, .int a3] S = g_X0_isLike 0 [.ref 12, .ref 7, .int (a2), .int (a3), .null, .null] [] S from rfl).trans ((a_unf0 none t_X0_isLike c_X0_isLike k_X0_isLike 33 0 _ _ S).trans rfl)
theorem b_X0_isLike_5 (a2 : Int32) (a3 : Int32) (s0 : Int32) (S : a_M) : g_X0_isLike 5 [.ref 12, .ref 7, .int (a2), .int (a3), .null, .null] [.int (s0)] S = ((x_X10_lengthOf [.ref 7, .int (a2)] S).bind fun q => g_X0_isLike 12 [.ref 12, .ref 7, .int (a2), .int (a3), .int (s0), .null] (q.1.toList ++ []) q.2) :=
  (a_unf0 none t_X0_isLike c_X0_isLike k_X0_isLike 33 5 _ _ S).trans rfl
theorem b_X0_isLike_12 (a2 : Int32) (a3 : Int32) (a4 : Int32) (s0 : Int32) (S : a_M) : g_X0_isLike 12 [.ref 12, .ref 7, .int (a2), .int (a3), .int (a4), .null] [.int (s0)] S = (if s0 = a4 then g_X0_isLike 22 [.ref 12, .ref 7, .int (a2), .int (a3), .int (a4), .int (0)] [] S else some (some (.int (0)), S)) :=
  (a_unf0 none t_X0_isLike c_X0_isLike k_X0_isLike 33 12 _ _ S).trans rfl
theorem b_X0_isLike_22 (a2 : Int32) (a3 : Int32) (a4 : Int32) (a5 : Int32) (S : a_M) : g_X0_isLike 22 [.ref 12, .ref 7, .int (a2), .int (a3), .int (a4), .int (a5)] [] S = (if a5 < a4 then ((x_X10_signAt [.ref 7, .int (a2), .int (a5)] S).bind fun q => g_X0_isLike 36 [.ref 12, .ref 7, .int (a2), .int (a3), .int (a4), .int (a5)] (q.1.toList ++ []) q.2) else some (some (.int (1)), S)) :=
  (a_unf0 none t_X0_isLike c_X0_isLike k_X0_isLike 33 22 _ _ S).trans rfl
theorem b_X0_isLike_36 (a2 : Int32) (a3 : Int32) (a4 : Int32) (a5 : Int32) (s0 : Int32) (S : a_M) : g_X0_isLike 36 [.ref 12, .ref 7, .int (a2), .int (a3), .int (a4), .int (a5)] [.int (s0)] S = ((x_X0_signAt [.ref 12, .int (a3), .int (a5)] S).bind fun q => g_X0_isLike 43 [.ref 12, .ref 7, .int (a2), .int (a3), .int (a4), .int (a5)] (q.1.toList ++ [.int (s0)]) q.2) :=
  (a_unf0 none t_X0_isLike c_X0_isLike k_X0_isLike 33 36 _ _ S).trans rfl
theorem b_X0_isLike_43 (a2 : Int32) (a3 : Int32) (a4 : Int32) (a5 : Int32) (s0 : Int32) (s1 : Int32) (S : a_M) : g_X0_isLike 43 [.ref 12, .ref 7, .int (a2), .int (a3), .int (a4), .int (a5)] [.int (s1), .int (s0)] S = (if s0 = s1 then g_X0_isLike 22 [.ref 12, .ref 7, .int (a2), .int (a3), .int (a4), .int (a5 + 1)] [] S else some (some (.int (0)), S)) :=
  (a_unf0 none t_X0_isLike c_X0_isLike k_X0_isLike 33 43 _ _ S).trans rfl
def k_X0_wordLike : Nat → Bool := fun pc => bif Nat.beq pc 2 then true else false
noncomputable def g_X0_wordLike : a_K := a_G none t_X0_wordLike c_X0_wordLike
theorem e_X0_wordLike (a2 : Int32) (S : a_M) : x_X0_wordLike [.ref 12, .ref 7, .int a2] S = g_X0_wordLike 2 [.ref 12, .ref 7, .int (a2), .int (0)] [] S :=
  (show x_X0_wordLike [.ref 12, .ref 7, .int a2] S = g_X0_wordLike 0 [.ref 12, .ref 7, .int (a2), .null] [] S from rfl).trans ((a_unf0 none t_X0_wordLike c_X0_wordLike k_X0_wordLike 20 0 _ _ S).trans rfl)
theorem b_X0_wordLike_2 (a2 : Int32) (a3 : Int32) (S : a_M) : g_X0_wordLike 2 [.ref 12, .ref 7, .int (a2), .int (a3)] [] S = (if a3 < S.1 12 7 then ((x_X0_isLike [.ref 12, .ref 7, .int (a2), .int (a3)] S).bind fun q => g_X0_wordLike 17 [.ref 12, .ref 7, .int (a2), .int (a3)] (q.1.toList ++ []) q.2) else some (some (.int (-1)), S)) :=
  (a_unf0 none t_X0_wordLike c_X0_wordLike k_X0_wordLike 20 2 _ _ S).trans rfl
theorem b_X0_wordLike_17 (a2 : Int32) (a3 : Int32) (s0 : Int32) (S : a_M) : g_X0_wordLike 17 [.ref 12, .ref 7, .int (a2), .int (a3)] [.int (s0)] S = (if s0 = 0 then g_X0_wordLike 2 [.ref 12, .ref 7, .int (a2), .int (a3 + 1)] [] S else some (some (.int (a3)), S)) :=
  (a_unf0 none t_X0_wordLike c_X0_wordLike k_X0_wordLike 20 17 _ _ S).trans rfl
def k_X0_isFound : Nat → Bool := fun pc => bif Nat.beq pc 13 then true else false
noncomputable def g_X0_isFound : a_K := a_G none t_X0_isFound c_X0_isFound
theorem e_X0_isFound (a1 : Int32) (a2 : Int32) (S : a_M) : x_X0_isFound [.ref 12, .int a1, .int a2] S = ((x_X0_sizeOf [.ref 12, .int (a1)] S).bind fun q => g_X0_isFound 5 [.ref 12, .int (a1), .int (a2), .null] (q.1.toList ++ []) q.2) :=
  (show x_X0_isFound [.ref 12, .int a1, .int a2] S = g_X0_isFound 0 [.ref 12, .int (a1), .int (a2), .null] [] S from rfl).trans ((a_unf0 none t_X0_isFound c_X0_isFound k_X0_isFound 29 0 _ _ S).trans rfl)
theorem b_X0_isFound_5 (a1 : Int32) (a2 : Int32) (s0 : Int32) (S : a_M) : g_X0_isFound 5 [.ref 12, .int (a1), .int (a2), .null] [.int (s0)] S = (if s0 = a2 then g_X0_isFound 13 [.ref 12, .int (a1), .int (a2), .int (0)] [] S else some (some (.int (0)), S)) :=
  (a_unf0 none t_X0_isFound c_X0_isFound k_X0_isFound 29 5 _ _ S).trans rfl
theorem b_X0_isFound_13 (a1 : Int32) (a2 : Int32) (a3 : Int32) (S : a_M) : g_X0_isFound 13 [.ref 12, .int (a1), .int (a2), .int (a3)] [] S = (if a3 < a2 then ((x_X0_wordOf [.ref 12, .int (a1), .int (a3)] S).bind fun q => g_X0_isFound 24 [.ref 12, .int (a1), .int (a2), .int (a3)] (q.1.toList ++ []) q.2) else some (some (.int (1)), S)) :=
  (a_unf0 none t_X0_isFound c_X0_isFound k_X0_isFound 29 13 _ _ S).trans rfl
theorem b_X0_isFound_24 (a1 : Int32) (a2 : Int32) (a3 : Int32) (s0 : Int32) (S : a_M) : g_X0_isFound 24 [.ref 12, .int (a1), .int (a2), .int (a3)] [.int (s0)] S = ((x_X11_at [.ref 19, .int (a3)] S).bind fun q => g_X0_isFound 32 [.ref 12, .int (a1), .int (a2), .int (a3)] (q.1.toList ++ [.int (s0)]) q.2) :=
  (a_unf0 none t_X0_isFound c_X0_isFound k_X0_isFound 29 24 _ _ S).trans rfl
theorem b_X0_isFound_32 (a1 : Int32) (a2 : Int32) (a3 : Int32) (s0 : Int32) (s1 : Int32) (S : a_M) : g_X0_isFound 32 [.ref 12, .int (a1), .int (a2), .int (a3)] [.int (s1), .int (s0)] S = (if s0 = s1 then g_X0_isFound 13 [.ref 12, .int (a1), .int (a2), .int (a3 + 1)] [] S else some (some (.int (0)), S)) :=
  (a_unf0 none t_X0_isFound c_X0_isFound k_X0_isFound 29 32 _ _ S).trans rfl
def k_X0_addWord : Nat → Bool := fun pc => bif Nat.beq pc 9 then true else false
noncomputable def g_X0_addWord : a_K := a_G none t_X0_addWord c_X0_addWord
theorem e_X0_addWord (a2 : Int32) (S : a_M) : x_X0_addWord [.ref 12, .ref 7, .int a2] S = ((x_X10_lengthOf [.ref 7, .int (a2)] S).bind fun q => g_X0_addWord 5 [.ref 12, .ref 7, .int (a2), .null, .null] (q.1.toList ++ []) q.2) :=
  (show x_X0_addWord [.ref 12, .ref 7, .int a2] S = g_X0_addWord 0 [.ref 12, .ref 7, .int (a2), .null, .null] [] S from rfl).trans ((a_unf0 none t_X0_addWord c_X0_addWord k_X0_addWord 43 0 _ _ S).trans rfl)
theorem b_X0_addWord_5 (a2 : Int32) (s0 : Int32) (S : a_M) : g_X0_addWord 5 [.ref 12, .ref 7, .int (a2), .null, .null] [.int (s0)] S = g_X0_addWord 9 [.ref 12, .ref 7, .int (a2), .int (s0), .int (0)] [] S :=
  (a_unf0 none t_X0_addWord c_X0_addWord k_X0_addWord 43 5 _ _ S).trans rfl
theorem b_X0_addWord_9 (a2 : Int32) (a3 : Int32) (a4 : Int32) (S : a_M) : g_X0_addWord 9 [.ref 12, .ref 7, .int (a2), .int (a3), .int (a4)] [] S = (if a4 < a3 then ((x_X10_signAt [.ref 7, .int (a2), .int (a4)] S).bind fun q => g_X0_addWord 36 [.ref 12, .ref 7, .int (a2), .int (a3), .int (a4)] (q.1.toList ++ [.int (((S.1 12 7) * 16) + a4), .ref 13]) q.2) else ((x_X11_put [.ref 14, .int (S.1 12 7), .int (a3)] S).bind fun q => g_X0_addWord 57 [.ref 12, .null, .null, .null, .null] (q.1.toList ++ []) q.2)) :=
  (a_unf0 none t_X0_addWord c_X0_addWord k_X0_addWord 43 9 _ _ S).trans rfl
theorem b_X0_addWord_36 (a2 : Int32) (a3 : Int32) (a4 : Int32) (s1 : Int32) (s2 : Int32) (S : a_M) : g_X0_addWord 36 [.ref 12, .ref 7, .int (a2), .int (a3), .int (a4)] [.int (s2), .int (s1), .ref 13] S = ((x_X11_put [.ref 13, .int (s1), .int (s2)] S).bind fun q => g_X0_addWord 39 [.ref 12, .ref 7, .int (a2), .int (a3), .int (a4)] (q.1.toList ++ []) q.2) :=
  (a_unf0 none t_X0_addWord c_X0_addWord k_X0_addWord 43 36 _ _ S).trans rfl
theorem b_X0_addWord_39 (a2 : Int32) (a3 : Int32) (a4 : Int32) (S : a_M) : g_X0_addWord 39 [.ref 12, .ref 7, .int (a2), .int (a3), .int (a4)] [] S = g_X0_addWord 9 [.ref 12, .ref 7, .int (a2), .int (a3), .int (a4 + 1)] [] S :=
  (a_unf0 none t_X0_addWord c_X0_addWord k_X0_addWord 43 39 _ _ S).trans rfl
theorem b_X0_addWord_57 (S : a_M) : g_X0_addWord 57 [.ref 12, .null, .null, .null, .null] [] S = some (some (.int (((S.1 12 7) + 1) - 1)), (a_wi S 12 7 ((S.1 12 7) + 1))) :=
  (a_unf0 none t_X0_addWord c_X0_addWord k_X0_addWord 43 57 _ _ S).trans rfl
def k_X0_enter : Nat → Bool := fun pc => bif Nat.beq pc 2 then true else bif Nat.beq pc 32 then true else bif Nat.beq pc 74 then true else bif Nat.beq pc 115 then true else false
noncomputable def g_X0_enter : a_K := a_G none t_X0_enter c_X0_enter
theorem e_X0_enter (S : a_M) : x_X0_enter [.ref 12, .ref 7] S = g_X0_enter 2 [.ref 12, .ref 7, .int (0), .null] [] S :=
  (show x_X0_enter [.ref 12, .ref 7] S = g_X0_enter 0 [.ref 12, .ref 7, .null, .null] [] S from rfl).trans ((a_unf0 none t_X0_enter c_X0_enter k_X0_enter 88 0 _ _ S).trans rfl)
theorem b_X0_enter_2 (a2 : Int32) (S : a_M) : g_X0_enter 2 [.ref 12, .ref 7, .int (a2), .null] [] S = (if a2 < S.1 7 4 then ((x_X0_wordLike [.ref 12, .ref 7, .int (a2)] S).bind fun q => g_X0_enter 21 [.ref 12, .ref 7, .int (a2), .null] (q.1.toList ++ [.int (a2), .ref 19]) q.2) else g_X0_enter 32 [.ref 12, .ref 7, .int (0), .null] [] S) :=
  (a_unf0 none t_X0_enter c_X0_enter k_X0_enter 88 2 _ _ S).trans rfl
theorem b_X0_enter_21 (a2 : Int32) (s1 : Int32) (s2 : Int32) (S : a_M) : g_X0_enter 21 [.ref 12, .ref 7, .int (a2), .null] [.int (s2), .int (s1), .ref 19] S = ((x_X11_put [.ref 19, .int (s1), .int (s2)] S).bind fun q => g_X0_enter 24 [.ref 12, .ref 7, .int (a2), .null] (q.1.toList ++ []) q.2) :=
  (a_unf0 none t_X0_enter c_X0_enter k_X0_enter 88 21 _ _ S).trans rfl
theorem b_X0_enter_24 (a2 : Int32) (S : a_M) : g_X0_enter 24 [.ref 12, .ref 7, .int (a2), .null] [] S = g_X0_enter 2 [.ref 12, .ref 7, .int (a2 + 1), .null] [] S :=
  (a_unf0 none t_X0_enter c_X0_enter k_X0_enter 88 24 _ _ S).trans rfl
theorem b_X0_enter_32 (a2 : Int32) (S : a_M) : g_X0_enter 32 [.ref 12, .ref 7, .int (a2), .null] [] S = (if a2 < S.1 12 8 then ((x_X0_isFound [.ref 12, .int (a2), .int (S.1 7 4)] S).bind fun q => g_X0_enter 49 [.ref 12, .ref 7, .int (a2), .null] (q.1.toList ++ []) q.2) else (if S.1 12 8 < 60 then g_X0_enter 74 [.ref 12, .ref 7, .int (0), .null] [] S else some (some (.int (-8)), S))) :=
  (a_unf0 none t_X0_enter c_X0_enter k_X0_enter 88 32 _ _ S).trans rfl
theorem b_X0_enter_49 (a2 : Int32) (s0 : Int32) (S : a_M) : g_X0_enter 49 [.ref 12, .ref 7, .int (a2), .null] [.int (s0)] S = (if s0 = 0 then g_X0_enter 32 [.ref 12, .ref 7, .int (a2 + 1), .null] [] S else some (some (.int (a2)), S)) :=
  (a_unf0 none t_X0_enter c_X0_enter k_X0_enter 88 49 _ _ S).trans rfl
theorem b_X0_enter_74 (a2 : Int32) (S : a_M) : g_X0_enter 74 [.ref 12, .ref 7, .int (a2), .null] [] S = (if a2 < S.1 7 4 then ((x_X0_wordLike [.ref 12, .ref 7, .int (a2)] S).bind fun q => g_X0_enter 88 [.ref 12, .ref 7, .int (a2), .null] (q.1.toList ++ []) q.2) else ((x_X11_put [.ref 16, .int (S.1 12 8), .int (S.1 7 4)] S).bind fun q => g_X0_enter 139 [.ref 12, .null, .null, .null] (q.1.toList ++ []) q.2)) :=
  (a_unf0 none t_X0_enter c_X0_enter k_X0_enter 88 74 _ _ S).trans rfl
theorem b_X0_enter_88 (a2 : Int32) (s0 : Int32) (S : a_M) : g_X0_enter 88 [.ref 12, .ref 7, .int (a2), .null] [.int (s0)] S = (if s0 < 0 then ((x_X0_addWord [.ref 12, .ref 7, .int (a2)] S).bind fun q => g_X0_enter 115 [.ref 12, .ref 7, .int (a2), .null] (q.1.toList ++ [.int (((S.1 12 8) * 4) + a2), .ref 15]) q.2) else g_X0_enter 115 [.ref 12, .ref 7, .int (a2), .null] [.int (s0), .int (((S.1 12 8) * 4) + a2), .ref 15] S) :=
  (a_unf0 none t_X0_enter c_X0_enter k_X0_enter 88 88 _ _ S).trans rfl
theorem b_X0_enter_115 (a2 : Int32) (s1 : Int32) (s2 : Int32) (S : a_M) : g_X0_enter 115 [.ref 12, .ref 7, .int (a2), .null] [.int (s2), .int (s1), .ref 15] S = ((x_X11_put [.ref 15, .int (s1), .int (s2)] S).bind fun q => g_X0_enter 118 [.ref 12, .ref 7, .int (a2), .null] (q.1.toList ++ []) q.2) :=
  (a_unf0 none t_X0_enter c_X0_enter k_X0_enter 88 115 _ _ S).trans rfl
theorem b_X0_enter_118 (a2 : Int32) (S : a_M) : g_X0_enter 118 [.ref 12, .ref 7, .int (a2), .null] [] S = g_X0_enter 74 [.ref 12, .ref 7, .int (a2 + 1), .null] [] S :=
  (a_unf0 none t_X0_enter c_X0_enter k_X0_enter 88 118 _ _ S).trans rfl
theorem b_X0_enter_139 (S : a_M) : g_X0_enter 139 [.ref 12, .null, .null, .null] [] S = some (some (.int (((S.1 12 8) + 1) - 1)), (a_wi S 12 8 ((S.1 12 8) + 1))) :=
  (a_unf0 none t_X0_enter c_X0_enter k_X0_enter 88 139 _ _ S).trans rfl
def k_X0_hasShort : Nat → Bool := fun pc => bif Nat.beq pc 2 then true else false
noncomputable def g_X0_hasShort : a_K := a_G none t_X0_hasShort c_X0_hasShort
theorem e_X0_hasShort (a1 : Int32) (a2 : Int32) (S : a_M) : x_X0_hasShort [.ref 12, .int a1, .int a2] S = g_X0_hasShort 2 [.ref 12, .int (a1), .int (a2), .int (0)] [] S :=
  (show x_X0_hasShort [.ref 12, .int a1, .int a2] S = g_X0_hasShort 0 [.ref 12, .int (a1), .int (a2), .null] [] S from rfl).trans ((a_unf0 none t_X0_hasShort c_X0_hasShort k_X0_hasShort 26 0 _ _ S).trans rfl)
theorem b_X0_hasShort_2 (a1 : Int32) (a2 : Int32) (a3 : Int32) (S : a_M) : g_X0_hasShort 2 [.ref 12, .int (a1), .int (a2), .int (a3)] [] S = (if a3 < S.1 12 9 then ((x_X11_at [.ref 17, .int (a3)] S).bind fun q => g_X0_hasShort 18 [.ref 12, .int (a1), .int (a2), .int (a3)] (q.1.toList ++ []) q.2) else some (some (.int (0)), S)) :=
  (a_unf0 none t_X0_hasShort c_X0_hasShort k_X0_hasShort 26 2 _ _ S).trans rfl
theorem b_X0_hasShort_18 (a1 : Int32) (a2 : Int32) (a3 : Int32) (s0 : Int32) (S : a_M) : g_X0_hasShort 18 [.ref 12, .int (a1), .int (a2), .int (a3)] [.int (s0)] S = (if s0 = a1 then ((x_X11_at [.ref 18, .int (a3)] S).bind fun q => g_X0_hasShort 30 [.ref 12, .int (a1), .int (a2), .int (a3)] (q.1.toList ++ []) q.2) else g_X0_hasShort 2 [.ref 12, .int (a1), .int (a2), .int (a3 + 1)] [] S) :=
  (a_unf0 none t_X0_hasShort c_X0_hasShort k_X0_hasShort 26 18 _ _ S).trans rfl
theorem b_X0_hasShort_30 (a1 : Int32) (a2 : Int32) (a3 : Int32) (s0 : Int32) (S : a_M) : g_X0_hasShort 30 [.ref 12, .int (a1), .int (a2), .int (a3)] [.int (s0)] S = (if s0 = a2 then some (some (.int (1)), S) else g_X0_hasShort 2 [.ref 12, .int (a1), .int (a2), .int (a3 + 1)] [] S) :=
  (a_unf0 none t_X0_hasShort c_X0_hasShort k_X0_hasShort 26 30 _ _ S).trans rfl
def k_X0_addShort : Nat → Bool := fun pc => false
noncomputable def g_X0_addShort : a_K := a_G none t_X0_addShort c_X0_addShort
theorem e_X0_addShort (a1 : Int32) (a2 : Int32) (S : a_M) : x_X0_addShort [.ref 12, .int a1, .int a2] S = ((x_X11_put [.ref 17, .int (S.1 12 9), .int (a1)] S).bind fun q => g_X0_addShort 12 [.ref 12, .null, .int (a2)] (q.1.toList ++ []) q.2) :=
  (show x_X0_addShort [.ref 12, .int a1, .int a2] S = g_X0_addShort 0 [.ref 12, .int (a1), .int (a2)] [] S from rfl).trans ((a_unf0 none t_X0_addShort c_X0_addShort k_X0_addShort 21 0 _ _ S).trans rfl)
theorem b_X0_addShort_12 (a2 : Int32) (S : a_M) : g_X0_addShort 12 [.ref 12, .null, .int (a2)] [] S = ((x_X11_put [.ref 18, .int (S.1 12 9), .int (a2)] S).bind fun q => g_X0_addShort 24 [.ref 12, .null, .null] (q.1.toList ++ []) q.2) :=
  (a_unf0 none t_X0_addShort c_X0_addShort k_X0_addShort 21 12 _ _ S).trans rfl
theorem b_X0_addShort_24 (S : a_M) : g_X0_addShort 24 [.ref 12, .null, .null] [] S = some (none, (a_wi S 12 9 ((S.1 12 9) + 1))) :=
  (a_unf0 none t_X0_addShort c_X0_addShort k_X0_addShort 21 24 _ _ S).trans rfl
def k_X0_shortReach : Nat → Bool := fun pc => bif Nat.beq pc 65 then true else false
noncomputable def g_X0_shortReach : a_K := a_G none t_X0_shortReach c_X0_shortReach
theorem e_X0_shortReach (a1 : Int32) (a2 : Int32) (a3 : Int32) (a4 : Int32) (S : a_M) : x_X0_shortReach [.ref 12, .int a1, .int a2, .int a3, .int a4] S = ((x_X11_at [.ref 17, .int (a1)] S).bind fun q => g_X0_shortReach 12 [.ref 12, .int (a1), .int (a2), .int (a3), .int (a4), .null, .null, .null, .null] (q.1.toList ++ [.ref 15]) q.2) :=
  (show x_X0_shortReach [.ref 12, .int a1, .int a2, .int a3, .int a4] S = g_X0_shortReach 0 [.ref 12, .int (a1), .int (a2), .int (a3), .int (a4), .null, .null, .null, .null] [] S from rfl).trans ((a_unf0 none t_X0_shortReach c_X0_shortReach k_X0_shortReach 67 0 _ _ S).trans rfl)
theorem b_X0_shortReach_12 (a1 : Int32) (a2 : Int32) (a3 : Int32) (a4 : Int32) (s1 : Int32) (S : a_M) : g_X0_shortReach 12 [.ref 12, .int (a1), .int (a2), .int (a3), .int (a4), .null, .null, .null, .null] [.int (s1), .ref 15] S = ((x_X11_at [.ref 15, .int (s1 * 4)] S).bind fun q => g_X0_shortReach 17 [.ref 12, .int (a1), .int (a2), .int (a3), .int (a4), .null, .null, .null, .null] (q.1.toList ++ []) q.2) :=
  (a_unf0 none t_X0_shortReach c_X0_shortReach k_X0_shortReach 67 12 _ _ S).trans rfl
theorem b_X0_shortReach_17 (a1 : Int32) (a2 : Int32) (a3 : Int32) (a4 : Int32) (s0 : Int32) (S : a_M) : g_X0_shortReach 17 [.ref 12, .int (a1), .int (a2), .int (a3), .int (a4), .null, .null, .null, .null] [.int (s0)] S = (if s0 = a2 then ((x_X11_at [.ref 18, .int (a1)] S).bind fun q => g_X0_shortReach 31 [.ref 12, .null, .null, .int (a3), .int (a4), .null, .null, .null, .null] (q.1.toList ++ []) q.2) else some (some (.int (0)), S)) :=
  (a_unf0 none t_X0_shortReach c_X0_shortReach k_X0_shortReach 67 17 _ _ S).trans rfl
theorem b_X0_shortReach_31 (a3 : Int32) (a4 : Int32) (s0 : Int32) (S : a_M) : g_X0_shortReach 31 [.ref 12, .null, .null, .int (a3), .int (a4), .null, .null, .null, .null] [.int (s0)] S = ((x_X11_at [.ref 16, .int (s0)] S).bind fun q => g_X0_shortReach 42 [.ref 12, .null, .null, .int (a3), .int (a4), .int (s0), .null, .null, .null] (q.1.toList ++ []) q.2) :=
  (a_unf0 none t_X0_shortReach c_X0_shortReach k_X0_shortReach 67 31 _ _ S).trans rfl
theorem b_X0_shortReach_42 (a3 : Int32) (a4 : Int32) (a5 : Int32) (s0 : Int32) (S : a_M) : g_X0_shortReach 42 [.ref 12, .null, .null, .int (a3), .int (a4), .int (a5), .null, .null, .null] [.int (s0)] S = ((x_X11_at [.ref 16, .int (a3)] S).bind fun q => g_X0_shortReach 57 [.ref 12, .null, .null, .int (a3), .int (a4), .int (a5), .int (s0), .null, .null] (q.1.toList ++ [.int (a4 + s0)]) q.2) :=
  (a_unf0 none t_X0_shortReach c_X0_shortReach k_X0_shortReach 67 42 _ _ S).trans rfl
theorem b_X0_shortReach_57 (a3 : Int32) (a4 : Int32) (a5 : Int32) (a6 : Int32) (s0 : Int32) (s1 : Int32) (S : a_M) : g_X0_shortReach 57 [.ref 12, .null, .null, .int (a3), .int (a4), .int (a5), .int (a6), .null, .null] [.int (s1), .int (s0)] S = (if s1 < s0 then some (some (.int (0)), S) else g_X0_shortReach 65 [.ref 12, .null, .null, .int (a3), .int (a4), .int (a5), .int (a6), .int (0), .null] [] S) :=
  (a_unf0 none t_X0_shortReach c_X0_shortReach k_X0_shortReach 67 57 _ _ S).trans rfl
theorem b_X0_shortReach_65 (a3 : Int32) (a4 : Int32) (a5 : Int32) (a6 : Int32) (a7 : Int32) (S : a_M) : g_X0_shortReach 65 [.ref 12, .null, .null, .int (a3), .int (a4), .int (a5), .int (a6), .int (a7), .null] [] S = (if a7 < a6 then ((x_X11_at [.ref 15, .int (((a3 * 4) + a4) + a7)] S).bind fun q => g_X0_shortReach 88 [.ref 12, .null, .null, .int (a3), .int (a4), .int (a5), .int (a6), .int (a7), .null] (q.1.toList ++ []) q.2) else some (some (.int (a6)), S)) :=
  (a_unf0 none t_X0_shortReach c_X0_shortReach k_X0_shortReach 67 65 _ _ S).trans rfl
theorem b_X0_shortReach_88 (a3 : Int32) (a4 : Int32) (a5 : Int32) (a6 : Int32) (a7 : Int32) (s0 : Int32) (S : a_M) : g_X0_shortReach 88 [.ref 12, .null, .null, .int (a3), .int (a4), .int (a5), .int (a6), .int (a7), .null] [.int (s0)] S = ((x_X11_at [.ref 15, .int ((a5 * 4) + a7)] S).bind fun q => g_X0_shortReach 104 [.ref 12, .null, .null, .int (a3), .int (a4), .int (a5), .int (a6), .int (a7), .int (s0)] (q.1.toList ++ []) q.2) :=
  (a_unf0 none t_X0_shortReach c_X0_shortReach k_X0_shortReach 67 88 _ _ S).trans rfl
theorem b_X0_shortReach_104 (a3 : Int32) (a4 : Int32) (a5 : Int32) (a6 : Int32) (a7 : Int32) (a8 : Int32) (s0 : Int32) (S : a_M) : g_X0_shortReach 104 [.ref 12, .null, .null, .int (a3), .int (a4), .int (a5), .int (a6), .int (a7), .int (a8)] [.int (s0)] S = (if s0 = a8 then g_X0_shortReach 65 [.ref 12, .null, .null, .int (a3), .int (a4), .int (a5), .int (a6), .int (a7 + 1), .null] [] S else some (some (.int (0)), S)) :=
  (a_unf0 none t_X0_shortReach c_X0_shortReach k_X0_shortReach 67 104 _ _ S).trans rfl
def k_X1_has : Nat → Bool := fun pc => false
noncomputable def g_X1_has : a_K := a_G none t_X1_has c_X1_has
theorem e_X1_has (a1 : Int32) (S : a_M) : x_X1_has [.ref 38, .int a1] S = (if a1 < 0 then some (some (.int (0)), S) else (if a1 < S.1 38 2 then some (some (.int (1)), S) else some (some (.int (0)), S))) :=
  (show x_X1_has [.ref 38, .int a1] S = g_X1_has 0 [.ref 38, .int (a1)] [] S from rfl).trans ((a_unf0 none t_X1_has c_X1_has k_X1_has 12 0 _ _ S).trans rfl)
def k_X1_get : Nat → Bool := fun pc => false
noncomputable def g_X1_get : a_K := a_G none t_X1_get c_X1_get
theorem e_X1_get (a1 : Int32) (a2 : Int32) (S : a_M) : x_X1_get [.ref 38, .int a1, .int a2] S = (if a2 < 0 then some (some (.int (-1)), S) else (if a2 < 17 then ((x_X11_at [.ref 39, .int ((a1 * 17) + a2)] S).bind fun q => g_X1_get 23 [.null, .null, .null] (q.1.toList ++ []) q.2) else some (some (.int (-1)), S))) :=
  (show x_X1_get [.ref 38, .int a1, .int a2] S = g_X1_get 0 [.ref 38, .int (a1), .int (a2)] [] S from rfl).trans ((a_unf0 none t_X1_get c_X1_get k_X1_get 18 0 _ _ S).trans rfl)
theorem b_X1_get_23 (s0 : Int32) (S : a_M) : g_X1_get 23 [.null, .null, .null] [.int (s0)] S = some (some (.int (s0)), S) :=
  (a_unf0 none t_X1_get c_X1_get k_X1_get 18 23 _ _ S).trans rfl
def k_X1_unitSignAt : Nat → Bool := fun pc => false
noncomputable def g_X1_unitSignAt : a_K := a_G none t_X1_unitSignAt c_X1_unitSignAt
theorem e_X1_unitSignAt (a1 : Int32) (a2 : Int32) (S : a_M) : x_X1_unitSignAt [.ref 38, .int a1, .int a2] S = ((x_X1_has [.ref 38, .int (a1)] S).bind fun q => g_X1_unitSignAt 5 [.ref 38, .int (a1), .int (a2)] (q.1.toList ++ []) q.2) :=
  (show x_X1_unitSignAt [.ref 38, .int a1, .int a2] S = g_X1_unitSignAt 0 [.ref 38, .int (a1), .int (a2)] [] S from rfl).trans ((a_unf0 none t_X1_unitSignAt c_X1_unitSignAt k_X1_unitSignAt 23 0 _ _ S).trans rfl)
theorem b_X1_unitSignAt_5 (a1 : Int32) (a2 : Int32) (s0 : Int32) (S : a_M) : g_X1_unitSignAt 5 [.ref 38, .int (a1), .int (a2)] [.int (s0)] S = (if s0 = 0 then some (some (.int (-1)), S) else (if a2 < 0 then some (some (.int (-1)), S) else ((x_X1_get [.ref 38, .int (a1), .int (9)] S).bind fun q => g_X1_unitSignAt 20 [.ref 38, .int (a1), .int (a2)] (q.1.toList ++ [.int (a2)]) q.2))) :=
  (a_unf0 none t_X1_unitSignAt c_X1_unitSignAt k_X1_unitSignAt 23 5 _ _ S).trans rfl
theorem b_X1_unitSignAt_20 (a1 : Int32) (a2 : Int32) (s0 : Int32) (s1 : Int32) (S : a_M) : g_X1_unitSignAt 20 [.ref 38, .int (a1), .int (a2)] [.int (s1), .int (s0)] S = (if s0 < s1 then ((x_X1_get [.ref 38, .int (a1), .int (13 + a2)] S).bind fun q => g_X1_unitSignAt 34 [.null, .null, .null] (q.1.toList ++ []) q.2) else some (some (.int (-1)), S)) :=
  (a_unf0 none t_X1_unitSignAt c_X1_unitSignAt k_X1_unitSignAt 23 20 _ _ S).trans rfl
theorem b_X1_unitSignAt_34 (s0 : Int32) (S : a_M) : g_X1_unitSignAt 34 [.null, .null, .null] [.int (s0)] S = some (some (.int (s0)), S) :=
  (a_unf0 none t_X1_unitSignAt c_X1_unitSignAt k_X1_unitSignAt 23 34 _ _ S).trans rfl
def k_X1_clearDraft : Nat → Bool := fun pc => bif Nat.beq pc 10 then true else false
noncomputable def g_X1_clearDraft : a_K := a_G none t_X1_clearDraft c_X1_clearDraft
theorem e_X1_clearDraft (S : a_M) : x_X1_clearDraft [.ref 38] S = ((x_J7_fill_53178 [.ref 40, .int (-1)] S).bind fun q => g_X1_clearDraft 8 [.ref 38, .null] (q.1.toList ++ []) q.2) :=
  (show x_X1_clearDraft [.ref 38] S = g_X1_clearDraft 0 [.ref 38, .null] [] S from rfl).trans ((a_unf0 none t_X1_clearDraft c_X1_clearDraft k_X1_clearDraft 19 0 _ _ S).trans rfl)
theorem b_X1_clearDraft_8 (S : a_M) : g_X1_clearDraft 8 [.ref 38, .null] [] S = g_X1_clearDraft 10 [.ref 38, .int (0)] [] S :=
  (a_unf0 none t_X1_clearDraft c_X1_clearDraft k_X1_clearDraft 19 8 _ _ S).trans rfl
theorem b_X1_clearDraft_10 (a1 : Int32) (S : a_M) : g_X1_clearDraft 10 [.ref 38, .int (a1)] [] S = (if a1 < 5 then ((x_X11_put [.ref 40, .int (a1), .int (0)] S).bind fun q => g_X1_clearDraft 24 [.ref 38, .int (a1)] (q.1.toList ++ []) q.2) else some (none, S)) :=
  (a_unf0 none t_X1_clearDraft c_X1_clearDraft k_X1_clearDraft 19 10 _ _ S).trans rfl
theorem b_X1_clearDraft_24 (a1 : Int32) (S : a_M) : g_X1_clearDraft 24 [.ref 38, .int (a1)] [] S = g_X1_clearDraft 10 [.ref 38, .int (a1 + 1)] [] S :=
  (a_unf0 none t_X1_clearDraft c_X1_clearDraft k_X1_clearDraft 19 24 _ _ S).trans rfl
def k_X1_draft : Nat → Bool := fun pc => false
noncomputable def g_X1_draft : a_K := a_G none t_X1_draft c_X1_draft
theorem e_X1_draft (a1 : Int32) (a2 : Int32) (S : a_M) : x_X1_draft [.ref 38, .int a1, .int a2] S = ((x_X11_put [.ref 40, .int (a1), .int (a2)] S).bind fun q => g_X1_draft 9 [.null, .null, .null] (q.1.toList ++ []) q.2) :=
  (show x_X1_draft [.ref 38, .int a1, .int a2] S = g_X1_draft 0 [.ref 38, .int (a1), .int (a2)] [] S from rfl).trans ((a_unf0 none t_X1_draft c_X1_draft k_X1_draft 8 0 _ _ S).trans rfl)
theorem b_X1_draft_9 (S : a_M) : g_X1_draft 9 [.null, .null, .null] [] S = some (none, S) :=
  (a_unf0 none t_X1_draft c_X1_draft k_X1_draft 8 9 _ _ S).trans rfl
def k_X1_isDrafted : Nat → Bool := fun pc => bif Nat.beq pc 2 then true else false
noncomputable def g_X1_isDrafted : a_K := a_G none t_X1_isDrafted c_X1_isDrafted
theorem e_X1_isDrafted (a1 : Int32) (S : a_M) : x_X1_isDrafted [.ref 38, .int a1] S = g_X1_isDrafted 2 [.ref 38, .int (a1), .int (0)] [] S :=
  (show x_X1_isDrafted [.ref 38, .int a1] S = g_X1_isDrafted 0 [.ref 38, .int (a1), .null] [] S from rfl).trans ((a_unf0 none t_X1_isDrafted c_X1_isDrafted k_X1_isDrafted 25 0 _ _ S).trans rfl)
theorem b_X1_isDrafted_2 (a1 : Int32) (a2 : Int32) (S : a_M) : g_X1_isDrafted 2 [.ref 38, .int (a1), .int (a2)] [] S = (if a2 < 17 then (if a2 = 12 then g_X1_isDrafted 2 [.ref 38, .int (a1), .int (a2 + 1)] [] S else ((x_X1_get [.ref 38, .int (a1), .int (a2)] S).bind fun q => g_X1_isDrafted 20 [.ref 38, .int (a1), .int (a2)] (q.1.toList ++ []) q.2)) else some (some (.int (1)), S)) :=
  (a_unf0 none t_X1_isDrafted c_X1_isDrafted k_X1_isDrafted 25 2 _ _ S).trans rfl
theorem b_X1_isDrafted_20 (a1 : Int32) (a2 : Int32) (s0 : Int32) (S : a_M) : g_X1_isDrafted 20 [.ref 38, .int (a1), .int (a2)] [.int (s0)] S = ((x_X11_at [.ref 40, .int (a2)] S).bind fun q => g_X1_isDrafted 28 [.ref 38, .int (a1), .int (a2)] (q.1.toList ++ [.int (s0)]) q.2) :=
  (a_unf0 none t_X1_isDrafted c_X1_isDrafted k_X1_isDrafted 25 20 _ _ S).trans rfl
theorem b_X1_isDrafted_28 (a1 : Int32) (a2 : Int32) (s0 : Int32) (s1 : Int32) (S : a_M) : g_X1_isDrafted 28 [.ref 38, .int (a1), .int (a2)] [.int (s1), .int (s0)] S = (if s0 = s1 then g_X1_isDrafted 2 [.ref 38, .int (a1), .int (a2 + 1)] [] S else some (some (.int (0)), S)) :=
  (a_unf0 none t_X1_isDrafted c_X1_isDrafted k_X1_isDrafted 25 28 _ _ S).trans rfl
def k_X1_keepDraft : Nat → Bool := fun pc => bif Nat.beq pc 2 then true else bif Nat.beq pc 73 then true else false
noncomputable def g_X1_keepDraft : a_K := a_G none t_X1_keepDraft c_X1_keepDraft
theorem e_X1_keepDraft (S : a_M) : x_X1_keepDraft [.ref 38] S = g_X1_keepDraft 2 [.ref 38, .int (0)] [] S :=
  (show x_X1_keepDraft [.ref 38] S = g_X1_keepDraft 0 [.ref 38, .null] [] S from rfl).trans ((a_unf0 none t_X1_keepDraft c_X1_keepDraft k_X1_keepDraft 72 0 _ _ S).trans rfl)
theorem b_X1_keepDraft_2 (a1 : Int32) (S : a_M) : g_X1_keepDraft 2 [.ref 38, .int (a1)] [] S = (if a1 < S.1 38 2 then ((x_X1_isDrafted [.ref 38, .int (a1)] S).bind fun q => g_X1_keepDraft 15 [.ref 38, .int (a1)] (q.1.toList ++ []) q.2) else (if S.1 38 2 < 40 then ((x_X1_draft [.ref 38, .int (12), .int (1)] S).bind fun q => g_X1_keepDraft 71 [.ref 38, .null] (q.1.toList ++ []) q.2) else some (some (.int (-8)), S))) :=
  (a_unf0 none t_X1_keepDraft c_X1_keepDraft k_X1_keepDraft 72 2 _ _ S).trans rfl
theorem b_X1_keepDraft_15 (a1 : Int32) (s0 : Int32) (S : a_M) : g_X1_keepDraft 15 [.ref 38, .int (a1)] [.int (s0)] S = (if s0 = 0 then g_X1_keepDraft 2 [.ref 38, .int (a1 + 1)] [] S else ((x_X1_get [.ref 38, .int (a1), .int (12)] S).bind fun q => g_X1_keepDraft 39 [.null, .int (a1)] (q.1.toList ++ [.int ((a1 * 17) + 12), .ref 39]) q.2)) :=
  (a_unf0 none t_X1_keepDraft c_X1_keepDraft k_X1_keepDraft 72 15 _ _ S).trans rfl
theorem b_X1_keepDraft_39 (a1 : Int32) (s1 : Int32) (s2 : Int32) (S : a_M) : g_X1_keepDraft 39 [.null, .int (a1)] [.int (s2), .int (s1), .ref 39] S = ((x_X11_put [.ref 39, .int (s1), .int (s2 + 1)] S).bind fun q => g_X1_keepDraft 44 [.null, .int (a1)] (q.1.toList ++ []) q.2) :=
  (a_unf0 none t_X1_keepDraft c_X1_keepDraft k_X1_keepDraft 72 39 _ _ S).trans rfl
theorem b_X1_keepDraft_44 (a1 : Int32) (S : a_M) : g_X1_keepDraft 44 [.null, .int (a1)] [] S = some (some (.int (a1)), S) :=
  (a_unf0 none t_X1_keepDraft c_X1_keepDraft k_X1_keepDraft 72 44 _ _ S).trans rfl
theorem b_X1_keepDraft_71 (S : a_M) : g_X1_keepDraft 71 [.ref 38, .null] [] S = g_X1_keepDraft 73 [.ref 38, .int (0)] [] S :=
  (a_unf0 none t_X1_keepDraft c_X1_keepDraft k_X1_keepDraft 72 71 _ _ S).trans rfl
theorem b_X1_keepDraft_73 (a1 : Int32) (S : a_M) : g_X1_keepDraft 73 [.ref 38, .int (a1)] [] S = (if a1 < 17 then ((x_X11_at [.ref 40, .int (a1)] S).bind fun q => g_X1_keepDraft 100 [.ref 38, .int (a1)] (q.1.toList ++ [.int (((S.1 38 2) * 17) + a1), .ref 39]) q.2) else some (some (.int (((S.1 38 2) + 1) - 1)), (a_wi S 38 2 ((S.1 38 2) + 1)))) :=
  (a_unf0 none t_X1_keepDraft c_X1_keepDraft k_X1_keepDraft 72 73 _ _ S).trans rfl
theorem b_X1_keepDraft_100 (a1 : Int32) (s1 : Int32) (s2 : Int32) (S : a_M) : g_X1_keepDraft 100 [.ref 38, .int (a1)] [.int (s2), .int (s1), .ref 39] S = ((x_X11_put [.ref 39, .int (s1), .int (s2)] S).bind fun q => g_X1_keepDraft 103 [.ref 38, .int (a1)] (q.1.toList ++ []) q.2) :=
  (a_unf0 none t_X1_keepDraft c_X1_keepDraft k_X1_keepDraft 72 100 _ _ S).trans rfl
theorem b_X1_keepDraft_103 (a1 : Int32) (S : a_M) : g_X1_keepDraft 103 [.ref 38, .int (a1)] [] S = g_X1_keepDraft 73 [.ref 38, .int (a1 + 1)] [] S :=
  (a_unf0 none t_X1_keepDraft c_X1_keepDraft k_X1_keepDraft 72 103 _ _ S).trans rfl
def k_X2_hasOneSlip : Nat → Bool := fun pc => bif Nat.beq pc 58 then true else bif Nat.beq pc 97 then true else bif Nat.beq pc 103 then true else bif Nat.beq pc 150 then true else false
noncomputable def g_X2_hasOneSlip : a_K := a_G none t_X2_hasOneSlip c_X2_hasOneSlip
theorem e_X2_hasOneSlip (a1 : Int32) (a2 : Int32) (S : a_M) : x_X2_hasOneSlip [.ref 41, .int a1, .int a2] S = ((x_X10_lengthOf [.ref 7, .int (a1)] S).bind fun q => g_X2_hasOneSlip 8 [.ref 41, .int (a1), .int (a2), .null, .null, .null, .null, .null, .null, .null] (q.1.toList ++ []) q.2) :=
  (show x_X2_hasOneSlip [.ref 41, .int a1, .int a2] S = g_X2_hasOneSlip 0 [.ref 41, .int (a1), .int (a2), .null, .null, .null, .null, .null, .null, .null] [] S from rfl).trans ((a_unf0 none t_X2_hasOneSlip c_X2_hasOneSlip k_X2_hasOneSlip 89 0 _ _ S).trans rfl)
theorem b_X2_hasOneSlip_8 (a1 : Int32) (a2 : Int32) (s0 : Int32) (S : a_M) : g_X2_hasOneSlip 8 [.ref 41, .int (a1), .int (a2), .null, .null, .null, .null, .null, .null, .null] [.int (s0)] S = ((x_X0_lengthOf [.ref 12, .int (a2)] S).bind fun q => g_X2_hasOneSlip 17 [.ref 41, .int (a1), .int (a2), .int (s0), .null, .null, .null, .null, .null, .null] (q.1.toList ++ []) q.2) :=
  (a_unf0 none t_X2_hasOneSlip c_X2_hasOneSlip k_X2_hasOneSlip 89 8 _ _ S).trans rfl
theorem b_X2_hasOneSlip_17 (a1 : Int32) (a2 : Int32) (a3 : Int32) (s0 : Int32) (S : a_M) : g_X2_hasOneSlip 17 [.ref 41, .int (a1), .int (a2), .int (a3), .null, .null, .null, .null, .null, .null] [.int (s0)] S = ((x_J9_max_7cf53 [.int (a3), .int (s0)] S).bind fun q => g_X2_hasOneSlip 25 [.ref 41, .int (a1), .int (a2), .int (a3), .int (s0), .null, .null, .null, .null, .null] (q.1.toList ++ []) q.2) :=
  (a_unf0 none t_X2_hasOneSlip c_X2_hasOneSlip k_X2_hasOneSlip 89 17 _ _ S).trans rfl
theorem b_X2_hasOneSlip_25 (a1 : Int32) (a2 : Int32) (a3 : Int32) (a4 : Int32) (s0 : Int32) (S : a_M) : g_X2_hasOneSlip 25 [.ref 41, .int (a1), .int (a2), .int (a3), .int (a4), .null, .null, .null, .null, .null] [.int (s0)] S = ((x_J9_min_7cf53 [.int (a3), .int (a4)] S).bind fun q => g_X2_hasOneSlip 33 [.ref 41, .int (a1), .int (a2), .int (a3), .int (a4), .int (s0), .null, .null, .null, .null] (q.1.toList ++ []) q.2) :=
  (a_unf0 none t_X2_hasOneSlip c_X2_hasOneSlip k_X2_hasOneSlip 89 25 _ _ S).trans rfl
theorem b_X2_hasOneSlip_33 (a1 : Int32) (a2 : Int32) (a3 : Int32) (a4 : Int32) (a5 : Int32) (s0 : Int32) (S : a_M) : g_X2_hasOneSlip 33 [.ref 41, .int (a1), .int (a2), .int (a3), .int (a4), .int (a5), .null, .null, .null, .null] [.int (s0)] S = (if a4 < 4 then some (some (.int (0)), S) else (if (1 : Int32) < a5 - s0 then some (some (.int (0)), S) else g_X2_hasOneSlip 58 [.ref 41, .int (a1), .int (a2), .int (a3), .int (a4), .int (a5), .int (s0), .int (0), .int (0), .null] [] S)) :=
  (a_unf0 none t_X2_hasOneSlip c_X2_hasOneSlip k_X2_hasOneSlip 89 33 _ _ S).trans rfl
theorem b_X2_hasOneSlip_58 (a1 : Int32) (a2 : Int32) (a3 : Int32) (a4 : Int32) (a5 : Int32) (a6 : Int32) (a7 : Int32) (a8 : Int32) (S : a_M) : g_X2_hasOneSlip 58 [.ref 41, .int (a1), .int (a2), .int (a3), .int (a4), .int (a5), .int (a6), .int (a7), .int (a8), .null] [] S = (if a8 < a6 then ((x_X10_signAt [.ref 7, .int (a1), .int (a8)] S).bind fun q => g_X2_hasOneSlip 75 [.ref 41, .int (a1), .int (a2), .int (a3), .int (a4), .int (a5), .int (a6), .int (a7), .int (a8), .null] (q.1.toList ++ []) q.2) else g_X2_hasOneSlip 97 [.ref 41, .int (a1), .int (a2), .int (a3), .int (a4), .int (a5), .int (a6), .int (a7), .null, .null] [] S) :=
  (a_unf0 none t_X2_hasOneSlip c_X2_hasOneSlip k_X2_hasOneSlip 89 58 _ _ S).trans rfl
theorem b_X2_hasOneSlip_75 (a1 : Int32) (a2 : Int32) (a3 : Int32) (a4 : Int32) (a5 : Int32) (a6 : Int32) (a7 : Int32) (a8 : Int32) (s0 : Int32) (S : a_M) : g_X2_hasOneSlip 75 [.ref 41, .int (a1), .int (a2), .int (a3), .int (a4), .int (a5), .int (a6), .int (a7), .int (a8), .null] [.int (s0)] S = ((x_X0_signAt [.ref 12, .int (a2), .int (a8)] S).bind fun q => g_X2_hasOneSlip 85 [.ref 41, .int (a1), .int (a2), .int (a3), .int (a4), .int (a5), .int (a6), .int (a7), .int (a8), .null] (q.1.toList ++ [.int (s0)]) q.2) :=
  (a_unf0 none t_X2_hasOneSlip c_X2_hasOneSlip k_X2_hasOneSlip 89 75 _ _ S).trans rfl
theorem b_X2_hasOneSlip_85 (a1 : Int32) (a2 : Int32) (a3 : Int32) (a4 : Int32) (a5 : Int32) (a6 : Int32) (a7 : Int32) (a8 : Int32) (s0 : Int32) (s1 : Int32) (S : a_M) : g_X2_hasOneSlip 85 [.ref 41, .int (a1), .int (a2), .int (a3), .int (a4), .int (a5), .int (a6), .int (a7), .int (a8), .null] [.int (s1), .int (s0)] S = (if s0 = s1 then g_X2_hasOneSlip 58 [.ref 41, .int (a1), .int (a2), .int (a3), .int (a4), .int (a5), .int (a6), .int (a7 + 1), .int (a8 + 1), .null] [] S else g_X2_hasOneSlip 97 [.ref 41, .int (a1), .int (a2), .int (a3), .int (a4), .int (a5), .int (a6), .int (a7), .null, .null] [] S) :=
  (a_unf0 none t_X2_hasOneSlip c_X2_hasOneSlip k_X2_hasOneSlip 89 85 _ _ S).trans rfl
theorem b_X2_hasOneSlip_97 (a1 : Int32) (a2 : Int32) (a3 : Int32) (a4 : Int32) (a5 : Int32) (a6 : Int32) (a7 : Int32) (S : a_M) : g_X2_hasOneSlip 97 [.ref 41, .int (a1), .int (a2), .int (a3), .int (a4), .int (a5), .int (a6), .int (a7), .null, .null] [] S = g_X2_hasOneSlip 103 [.ref 41, .int (a1), .int (a2), .int (a3), .int (a4), .int (a5), .int (a6), .int (a7), .int (0), .int (1)] [] S :=
  (a_unf0 none t_X2_hasOneSlip c_X2_hasOneSlip k_X2_hasOneSlip 89 97 _ _ S).trans rfl
theorem b_X2_hasOneSlip_103 (a1 : Int32) (a2 : Int32) (a3 : Int32) (a4 : Int32) (a5 : Int32) (a6 : Int32) (a7 : Int32) (a8 : Int32) (a9 : Int32) (S : a_M) : g_X2_hasOneSlip 103 [.ref 41, .int (a1), .int (a2), .int (a3), .int (a4), .int (a5), .int (a6), .int (a7), .int (a8), .int (a9)] [] S = (if a6 - a7 < a9 then g_X2_hasOneSlip 150 [.null, .null, .null, .null, .null, .int (a5), .null, .int (a7), .int (a8), .null] [] S else ((x_X10_signAt [.ref 7, .int (a1), .int (a3 - a9)] S).bind fun q => g_X2_hasOneSlip 125 [.ref 41, .int (a1), .int (a2), .int (a3), .int (a4), .int (a5), .int (a6), .int (a7), .int (a8), .int (a9)] (q.1.toList ++ []) q.2)) :=
  (a_unf0 none t_X2_hasOneSlip c_X2_hasOneSlip k_X2_hasOneSlip 89 103 _ _ S).trans rfl
theorem b_X2_hasOneSlip_125 (a1 : Int32) (a2 : Int32) (a3 : Int32) (a4 : Int32) (a5 : Int32) (a6 : Int32) (a7 : Int32) (a8 : Int32) (a9 : Int32) (s0 : Int32) (S : a_M) : g_X2_hasOneSlip 125 [.ref 41, .int (a1), .int (a2), .int (a3), .int (a4), .int (a5), .int (a6), .int (a7), .int (a8), .int (a9)] [.int (s0)] S = ((x_X0_signAt [.ref 12, .int (a2), .int (a4 - a9)] S).bind fun q => g_X2_hasOneSlip 138 [.ref 41, .int (a1), .int (a2), .int (a3), .int (a4), .int (a5), .int (a6), .int (a7), .int (a8), .int (a9)] (q.1.toList ++ [.int (s0)]) q.2) :=
  (a_unf0 none t_X2_hasOneSlip c_X2_hasOneSlip k_X2_hasOneSlip 89 125 _ _ S).trans rfl
theorem b_X2_hasOneSlip_138 (a1 : Int32) (a2 : Int32) (a3 : Int32) (a4 : Int32) (a5 : Int32) (a6 : Int32) (a7 : Int32) (a8 : Int32) (a9 : Int32) (s0 : Int32) (s1 : Int32) (S : a_M) : g_X2_hasOneSlip 138 [.ref 41, .int (a1), .int (a2), .int (a3), .int (a4), .int (a5), .int (a6), .int (a7), .int (a8), .int (a9)] [.int (s1), .int (s0)] S = (if s0 = s1 then g_X2_hasOneSlip 103 [.ref 41, .int (a1), .int (a2), .int (a3), .int (a4), .int (a5), .int (a6), .int (a7), .int (a8 + 1), .int (a9 + 1)] [] S else g_X2_hasOneSlip 150 [.null, .null, .null, .null, .null, .int (a5), .null, .int (a7), .int (a8), .null] [] S) :=
  (a_unf0 none t_X2_hasOneSlip c_X2_hasOneSlip k_X2_hasOneSlip 89 138 _ _ S).trans rfl
theorem b_X2_hasOneSlip_150 (a5 : Int32) (a7 : Int32) (a8 : Int32) (S : a_M) : g_X2_hasOneSlip 150 [.null, .null, .null, .null, .null, .int (a5), .null, .int (a7), .int (a8), .null] [] S = (if a7 + a8 = a5 - 1 then some (some (.int (1)), S) else some (some (.int (0)), S)) :=
  (a_unf0 none t_X2_hasOneSlip c_X2_hasOneSlip k_X2_hasOneSlip 89 150 _ _ S).trans rfl
def k_X2_prepare : Nat → Bool := fun pc => bif Nat.beq pc 2 then true else bif Nat.beq pc 37 then true else bif Nat.beq pc 63 then true else bif Nat.beq pc 87 then true else false
noncomputable def g_X2_prepare : a_K := a_G none t_X2_prepare c_X2_prepare
theorem e_X2_prepare (S : a_M) : x_X2_prepare [.ref 41] S = g_X2_prepare 2 [.ref 41, .int (0), .null, .null, .null] [] S :=
  (show x_X2_prepare [.ref 41] S = g_X2_prepare 0 [.ref 41, .null, .null, .null, .null] [] S from rfl).trans ((a_unf0 none t_X2_prepare c_X2_prepare k_X2_prepare 56 0 _ _ S).trans rfl)
theorem b_X2_prepare_2 (a1 : Int32) (S : a_M) : g_X2_prepare 2 [.ref 41, .int (a1), .null, .null, .null] [] S = (if a1 < S.1 7 4 then ((x_X0_wordLike [.ref 12, .ref 7, .int (a1)] S).bind fun q => g_X2_prepare 25 [.ref 41, .int (a1), .null, .null, .null] (q.1.toList ++ []) q.2) else some (none, S)) :=
  (a_unf0 none t_X2_prepare c_X2_prepare k_X2_prepare 56 2 _ _ S).trans rfl
theorem b_X2_prepare_25 (a1 : Int32) (s0 : Int32) (S : a_M) : g_X2_prepare 25 [.ref 41, .int (a1), .null, .null, .null] [.int (s0)] S = ((x_X11_put [.ref 42, .int (a1), .int (s0)] S).bind fun q => g_X2_prepare 35 [.ref 41, .int (a1), .int (s0), .null, .null] (q.1.toList ++ []) q.2) :=
  (a_unf0 none t_X2_prepare c_X2_prepare k_X2_prepare 56 25 _ _ S).trans rfl
theorem b_X2_prepare_35 (a1 : Int32) (a2 : Int32) (S : a_M) : g_X2_prepare 35 [.ref 41, .int (a1), .int (a2), .null, .null] [] S = g_X2_prepare 37 [.ref 41, .int (a1), .int (a2), .int (0), .null] [] S :=
  (a_unf0 none t_X2_prepare c_X2_prepare k_X2_prepare 56 35 _ _ S).trans rfl
theorem b_X2_prepare_37 (a1 : Int32) (a2 : Int32) (a3 : Int32) (S : a_M) : g_X2_prepare 37 [.ref 41, .int (a1), .int (a2), .int (a3), .null] [] S = (if a3 < S.1 12 7 then ((x_X2_hasOneSlip [.ref 41, .int (a1), .int (a3)] S).bind fun q => g_X2_prepare 54 [.ref 41, .int (a1), .int (a2), .int (a3), .null] (q.1.toList ++ []) q.2) else g_X2_prepare 2 [.ref 41, .int (a1 + 1), .null, .null, .null] [] S) :=
  (a_unf0 none t_X2_prepare c_X2_prepare k_X2_prepare 56 37 _ _ S).trans rfl
theorem b_X2_prepare_54 (a1 : Int32) (a2 : Int32) (a3 : Int32) (s0 : Int32) (S : a_M) : g_X2_prepare 54 [.ref 41, .int (a1), .int (a2), .int (a3), .null] [.int (s0)] S = (if s0 = 0 then g_X2_prepare 63 [.ref 41, .int (a1), .int (a2), .int (a3), .null] [.int (1000000)] S else g_X2_prepare 63 [.ref 41, .int (a1), .int (a2), .int (a3), .null] [.int (3)] S) :=
  (a_unf0 none t_X2_prepare c_X2_prepare k_X2_prepare 56 54 _ _ S).trans rfl
theorem b_X2_prepare_63 (a1 : Int32) (a2 : Int32) (a3 : Int32) (s0 : Int32) (S : a_M) : g_X2_prepare 63 [.ref 41, .int (a1), .int (a2), .int (a3), .null] [.int (s0)] S = (if a3 = a2 then g_X2_prepare 87 [.ref 41, .int (a1), .int (a2), .int (a3), .null] [.int (0), .int ((a1 * 240) + a3), .ref 43] S else g_X2_prepare 87 [.ref 41, .int (a1), .int (a2), .int (a3), .null] [.int (s0), .int ((a1 * 240) + a3), .ref 43] S) :=
  (a_unf0 none t_X2_prepare c_X2_prepare k_X2_prepare 56 63 _ _ S).trans rfl
theorem b_X2_prepare_87 (a1 : Int32) (a2 : Int32) (a3 : Int32) (s1 : Int32) (s2 : Int32) (S : a_M) : g_X2_prepare 87 [.ref 41, .int (a1), .int (a2), .int (a3), .null] [.int (s2), .int (s1), .ref 43] S = ((x_X11_put [.ref 43, .int (s1), .int (s2)] S).bind fun q => g_X2_prepare 90 [.ref 41, .int (a1), .int (a2), .int (a3), .null] (q.1.toList ++ []) q.2) :=
  (a_unf0 none t_X2_prepare c_X2_prepare k_X2_prepare 56 87 _ _ S).trans rfl
theorem b_X2_prepare_90 (a1 : Int32) (a2 : Int32) (a3 : Int32) (S : a_M) : g_X2_prepare 90 [.ref 41, .int (a1), .int (a2), .int (a3), .null] [] S = g_X2_prepare 37 [.ref 41, .int (a1), .int (a2), .int (a3 + 1), .null] [] S :=
  (a_unf0 none t_X2_prepare c_X2_prepare k_X2_prepare 56 90 _ _ S).trans rfl
def k_X2_bookWordOf : Nat → Bool := fun pc => false
noncomputable def g_X2_bookWordOf : a_K := a_G none t_X2_bookWordOf c_X2_bookWordOf
theorem e_X2_bookWordOf (a1 : Int32) (S : a_M) : x_X2_bookWordOf [.ref 41, .int a1] S = ((x_X11_at [.ref 42, .int (a1)] S).bind fun q => g_X2_bookWordOf 8 [.null, .null] (q.1.toList ++ []) q.2) :=
  (show x_X2_bookWordOf [.ref 41, .int a1] S = g_X2_bookWordOf 0 [.ref 41, .int (a1)] [] S from rfl).trans ((a_unf0 none t_X2_bookWordOf c_X2_bookWordOf k_X2_bookWordOf 7 0 _ _ S).trans rfl)
theorem b_X2_bookWordOf_8 (s0 : Int32) (S : a_M) : g_X2_bookWordOf 8 [.null, .null] [.int (s0)] S = some (some (.int (s0)), S) :=
  (a_unf0 none t_X2_bookWordOf c_X2_bookWordOf k_X2_bookWordOf 7 8 _ _ S).trans rfl
def k_X2_lower : Nat → Bool := fun pc => false
noncomputable def g_X2_lower : a_K := a_G none t_X2_lower c_X2_lower
theorem e_X2_lower (a1 : Int32) (a2 : Int32) (a3 : Int32) (S : a_M) : x_X2_lower [.ref 41, .int a1, .int a2, .int a3] S = ((x_X11_at [.ref 44, .int ((a1 * 5) + a2)] S).bind fun q => g_X2_lower 17 [.ref 41, .null, .null, .int (a3), .int ((a1 * 5) + a2)] (q.1.toList ++ [.int (a3)]) q.2) :=
  (show x_X2_lower [.ref 41, .int a1, .int a2, .int a3] S = g_X2_lower 0 [.ref 41, .int (a1), .int (a2), .int (a3), .null] [] S from rfl).trans ((a_unf0 none t_X2_lower c_X2_lower k_X2_lower 20 0 _ _ S).trans rfl)
theorem b_X2_lower_17 (a3 : Int32) (a4 : Int32) (s0 : Int32) (s1 : Int32) (S : a_M) : g_X2_lower 17 [.ref 41, .null, .null, .int (a3), .int (a4)] [.int (s1), .int (s0)] S = (if s0 < s1 then ((x_X11_put [.ref 44, .int (a4), .int (a3)] S).bind fun q => g_X2_lower 30 [.null, .null, .null, .null, .null] (q.1.toList ++ []) q.2) else some (none, S)) :=
  (a_unf0 none t_X2_lower c_X2_lower k_X2_lower 20 17 _ _ S).trans rfl
theorem b_X2_lower_30 (S : a_M) : g_X2_lower 30 [.null, .null, .null, .null, .null] [] S = some (none, S) :=
  (a_unf0 none t_X2_lower c_X2_lower k_X2_lower 20 30 _ _ S).trans rfl
def k_X2_step : Nat → Bool := fun pc => bif Nat.beq pc 63 then true else bif Nat.beq pc 83 then true else false
noncomputable def g_X2_step : a_K := a_G none t_X2_step c_X2_step
theorem e_X2_step (a1 : Int32) (a2 : Int32) (a3 : Int32) (a4 : Int32) (S : a_M) : x_X2_step [.ref 41, .int a1, .int a2, .int a3, .int a4] S = ((x_X11_at [.ref 44, .int ((a3 * 5) + a4)] S).bind fun q => g_X2_step 13 [.ref 41, .int (a1), .int (a2), .int (a3), .int (a4), .null, .null, .null, .null, .null] (q.1.toList ++ []) q.2) :=
  (show x_X2_step [.ref 41, .int a1, .int a2, .int a3, .int a4] S = g_X2_step 0 [.ref 41, .int (a1), .int (a2), .int (a3), .int (a4), .null, .null, .null, .null, .null] [] S from rfl).trans ((a_unf0 none t_X2_step c_X2_step k_X2_step 78 0 _ _ S).trans rfl)
theorem b_X2_step_13 (a1 : Int32) (a2 : Int32) (a3 : Int32) (a4 : Int32) (s0 : Int32) (S : a_M) : g_X2_step 13 [.ref 41, .int (a1), .int (a2), .int (a3), .int (a4), .null, .null, .null, .null, .null] [.int (s0)] S = ((x_X0_wordOf [.ref 12, .int (a1), .int (a4)] S).bind fun q => g_X2_step 34 [.ref 41, .int (a1), .int (a2), .int (a3), .int (a4), .int (s0), .null, .null, .null, .null] (q.1.toList ++ [.int (a2 * 240), .ref 43]) q.2) :=
  (a_unf0 none t_X2_step c_X2_step k_X2_step 78 13 _ _ S).trans rfl
theorem b_X2_step_34 (a1 : Int32) (a2 : Int32) (a3 : Int32) (a4 : Int32) (a5 : Int32) (s1 : Int32) (s2 : Int32) (S : a_M) : g_X2_step 34 [.ref 41, .int (a1), .int (a2), .int (a3), .int (a4), .int (a5), .null, .null, .null, .null] [.int (s2), .int (s1), .ref 43] S = ((x_X11_at [.ref 43, .int (s1 + s2)] S).bind fun q => g_X2_step 38 [.ref 41, .int (a1), .int (a2), .int (a3), .int (a4), .int (a5), .null, .null, .null, .null] (q.1.toList ++ []) q.2) :=
  (a_unf0 none t_X2_step c_X2_step k_X2_step 78 34 _ _ S).trans rfl
theorem b_X2_step_38 (a1 : Int32) (a2 : Int32) (a3 : Int32) (a4 : Int32) (a5 : Int32) (s0 : Int32) (S : a_M) : g_X2_step 38 [.ref 41, .int (a1), .int (a2), .int (a3), .int (a4), .int (a5), .null, .null, .null, .null] [.int (s0)] S = (if s0 < 1000000 then ((x_X2_lower [.ref 41, .int (a3 + 1), .int (a4 + 1), .int (a5 + s0)] S).bind fun q => g_X2_step 63 [.ref 41, .int (a1), .int (a2), .int (a3), .int (a4), .int (a5), .null, .null, .null, .null] (q.1.toList ++ []) q.2) else g_X2_step 63 [.ref 41, .int (a1), .int (a2), .int (a3), .int (a4), .int (a5), .null, .null, .null, .null] [] S) :=
  (a_unf0 none t_X2_step c_X2_step k_X2_step 78 38 _ _ S).trans rfl
theorem b_X2_step_63 (a1 : Int32) (a2 : Int32) (a3 : Int32) (a4 : Int32) (a5 : Int32) (S : a_M) : g_X2_step 63 [.ref 41, .int (a1), .int (a2), .int (a3), .int (a4), .int (a5), .null, .null, .null, .null] [] S = ((x_X11_at [.ref 42, .int (a2)] S).bind fun q => g_X2_step 71 [.ref 41, .int (a1), .null, .int (a3), .int (a4), .int (a5), .null, .null, .null, .null] (q.1.toList ++ []) q.2) :=
  (a_unf0 none t_X2_step c_X2_step k_X2_step 78 63 _ _ S).trans rfl
theorem b_X2_step_71 (a1 : Int32) (a3 : Int32) (a4 : Int32) (a5 : Int32) (s0 : Int32) (S : a_M) : g_X2_step 71 [.ref 41, .int (a1), .null, .int (a3), .int (a4), .int (a5), .null, .null, .null, .null] [.int (s0)] S = (if s0 = -1 then some (none, S) else g_X2_step 83 [.ref 41, .int (a1), .null, .int (a3), .int (a4), .int (a5), .null, .int (s0), .int (0), .null] [] S) :=
  (a_unf0 none t_X2_step c_X2_step k_X2_step 78 71 _ _ S).trans rfl
theorem b_X2_step_83 (a1 : Int32) (a3 : Int32) (a4 : Int32) (a5 : Int32) (a7 : Int32) (a8 : Int32) (S : a_M) : g_X2_step 83 [.ref 41, .int (a1), .null, .int (a3), .int (a4), .int (a5), .null, .int (a7), .int (a8), .null] [] S = (if a8 < S.1 12 9 then ((x_X0_shortReach [.ref 12, .int (a8), .int (a7), .int (a1), .int (a4)] S).bind fun q => g_X2_step 109 [.ref 41, .int (a1), .null, .int (a3), .int (a4), .int (a5), .null, .int (a7), .int (a8), .null] (q.1.toList ++ []) q.2) else some (none, S)) :=
  (a_unf0 none t_X2_step c_X2_step k_X2_step 78 83 _ _ S).trans rfl
theorem b_X2_step_109 (a1 : Int32) (a3 : Int32) (a4 : Int32) (a5 : Int32) (a7 : Int32) (a8 : Int32) (s0 : Int32) (S : a_M) : g_X2_step 109 [.ref 41, .int (a1), .null, .int (a3), .int (a4), .int (a5), .null, .int (a7), .int (a8), .null] [.int (s0)] S = (if (0 : Int32) < s0 then ((x_X2_lower [.ref 41, .int (a3 + 1), .int (a4 + s0), .int (a5 + 1)] S).bind fun q => g_X2_step 132 [.ref 41, .int (a1), .null, .int (a3), .int (a4), .int (a5), .null, .int (a7), .int (a8), .null] (q.1.toList ++ []) q.2) else g_X2_step 83 [.ref 41, .int (a1), .null, .int (a3), .int (a4), .int (a5), .null, .int (a7), .int (a8 + 1), .null] [] S) :=
  (a_unf0 none t_X2_step c_X2_step k_X2_step 78 109 _ _ S).trans rfl
theorem b_X2_step_132 (a1 : Int32) (a3 : Int32) (a4 : Int32) (a5 : Int32) (a7 : Int32) (a8 : Int32) (S : a_M) : g_X2_step 132 [.ref 41, .int (a1), .null, .int (a3), .int (a4), .int (a5), .null, .int (a7), .int (a8), .null] [] S = g_X2_step 83 [.ref 41, .int (a1), .null, .int (a3), .int (a4), .int (a5), .null, .int (a7), .int (a8 + 1), .null] [] S :=
  (a_unf0 none t_X2_step c_X2_step k_X2_step 78 132 _ _ S).trans rfl
def k_X2_walk : Nat → Bool := fun pc => bif Nat.beq pc 42 then true else bif Nat.beq pc 52 then true else false
noncomputable def g_X2_walk : a_K := a_G none t_X2_walk c_X2_walk
theorem e_X2_walk (a1 : Int32) (a2 : Int32) (S : a_M) : x_X2_walk [.ref 41, .int a1, .int a2] S = ((x_J7_fill_53178 [.ref 44, .int (1000000)] S).bind fun q => g_X2_walk 9 [.ref 41, .int (a1), .int (a2), .null, .null, .null] (q.1.toList ++ []) q.2) :=
  (show x_X2_walk [.ref 41, .int a1, .int a2] S = g_X2_walk 0 [.ref 41, .int (a1), .int (a2), .null, .null, .null] [] S from rfl).trans ((a_unf0 none t_X2_walk c_X2_walk k_X2_walk 58 0 _ _ S).trans rfl)
theorem b_X2_walk_9 (a1 : Int32) (a2 : Int32) (S : a_M) : g_X2_walk 9 [.ref 41, .int (a1), .int (a2), .null, .null, .null] [] S = ((x_X11_put [.ref 44, .int (0), .int (0)] S).bind fun q => g_X2_walk 18 [.ref 41, .int (a1), .int (a2), .null, .null, .null] (q.1.toList ++ []) q.2) :=
  (a_unf0 none t_X2_walk c_X2_walk k_X2_walk 58 9 _ _ S).trans rfl
theorem b_X2_walk_18 (a1 : Int32) (a2 : Int32) (S : a_M) : g_X2_walk 18 [.ref 41, .int (a1), .int (a2), .null, .null, .null] [] S = ((x_X0_sizeOf [.ref 12, .int (a1)] S).bind fun q => g_X2_walk 26 [.ref 41, .int (a1), .int (a2), .null, .null, .null] (q.1.toList ++ []) q.2) :=
  (a_unf0 none t_X2_walk c_X2_walk k_X2_walk 58 18 _ _ S).trans rfl
theorem b_X2_walk_26 (a1 : Int32) (a2 : Int32) (s0 : Int32) (S : a_M) : g_X2_walk 26 [.ref 41, .int (a1), .int (a2), .null, .null, .null] [.int (s0)] S = ((x_J9_min_7cf53 [.int (s0), .int ((S.1 7 4) - a2)] S).bind fun q => g_X2_walk 38 [.ref 41, .int (a1), .int (a2), .null, .null, .null] (q.1.toList ++ []) q.2) :=
  (a_unf0 none t_X2_walk c_X2_walk k_X2_walk 58 26 _ _ S).trans rfl
theorem b_X2_walk_38 (a1 : Int32) (a2 : Int32) (s0 : Int32) (S : a_M) : g_X2_walk 38 [.ref 41, .int (a1), .int (a2), .null, .null, .null] [.int (s0)] S = g_X2_walk 42 [.ref 41, .int (a1), .int (a2), .int (s0), .int (0), .null] [] S :=
  (a_unf0 none t_X2_walk c_X2_walk k_X2_walk 58 38 _ _ S).trans rfl
theorem b_X2_walk_42 (a1 : Int32) (a2 : Int32) (a3 : Int32) (a4 : Int32) (S : a_M) : g_X2_walk 42 [.ref 41, .int (a1), .int (a2), .int (a3), .int (a4), .null] [] S = (if a4 < a3 then g_X2_walk 52 [.ref 41, .int (a1), .int (a2), .int (a3), .int (a4), .int (a4)] [] S else some (none, S)) :=
  (a_unf0 none t_X2_walk c_X2_walk k_X2_walk 58 42 _ _ S).trans rfl
theorem b_X2_walk_52 (a1 : Int32) (a2 : Int32) (a3 : Int32) (a4 : Int32) (a5 : Int32) (S : a_M) : g_X2_walk 52 [.ref 41, .int (a1), .int (a2), .int (a3), .int (a4), .int (a5)] [] S = ((x_X0_sizeOf [.ref 12, .int (a1)] S).bind fun q => g_X2_walk 62 [.ref 41, .int (a1), .int (a2), .int (a3), .int (a4), .int (a5)] (q.1.toList ++ [.int (a5)]) q.2) :=
  (a_unf0 none t_X2_walk c_X2_walk k_X2_walk 58 52 _ _ S).trans rfl
theorem b_X2_walk_62 (a1 : Int32) (a2 : Int32) (a3 : Int32) (a4 : Int32) (a5 : Int32) (s0 : Int32) (s1 : Int32) (S : a_M) : g_X2_walk 62 [.ref 41, .int (a1), .int (a2), .int (a3), .int (a4), .int (a5)] [.int (s1), .int (s0)] S = (if s0 < s1 then ((x_X11_at [.ref 44, .int ((a4 * 5) + a5)] S).bind fun q => g_X2_walk 79 [.ref 41, .int (a1), .int (a2), .int (a3), .int (a4), .int (a5)] (q.1.toList ++ []) q.2) else g_X2_walk 42 [.ref 41, .int (a1), .int (a2), .int (a3), .int (a4 + 1), .null] [] S) :=
  (a_unf0 none t_X2_walk c_X2_walk k_X2_walk 58 62 _ _ S).trans rfl
theorem b_X2_walk_79 (a1 : Int32) (a2 : Int32) (a3 : Int32) (a4 : Int32) (a5 : Int32) (s0 : Int32) (S : a_M) : g_X2_walk 79 [.ref 41, .int (a1), .int (a2), .int (a3), .int (a4), .int (a5)] [.int (s0)] S = (if s0 < 1000000 then ((x_X2_step [.ref 41, .int (a1), .int (a2 + a4), .int (a4), .int (a5)] S).bind fun q => g_X2_walk 97 [.ref 41, .int (a1), .int (a2), .int (a3), .int (a4), .int (a5)] (q.1.toList ++ []) q.2) else g_X2_walk 52 [.ref 41, .int (a1), .int (a2), .int (a3), .int (a4), .int (a5 + 1)] [] S) :=
  (a_unf0 none t_X2_walk c_X2_walk k_X2_walk 58 79 _ _ S).trans rfl
theorem b_X2_walk_97 (a1 : Int32) (a2 : Int32) (a3 : Int32) (a4 : Int32) (a5 : Int32) (S : a_M) : g_X2_walk 97 [.ref 41, .int (a1), .int (a2), .int (a3), .int (a4), .int (a5)] [] S = g_X2_walk 52 [.ref 41, .int (a1), .int (a2), .int (a3), .int (a4), .int (a5 + 1)] [] S :=
  (a_unf0 none t_X2_walk c_X2_walk k_X2_walk 58 97 _ _ S).trans rfl
def k_X2_costOf : Nat → Bool := fun pc => false
noncomputable def g_X2_costOf : a_K := a_G none t_X2_costOf c_X2_costOf
theorem e_X2_costOf (a1 : Int32) (a2 : Int32) (S : a_M) : x_X2_costOf [.ref 41, .int a1, .int a2] S = (if a2 < 0 then some (some (.int (1000000)), S) else (if a2 < 5 then ((x_X0_sizeOf [.ref 12, .int (a1)] S).bind fun q => g_X2_costOf 24 [.null, .null, .null] (q.1.toList ++ [.int (a2 * 5), .ref 44]) q.2) else some (some (.int (1000000)), S))) :=
  (show x_X2_costOf [.ref 41, .int a1, .int a2] S = g_X2_costOf 0 [.ref 41, .int (a1), .int (a2)] [] S from rfl).trans ((a_unf0 none t_X2_costOf c_X2_costOf k_X2_costOf 21 0 _ _ S).trans rfl)
theorem b_X2_costOf_24 (s1 : Int32) (s2 : Int32) (S : a_M) : g_X2_costOf 24 [.null, .null, .null] [.int (s2), .int (s1), .ref 44] S = ((x_X11_at [.ref 44, .int (s1 + s2)] S).bind fun q => g_X2_costOf 28 [.null, .null, .null] (q.1.toList ++ []) q.2) :=
  (a_unf0 none t_X2_costOf c_X2_costOf k_X2_costOf 21 24 _ _ S).trans rfl
theorem b_X2_costOf_28 (s0 : Int32) (S : a_M) : g_X2_costOf 28 [.null, .null, .null] [.int (s0)] S = some (some (.int (s0)), S) :=
  (a_unf0 none t_X2_costOf c_X2_costOf k_X2_costOf 21 28 _ _ S).trans rfl
def k_X3_indexOf : Nat → Bool := fun pc => bif Nat.beq pc 2 then true else false
noncomputable def g_X3_indexOf : a_K := a_G none t_X3_indexOf c_X3_indexOf
theorem e_X3_indexOf (a1 : Int32) (S : a_M) : x_X3_indexOf [.ref 3, .int a1] S = g_X3_indexOf 2 [.ref 3, .int (a1), .int (0)] [] S :=
  (show x_X3_indexOf [.ref 3, .int a1] S = g_X3_indexOf 0 [.ref 3, .int (a1), .null] [] S from rfl).trans ((a_unf0 none t_X3_indexOf c_X3_indexOf k_X3_indexOf 20 0 _ _ S).trans rfl)
theorem b_X3_indexOf_2 (a1 : Int32) (a2 : Int32) (S : a_M) : g_X3_indexOf 2 [.ref 3, .int (a1), .int (a2)] [] S = (if a2 < S.1 3 3 then ((x_X11_at [.ref 4, .int (a2)] S).bind fun q => g_X3_indexOf 18 [.ref 3, .int (a1), .int (a2)] (q.1.toList ++ []) q.2) else some (some (.int (-1)), S)) :=
  (a_unf0 none t_X3_indexOf c_X3_indexOf k_X3_indexOf 20 2 _ _ S).trans rfl
theorem b_X3_indexOf_18 (a1 : Int32) (a2 : Int32) (s0 : Int32) (S : a_M) : g_X3_indexOf 18 [.ref 3, .int (a1), .int (a2)] [.int (s0)] S = (if s0 = a1 then some (some (.int (a2)), S) else g_X3_indexOf 2 [.ref 3, .int (a1), .int (a2 + 1)] [] S) :=
  (a_unf0 none t_X3_indexOf c_X3_indexOf k_X3_indexOf 20 18 _ _ S).trans rfl
def k_X3_firstOf : Nat → Bool := fun pc => false
noncomputable def g_X3_firstOf : a_K := a_G none t_X3_firstOf c_X3_firstOf
theorem e_X3_firstOf (a1 : Int32) (S : a_M) : x_X3_firstOf [.ref 3, .int a1] S = ((x_X11_at [.ref 5, .int (a1)] S).bind fun q => g_X3_firstOf 8 [.null, .null] (q.1.toList ++ []) q.2) :=
  (show x_X3_firstOf [.ref 3, .int a1] S = g_X3_firstOf 0 [.ref 3, .int (a1)] [] S from rfl).trans ((a_unf0 none t_X3_firstOf c_X3_firstOf k_X3_firstOf 7 0 _ _ S).trans rfl)
theorem b_X3_firstOf_8 (s0 : Int32) (S : a_M) : g_X3_firstOf 8 [.null, .null] [.int (s0)] S = some (some (.int (s0)), S) :=
  (a_unf0 none t_X3_firstOf c_X3_firstOf k_X3_firstOf 7 8 _ _ S).trans rfl
def k_X3_secondOf : Nat → Bool := fun pc => false
noncomputable def g_X3_secondOf : a_K := a_G none t_X3_secondOf c_X3_secondOf
theorem e_X3_secondOf (a1 : Int32) (S : a_M) : x_X3_secondOf [.ref 3, .int a1] S = ((x_X11_at [.ref 6, .int (a1)] S).bind fun q => g_X3_secondOf 8 [.null, .null] (q.1.toList ++ []) q.2) :=
  (show x_X3_secondOf [.ref 3, .int a1] S = g_X3_secondOf 0 [.ref 3, .int (a1)] [] S from rfl).trans ((a_unf0 none t_X3_secondOf c_X3_secondOf k_X3_secondOf 7 0 _ _ S).trans rfl)
theorem b_X3_secondOf_8 (s0 : Int32) (S : a_M) : g_X3_secondOf 8 [.null, .null] [.int (s0)] S = some (some (.int (s0)), S) :=
  (a_unf0 none t_X3_secondOf c_X3_secondOf k_X3_secondOf 7 8 _ _ S).trans rfl
def k_X3_add : Nat → Bool := fun pc => false
noncomputable def g_X3_add : a_K := a_G none t_X3_add c_X3_add
theorem e_X3_add (a1 : Int32) (a2 : Int32) (a3 : Int32) (S : a_M) : x_X3_add [.ref 3, .int a1, .int a2, .int a3] S = ((x_X11_put [.ref 4, .int (S.1 3 3), .int (a1)] S).bind fun q => g_X3_add 12 [.ref 3, .null, .int (a2), .int (a3)] (q.1.toList ++ []) q.2) :=
  (show x_X3_add [.ref 3, .int a1, .int a2, .int a3] S = g_X3_add 0 [.ref 3, .int (a1), .int (a2), .int (a3)] [] S from rfl).trans ((a_unf0 none t_X3_add c_X3_add k_X3_add 27 0 _ _ S).trans rfl)
theorem b_X3_add_12 (a2 : Int32) (a3 : Int32) (S : a_M) : g_X3_add 12 [.ref 3, .null, .int (a2), .int (a3)] [] S = ((x_X11_put [.ref 5, .int (S.1 3 3), .int (a2)] S).bind fun q => g_X3_add 24 [.ref 3, .null, .null, .int (a3)] (q.1.toList ++ []) q.2) :=
  (a_unf0 none t_X3_add c_X3_add k_X3_add 27 12 _ _ S).trans rfl
theorem b_X3_add_24 (a3 : Int32) (S : a_M) : g_X3_add 24 [.ref 3, .null, .null, .int (a3)] [] S = ((x_X11_put [.ref 6, .int (S.1 3 3), .int (a3)] S).bind fun q => g_X3_add 36 [.ref 3, .null, .null, .null] (q.1.toList ++ []) q.2) :=
  (a_unf0 none t_X3_add c_X3_add k_X3_add 27 24 _ _ S).trans rfl
theorem b_X3_add_36 (S : a_M) : g_X3_add 36 [.ref 3, .null, .null, .null] [] S = some (none, (a_wi S 3 3 ((S.1 3 3) + 1))) :=
  (a_unf0 none t_X3_add c_X3_add k_X3_add 27 36 _ _ S).trans rfl
def k_X4_partAt : Nat → Bool := fun pc => false
noncomputable def g_X4_partAt : a_K := a_G none t_X4_partAt c_X4_partAt
theorem e_X4_partAt (a0 : Int32) (a1 : Int32) (S : a_M) : x_X4_partAt [.int a0, .int a1] S = some (some (.int ((a0 >>> ((3 * a1) &&& 31)) &&& 7)), S) :=
  (show x_X4_partAt [.int a0, .int a1] S = g_X4_partAt 0 [.int (a0), .int (a1)] [] S from rfl).trans ((a_unf0 none t_X4_partAt c_X4_partAt k_X4_partAt 10 0 _ _ S).trans rfl)
def k_X4_isGrammar : Nat → Bool := fun pc => bif Nat.beq pc 34 then true else false
noncomputable def g_X4_isGrammar : a_K := a_G none t_X4_isGrammar c_X4_isGrammar
theorem e_X4_isGrammar (a0 : Int32) (a1 : Int32) (a2 : Int32) (S : a_M) : x_X4_isGrammar [.int a0, .int a1, .int a2] S = (if a0 < 1 then some (some (.int (0)), S) else (if (5 : Int32) < a0 then some (some (.int (0)), S) else (if a1 < 0 then some (some (.int (0)), S) else (if a2 < 0 then some (some (.int (0)), S) else (if a2 < 1 <<< (a0 &&& 31) then g_X4_isGrammar 34 [.int (a0), .int (a1), .null, .int (0), .int (0), .null] [] S else some (some (.int (0)), S)))))) :=
  (show x_X4_isGrammar [.int a0, .int a1, .int a2] S = g_X4_isGrammar 0 [.int (a0), .int (a1), .int (a2), .null, .null, .null] [] S from rfl).trans ((a_unf0 none t_X4_isGrammar c_X4_isGrammar k_X4_isGrammar 54 0 _ _ S).trans rfl)
theorem b_X4_isGrammar_34 (a0 : Int32) (a1 : Int32) (a3 : Int32) (a4 : Int32) (S : a_M) : g_X4_isGrammar 34 [.int (a0), .int (a1), .null, .int (a3), .int (a4), .null] [] S = (if a4 < a0 then ((x_X4_partAt [.int (a1), .int (a4)] S).bind fun q => g_X4_isGrammar 46 [.int (a0), .int (a1), .null, .int (a3), .int (a4), .null] (q.1.toList ++ []) q.2) else some (some (.int (1)), S)) :=
  (a_unf0 none t_X4_isGrammar c_X4_isGrammar k_X4_isGrammar 54 34 _ _ S).trans rfl
theorem b_X4_isGrammar_46 (a0 : Int32) (a1 : Int32) (a3 : Int32) (a4 : Int32) (s0 : Int32) (S : a_M) : g_X4_isGrammar 46 [.int (a0), .int (a1), .null, .int (a3), .int (a4), .null] [.int (s0)] S = (if s0 < 5 then (if (a3 >>> (s0 &&& 31)) &&& 1 = 1 then some (some (.int (0)), S) else g_X4_isGrammar 34 [.int (a0), .int (a1), .null, .int (a3 ||| (1 <<< (s0 &&& 31))), .int (a4 + 1), .null] [] S) else some (some (.int (0)), S)) :=
  (a_unf0 none t_X4_isGrammar c_X4_isGrammar k_X4_isGrammar 54 46 _ _ S).trans rfl
def k_X4_add : Nat → Bool := fun pc => false
noncomputable def g_X4_add : a_K := a_G none t_X4_add c_X4_add
theorem e_X4_add (a1 : Int32) (a2 : Int32) (a3 : Int32) (S : a_M) : x_X4_add [.ref 34, .int a1, .int a2, .int a3] S = ((x_X11_put [.ref 35, .int (S.1 34 3), .int (a1)] S).bind fun q => g_X4_add 12 [.ref 34, .null, .int (a2), .int (a3)] (q.1.toList ++ []) q.2) :=
  (show x_X4_add [.ref 34, .int a1, .int a2, .int a3] S = g_X4_add 0 [.ref 34, .int (a1), .int (a2), .int (a3)] [] S from rfl).trans ((a_unf0 none t_X4_add c_X4_add k_X4_add 31 0 _ _ S).trans rfl)
theorem b_X4_add_12 (a2 : Int32) (a3 : Int32) (S : a_M) : g_X4_add 12 [.ref 34, .null, .int (a2), .int (a3)] [] S = ((x_X11_put [.ref 36, .int (S.1 34 3), .int (a2)] S).bind fun q => g_X4_add 24 [.ref 34, .null, .null, .int (a3)] (q.1.toList ++ []) q.2) :=
  (a_unf0 none t_X4_add c_X4_add k_X4_add 31 12 _ _ S).trans rfl
theorem b_X4_add_24 (a3 : Int32) (S : a_M) : g_X4_add 24 [.ref 34, .null, .null, .int (a3)] [] S = ((x_X11_put [.ref 37, .int (S.1 34 3), .int (a3)] S).bind fun q => g_X4_add 36 [.ref 34, .null, .null, .null] (q.1.toList ++ []) q.2) :=
  (a_unf0 none t_X4_add c_X4_add k_X4_add 31 24 _ _ S).trans rfl
theorem b_X4_add_36 (S : a_M) : g_X4_add 36 [.ref 34, .null, .null, .null] [] S = some (some (.int (((S.1 34 3) + 1) - 1)), (a_wi S 34 3 ((S.1 34 3) + 1))) :=
  (a_unf0 none t_X4_add c_X4_add k_X4_add 31 36 _ _ S).trans rfl
def k_X4_sizeOf : Nat → Bool := fun pc => false
noncomputable def g_X4_sizeOf : a_K := a_G none t_X4_sizeOf c_X4_sizeOf
theorem e_X4_sizeOf (a1 : Int32) (S : a_M) : x_X4_sizeOf [.ref 34, .int a1] S = ((x_X11_at [.ref 35, .int (a1)] S).bind fun q => g_X4_sizeOf 8 [.null, .null] (q.1.toList ++ []) q.2) :=
  (show x_X4_sizeOf [.ref 34, .int a1] S = g_X4_sizeOf 0 [.ref 34, .int (a1)] [] S from rfl).trans ((a_unf0 none t_X4_sizeOf c_X4_sizeOf k_X4_sizeOf 7 0 _ _ S).trans rfl)
theorem b_X4_sizeOf_8 (s0 : Int32) (S : a_M) : g_X4_sizeOf 8 [.null, .null] [.int (s0)] S = some (some (.int (s0)), S) :=
  (a_unf0 none t_X4_sizeOf c_X4_sizeOf k_X4_sizeOf 7 8 _ _ S).trans rfl
def k_X4_partOf : Nat → Bool := fun pc => false
noncomputable def g_X4_partOf : a_K := a_G none t_X4_partOf c_X4_partOf
theorem e_X4_partOf (a1 : Int32) (a2 : Int32) (S : a_M) : x_X4_partOf [.ref 34, .int a1, .int a2] S = ((x_X11_at [.ref 36, .int (a1)] S).bind fun q => g_X4_partOf 8 [.null, .null, .int (a2)] (q.1.toList ++ []) q.2) :=
  (show x_X4_partOf [.ref 34, .int a1, .int a2] S = g_X4_partOf 0 [.ref 34, .int (a1), .int (a2)] [] S from rfl).trans ((a_unf0 none t_X4_partOf c_X4_partOf k_X4_partOf 9 0 _ _ S).trans rfl)
theorem b_X4_partOf_8 (a2 : Int32) (s0 : Int32) (S : a_M) : g_X4_partOf 8 [.null, .null, .int (a2)] [.int (s0)] S = ((x_X4_partAt [.int (s0), .int (a2)] S).bind fun q => g_X4_partOf 12 [.null, .null, .null] (q.1.toList ++ []) q.2) :=
  (a_unf0 none t_X4_partOf c_X4_partOf k_X4_partOf 9 8 _ _ S).trans rfl
theorem b_X4_partOf_12 (s0 : Int32) (S : a_M) : g_X4_partOf 12 [.null, .null, .null] [.int (s0)] S = some (some (.int (s0)), S) :=
  (a_unf0 none t_X4_partOf c_X4_partOf k_X4_partOf 9 12 _ _ S).trans rfl
def k_X4_mustBe : Nat → Bool := fun pc => false
noncomputable def g_X4_mustBe : a_K := a_G none t_X4_mustBe c_X4_mustBe
theorem e_X4_mustBe (a1 : Int32) (a2 : Int32) (S : a_M) : x_X4_mustBe [.ref 34, .int a1, .int a2] S = ((x_X11_at [.ref 37, .int (a1)] S).bind fun q => g_X4_mustBe 8 [.null, .null, .int (a2)] (q.1.toList ++ []) q.2) :=
  (show x_X4_mustBe [.ref 34, .int a1, .int a2] S = g_X4_mustBe 0 [.ref 34, .int (a1), .int (a2)] [] S from rfl).trans ((a_unf0 none t_X4_mustBe c_X4_mustBe k_X4_mustBe 16 0 _ _ S).trans rfl)
theorem b_X4_mustBe_8 (a2 : Int32) (s0 : Int32) (S : a_M) : g_X4_mustBe 8 [.null, .null, .int (a2)] [.int (s0)] S = (if (s0 >>> (a2 &&& 31)) &&& 1 = 1 then some (some (.int (1)), S) else some (some (.int (0)), S)) :=
  (a_unf0 none t_X4_mustBe c_X4_mustBe k_X4_mustBe 16 8 _ _ S).trans rfl
def k_X5_append : Nat → Bool := fun pc => false
noncomputable def g_X5_append : a_K := a_G none t_X5_append c_X5_append
theorem e_X5_append (a1 : Int32) (S : a_M) : x_X5_append [.ref 1, .int a1] S = (if S.1 1 1 < 120 then ((x_X11_put [.ref 2, .int (S.1 1 1), .int (a1)] S).bind fun q => g_X5_append 22 [.ref 1, .null] (q.1.toList ++ []) q.2) else some (none, S)) :=
  (show x_X5_append [.ref 1, .int a1] S = g_X5_append 0 [.ref 1, .int (a1)] [] S from rfl).trans ((a_unf0 none t_X5_append c_X5_append k_X5_append 20 0 _ _ S).trans rfl)
theorem b_X5_append_22 (S : a_M) : g_X5_append 22 [.ref 1, .null] [] S = some (none, (a_wi S 1 1 ((S.1 1 1) + 1))) :=
  (a_unf0 none t_X5_append c_X5_append k_X5_append 20 22 _ _ S).trans rfl
def k_X5_clear : Nat → Bool := fun pc => false
noncomputable def g_X5_clear : a_K := a_G none t_X5_clear c_X5_clear
theorem e_X5_clear (S : a_M) : x_X5_clear [.ref 1] S = some (none, (a_wi S 1 1 (0))) :=
  (show x_X5_clear [.ref 1] S = g_X5_clear 0 [.ref 1] [] S from rfl).trans ((a_unf0 none t_X5_clear c_X5_clear k_X5_clear 6 0 _ _ S).trans rfl)
def k_X5_get : Nat → Bool := fun pc => false
noncomputable def g_X5_get : a_K := a_G none t_X5_get c_X5_get
theorem e_X5_get (a1 : Int32) (S : a_M) : x_X5_get [.ref 1, .int a1] S = (if a1 < S.1 1 1 then ((x_X11_at [.ref 2, .int (a1)] S).bind fun q => g_X5_get 16 [.null, .null] (q.1.toList ++ []) q.2) else some (some (.int (-1)), S)) :=
  (show x_X5_get [.ref 1, .int a1] S = g_X5_get 0 [.ref 1, .int (a1)] [] S from rfl).trans ((a_unf0 none t_X5_get c_X5_get k_X5_get 13 0 _ _ S).trans rfl)
theorem b_X5_get_16 (s0 : Int32) (S : a_M) : g_X5_get 16 [.null, .null] [.int (s0)] S = some (some (.int (s0)), S) :=
  (a_unf0 none t_X5_get c_X5_get k_X5_get 13 16 _ _ S).trans rfl
def k_X6_sizeOf : Nat → Bool := fun pc => false
noncomputable def g_X6_sizeOf : a_K := a_G none t_X6_sizeOf c_X6_sizeOf
theorem e_X6_sizeOf (a1 : Int32) (S : a_M) : x_X6_sizeOf [.ref 20, .int a1] S = (if a1 = 1 then some (some (.int (S.1 20 13)), S) else some (some (.int (S.1 20 14)), S)) :=
  (show x_X6_sizeOf [.ref 20, .int a1] S = g_X6_sizeOf 0 [.ref 20, .int (a1)] [] S from rfl).trans ((a_unf0 none t_X6_sizeOf c_X6_sizeOf k_X6_sizeOf 11 0 _ _ S).trans rfl)
def k_X6_has : Nat → Bool := fun pc => false
noncomputable def g_X6_has : a_K := a_G none t_X6_has c_X6_has
theorem e_X6_has (a1 : Int32) (a2 : Int32) (S : a_M) : x_X6_has [.ref 20, .int a1, .int a2] S = (if a2 < 0 then some (some (.int (0)), S) else ((x_X6_sizeOf [.ref 20, .int (a1)] S).bind fun q => g_X6_has 10 [.null, .null, .null] (q.1.toList ++ [.int (a2)]) q.2)) :=
  (show x_X6_has [.ref 20, .int a1, .int a2] S = g_X6_has 0 [.ref 20, .int (a1), .int (a2)] [] S from rfl).trans ((a_unf0 none t_X6_has c_X6_has k_X6_has 13 0 _ _ S).trans rfl)
theorem b_X6_has_10 (s0 : Int32) (s1 : Int32) (S : a_M) : g_X6_has 10 [.null, .null, .null] [.int (s1), .int (s0)] S = (if s0 < s1 then some (some (.int (1)), S) else some (some (.int (0)), S)) :=
  (a_unf0 none t_X6_has c_X6_has k_X6_has 13 10 _ _ S).trans rfl
def k_X6_namesOf : Nat → Bool := fun pc => false
noncomputable def g_X6_namesOf : a_K := a_G none t_X6_namesOf c_X6_namesOf
theorem e_X6_namesOf (a1 : Int32) (a2 : Int32) (S : a_M) : x_X6_namesOf [.ref 20, .int a1, .int a2] S = (if a1 = 1 then ((x_X11_at [.ref 22, .int (a2)] S).bind fun q => g_X6_namesOf 13 [.null, .null, .null] (q.1.toList ++ []) q.2) else some (some (.int (1)), S)) :=
  (show x_X6_namesOf [.ref 20, .int a1, .int a2] S = g_X6_namesOf 0 [.ref 20, .int (a1), .int (a2)] [] S from rfl).trans ((a_unf0 none t_X6_namesOf c_X6_namesOf k_X6_namesOf 12 0 _ _ S).trans rfl)
theorem b_X6_namesOf_13 (s0 : Int32) (S : a_M) : g_X6_namesOf 13 [.null, .null, .null] [.int (s0)] S = some (some (.int (s0)), S) :=
  (a_unf0 none t_X6_namesOf c_X6_namesOf k_X6_namesOf 12 13 _ _ S).trans rfl
def k_X6_nameOf : Nat → Bool := fun pc => false
noncomputable def g_X6_nameOf : a_K := a_G none t_X6_nameOf c_X6_nameOf
theorem e_X6_nameOf (a1 : Int32) (a2 : Int32) (a3 : Int32) (S : a_M) : x_X6_nameOf [.ref 20, .int a1, .int a2, .int a3] S = (if a1 = 1 then ((x_X11_at [.ref 21, .int ((a2 * 4) + a3)] S).bind fun q => g_X6_nameOf 17 [.null, .null, .null, .null] (q.1.toList ++ []) q.2) else ((x_X11_at [.ref 23, .int (a2)] S).bind fun q => g_X6_nameOf 28 [.null, .null, .null, .null] (q.1.toList ++ []) q.2)) :=
  (show x_X6_nameOf [.ref 20, .int a1, .int a2, .int a3] S = g_X6_nameOf 0 [.ref 20, .int (a1), .int (a2), .int (a3)] [] S from rfl).trans ((a_unf0 none t_X6_nameOf c_X6_nameOf k_X6_nameOf 19 0 _ _ S).trans rfl)
theorem b_X6_nameOf_17 (s0 : Int32) (S : a_M) : g_X6_nameOf 17 [.null, .null, .null, .null] [.int (s0)] S = some (some (.int (s0)), S) :=
  (a_unf0 none t_X6_nameOf c_X6_nameOf k_X6_nameOf 19 17 _ _ S).trans rfl
theorem b_X6_nameOf_28 (s0 : Int32) (S : a_M) : g_X6_nameOf 28 [.null, .null, .null, .null] [.int (s0)] S = some (some (.int (s0)), S) :=
  (a_unf0 none t_X6_nameOf c_X6_nameOf k_X6_nameOf 19 28 _ _ S).trans rfl
def k_X6_addStreetName : Nat → Bool := fun pc => false
noncomputable def g_X6_addStreetName : a_K := a_G none t_X6_addStreetName c_X6_addStreetName
theorem e_X6_addStreetName (a1 : Int32) (a2 : Int32) (S : a_M) : x_X6_addStreetName [.ref 20, .int a1, .int a2] S = ((x_X6_namesOf [.ref 20, .int (1), .int (a1)] S).bind fun q => g_X6_addStreetName 6 [.ref 20, .int (a1), .int (a2), .null] (q.1.toList ++ []) q.2) :=
  (show x_X6_addStreetName [.ref 20, .int a1, .int a2] S = g_X6_addStreetName 0 [.ref 20, .int (a1), .int (a2), .null] [] S from rfl).trans ((a_unf0 none t_X6_addStreetName c_X6_addStreetName k_X6_addStreetName 27 0 _ _ S).trans rfl)
theorem b_X6_addStreetName_6 (a1 : Int32) (a2 : Int32) (s0 : Int32) (S : a_M) : g_X6_addStreetName 6 [.ref 20, .int (a1), .int (a2), .null] [.int (s0)] S = ((x_X11_put [.ref 21, .int ((a1 * 4) + s0), .int (a2)] S).bind fun q => g_X6_addStreetName 20 [.ref 20, .int (a1), .null, .int (s0)] (q.1.toList ++ []) q.2) :=
  (a_unf0 none t_X6_addStreetName c_X6_addStreetName k_X6_addStreetName 27 6 _ _ S).trans rfl
theorem b_X6_addStreetName_20 (a1 : Int32) (a3 : Int32) (S : a_M) : g_X6_addStreetName 20 [.ref 20, .int (a1), .null, .int (a3)] [] S = ((x_X11_put [.ref 22, .int (a1), .int (a3 + 1)] S).bind fun q => g_X6_addStreetName 31 [.null, .null, .null, .int (a3)] (q.1.toList ++ []) q.2) :=
  (a_unf0 none t_X6_addStreetName c_X6_addStreetName k_X6_addStreetName 27 20 _ _ S).trans rfl
theorem b_X6_addStreetName_31 (a3 : Int32) (S : a_M) : g_X6_addStreetName 31 [.null, .null, .null, .int (a3)] [] S = some (some (.int (a3 + 1)), S) :=
  (a_unf0 none t_X6_addStreetName c_X6_addStreetName k_X6_addStreetName 27 31 _ _ S).trans rfl
def k_X6_addStreet : Nat → Bool := fun pc => false
noncomputable def g_X6_addStreet : a_K := a_G none t_X6_addStreet c_X6_addStreet
theorem e_X6_addStreet (a1 : Int32) (S : a_M) : x_X6_addStreet [.ref 20, .int a1] S = ((x_X6_addStreetName [.ref 20, .int (((S.1 20 13) + 1) - 1), .int (a1)] (a_wi S 20 13 ((S.1 20 13) + 1))).bind fun q => g_X6_addStreet 21 [.ref 20, .null] (q.1.toList ++ []) q.2) :=
  (show x_X6_addStreet [.ref 20, .int a1] S = g_X6_addStreet 0 [.ref 20, .int (a1)] [] S from rfl).trans ((a_unf0 none t_X6_addStreet c_X6_addStreet k_X6_addStreet 21 0 _ _ S).trans rfl)
theorem b_X6_addStreet_21 (s0 : Int32) (S : a_M) : g_X6_addStreet 21 [.ref 20, .null] [.int (s0)] S = some (some (.int ((S.1 20 13) - 1)), S) :=
  (a_unf0 none t_X6_addStreet c_X6_addStreet k_X6_addStreet 21 21 _ _ S).trans rfl
def k_X6_streetHasName : Nat → Bool := fun pc => bif Nat.beq pc 2 then true else false
noncomputable def g_X6_streetHasName : a_K := a_G none t_X6_streetHasName c_X6_streetHasName
theorem e_X6_streetHasName (a1 : Int32) (a2 : Int32) (S : a_M) : x_X6_streetHasName [.ref 20, .int a1, .int a2] S = g_X6_streetHasName 2 [.ref 20, .int (a1), .int (a2), .int (0)] [] S :=
  (show x_X6_streetHasName [.ref 20, .int a1, .int a2] S = g_X6_streetHasName 0 [.ref 20, .int (a1), .int (a2), .null] [] S from rfl).trans ((a_unf0 none t_X6_streetHasName c_X6_streetHasName k_X6_streetHasName 23 0 _ _ S).trans rfl)
theorem b_X6_streetHasName_2 (a1 : Int32) (a2 : Int32) (a3 : Int32) (S : a_M) : g_X6_streetHasName 2 [.ref 20, .int (a1), .int (a2), .int (a3)] [] S = ((x_X6_namesOf [.ref 20, .int (1), .int (a1)] S).bind fun q => g_X6_streetHasName 9 [.ref 20, .int (a1), .int (a2), .int (a3)] (q.1.toList ++ [.int (a3)]) q.2) :=
  (a_unf0 none t_X6_streetHasName c_X6_streetHasName k_X6_streetHasName 23 2 _ _ S).trans rfl
theorem b_X6_streetHasName_9 (a1 : Int32) (a2 : Int32) (a3 : Int32) (s0 : Int32) (s1 : Int32) (S : a_M) : g_X6_streetHasName 9 [.ref 20, .int (a1), .int (a2), .int (a3)] [.int (s1), .int (s0)] S = (if s0 < s1 then ((x_X6_nameOf [.ref 20, .int (1), .int (a1), .int (a3)] S).bind fun q => g_X6_streetHasName 19 [.ref 20, .int (a1), .int (a2), .int (a3)] (q.1.toList ++ []) q.2) else some (some (.int (0)), S)) :=
  (a_unf0 none t_X6_streetHasName c_X6_streetHasName k_X6_streetHasName 23 9 _ _ S).trans rfl
theorem b_X6_streetHasName_19 (a1 : Int32) (a2 : Int32) (a3 : Int32) (s0 : Int32) (S : a_M) : g_X6_streetHasName 19 [.ref 20, .int (a1), .int (a2), .int (a3)] [.int (s0)] S = (if s0 = a2 then some (some (.int (1)), S) else g_X6_streetHasName 2 [.ref 20, .int (a1), .int (a2), .int (a3 + 1)] [] S) :=
  (a_unf0 none t_X6_streetHasName c_X6_streetHasName k_X6_streetHasName 23 19 _ _ S).trans rfl
def k_X6_addTown : Nat → Bool := fun pc => false
noncomputable def g_X6_addTown : a_K := a_G none t_X6_addTown c_X6_addTown
theorem e_X6_addTown (a1 : Int32) (a2 : Int32) (a3 : Int32) (S : a_M) : x_X6_addTown [.ref 20, .int a1, .int a2, .int a3] S = ((x_X11_put [.ref 23, .int (S.1 20 14), .int (a1)] S).bind fun q => g_X6_addTown 12 [.ref 20, .null, .int (a2), .int (a3)] (q.1.toList ++ []) q.2) :=
  (show x_X6_addTown [.ref 20, .int a1, .int a2, .int a3] S = g_X6_addTown 0 [.ref 20, .int (a1), .int (a2), .int (a3)] [] S from rfl).trans ((a_unf0 none t_X6_addTown c_X6_addTown k_X6_addTown 31 0 _ _ S).trans rfl)
theorem b_X6_addTown_12 (a2 : Int32) (a3 : Int32) (S : a_M) : g_X6_addTown 12 [.ref 20, .null, .int (a2), .int (a3)] [] S = ((x_X11_put [.ref 24, .int (S.1 20 14), .int (a2)] S).bind fun q => g_X6_addTown 24 [.ref 20, .null, .null, .int (a3)] (q.1.toList ++ []) q.2) :=
  (a_unf0 none t_X6_addTown c_X6_addTown k_X6_addTown 31 12 _ _ S).trans rfl
theorem b_X6_addTown_24 (a3 : Int32) (S : a_M) : g_X6_addTown 24 [.ref 20, .null, .null, .int (a3)] [] S = ((x_X11_put [.ref 25, .int (S.1 20 14), .int (a3)] S).bind fun q => g_X6_addTown 36 [.ref 20, .null, .null, .null] (q.1.toList ++ []) q.2) :=
  (a_unf0 none t_X6_addTown c_X6_addTown k_X6_addTown 31 24 _ _ S).trans rfl
theorem b_X6_addTown_36 (S : a_M) : g_X6_addTown 36 [.ref 20, .null, .null, .null] [] S = some (some (.int (((S.1 20 14) + 1) - 1)), (a_wi S 20 14 ((S.1 20 14) + 1))) :=
  (a_unf0 none t_X6_addTown c_X6_addTown k_X6_addTown 31 36 _ _ S).trans rfl
def k_X6_isUnitName : Nat → Bool := fun pc => bif Nat.beq pc 2 then true else false
noncomputable def g_X6_isUnitName : a_K := a_G none t_X6_isUnitName c_X6_isUnitName
theorem e_X6_isUnitName (a1 : Int32) (S : a_M) : x_X6_isUnitName [.ref 20, .int a1] S = g_X6_isUnitName 2 [.ref 20, .int (a1), .int (0)] [] S :=
  (show x_X6_isUnitName [.ref 20, .int a1] S = g_X6_isUnitName 0 [.ref 20, .int (a1), .null] [] S from rfl).trans ((a_unf0 none t_X6_isUnitName c_X6_isUnitName k_X6_isUnitName 20 0 _ _ S).trans rfl)
theorem b_X6_isUnitName_2 (a1 : Int32) (a2 : Int32) (S : a_M) : g_X6_isUnitName 2 [.ref 20, .int (a1), .int (a2)] [] S = (if a2 < S.1 20 15 then ((x_X11_at [.ref 26, .int (a2)] S).bind fun q => g_X6_isUnitName 18 [.ref 20, .int (a1), .int (a2)] (q.1.toList ++ []) q.2) else some (some (.int (0)), S)) :=
  (a_unf0 none t_X6_isUnitName c_X6_isUnitName k_X6_isUnitName 20 2 _ _ S).trans rfl
theorem b_X6_isUnitName_18 (a1 : Int32) (a2 : Int32) (s0 : Int32) (S : a_M) : g_X6_isUnitName 18 [.ref 20, .int (a1), .int (a2)] [.int (s0)] S = (if s0 = a1 then some (some (.int (1)), S) else g_X6_isUnitName 2 [.ref 20, .int (a1), .int (a2 + 1)] [] S) :=
  (a_unf0 none t_X6_isUnitName c_X6_isUnitName k_X6_isUnitName 20 18 _ _ S).trans rfl
def k_X6_addUnitName : Nat → Bool := fun pc => false
noncomputable def g_X6_addUnitName : a_K := a_G none t_X6_addUnitName c_X6_addUnitName
theorem e_X6_addUnitName (a1 : Int32) (a2 : Int32) (S : a_M) : x_X6_addUnitName [.ref 20, .int a1, .int a2] S = ((x_X11_put [.ref 26, .int (S.1 20 15), .int (a1)] S).bind fun q => g_X6_addUnitName 12 [.ref 20, .null, .int (a2)] (q.1.toList ++ []) q.2) :=
  (show x_X6_addUnitName [.ref 20, .int a1, .int a2] S = g_X6_addUnitName 0 [.ref 20, .int (a1), .int (a2)] [] S from rfl).trans ((a_unf0 none t_X6_addUnitName c_X6_addUnitName k_X6_addUnitName 23 0 _ _ S).trans rfl)
theorem b_X6_addUnitName_12 (a2 : Int32) (S : a_M) : g_X6_addUnitName 12 [.ref 20, .null, .int (a2)] [] S = ((x_X11_put [.ref 27, .int (S.1 20 15), .int (a2)] S).bind fun q => g_X6_addUnitName 24 [.ref 20, .null, .null] (q.1.toList ++ []) q.2) :=
  (a_unf0 none t_X6_addUnitName c_X6_addUnitName k_X6_addUnitName 23 12 _ _ S).trans rfl
theorem b_X6_addUnitName_24 (S : a_M) : g_X6_addUnitName 24 [.ref 20, .null, .null] [] S = some (some (.int ((S.1 20 15) + 1)), (a_wi S 20 15 ((S.1 20 15) + 1))) :=
  (a_unf0 none t_X6_addUnitName c_X6_addUnitName k_X6_addUnitName 23 24 _ _ S).trans rfl
def k_X6_unitNameOf : Nat → Bool := fun pc => bif Nat.beq pc 2 then true else false
noncomputable def g_X6_unitNameOf : a_K := a_G none t_X6_unitNameOf c_X6_unitNameOf
theorem e_X6_unitNameOf (a1 : Int32) (S : a_M) : x_X6_unitNameOf [.ref 20, .int a1] S = g_X6_unitNameOf 2 [.ref 20, .int (a1), .int (0)] [] S :=
  (show x_X6_unitNameOf [.ref 20, .int a1] S = g_X6_unitNameOf 0 [.ref 20, .int (a1), .null] [] S from rfl).trans ((a_unf0 none t_X6_unitNameOf c_X6_unitNameOf k_X6_unitNameOf 23 0 _ _ S).trans rfl)
theorem b_X6_unitNameOf_2 (a1 : Int32) (a2 : Int32) (S : a_M) : g_X6_unitNameOf 2 [.ref 20, .int (a1), .int (a2)] [] S = (if a2 < S.1 20 15 then ((x_X11_at [.ref 27, .int (a2)] S).bind fun q => g_X6_unitNameOf 18 [.ref 20, .int (a1), .int (a2)] (q.1.toList ++ []) q.2) else some (some (.int (-1)), S)) :=
  (a_unf0 none t_X6_unitNameOf c_X6_unitNameOf k_X6_unitNameOf 23 2 _ _ S).trans rfl
theorem b_X6_unitNameOf_18 (a1 : Int32) (a2 : Int32) (s0 : Int32) (S : a_M) : g_X6_unitNameOf 18 [.ref 20, .int (a1), .int (a2)] [.int (s0)] S = (if s0 = a1 then ((x_X11_at [.ref 26, .int (a2)] S).bind fun q => g_X6_unitNameOf 30 [.null, .null, .null] (q.1.toList ++ []) q.2) else g_X6_unitNameOf 2 [.ref 20, .int (a1), .int (a2 + 1)] [] S) :=
  (a_unf0 none t_X6_unitNameOf c_X6_unitNameOf k_X6_unitNameOf 23 18 _ _ S).trans rfl
theorem b_X6_unitNameOf_30 (s0 : Int32) (S : a_M) : g_X6_unitNameOf 30 [.null, .null, .null] [.int (s0)] S = some (some (.int (s0)), S) :=
  (a_unf0 none t_X6_unitNameOf c_X6_unitNameOf k_X6_unitNameOf 23 30 _ _ S).trans rfl
def k_X6_addRange : Nat → Bool := fun pc => false
noncomputable def g_X6_addRange : a_K := a_G none t_X6_addRange c_X6_addRange
theorem e_X6_addRange (a1 : Int32) (a2 : Int32) (a3 : Int32) (a4 : Int32) (a5 : Int32) (a6 : Int32) (S : a_M) : x_X6_addRange [.ref 20, .int a1, .int a2, .int a3, .int a4, .int a5, .int a6] S = ((x_X11_put [.ref 28, .int (S.1 20 16), .int (a1)] S).bind fun q => g_X6_addRange 12 [.ref 20, .null, .int (a2), .int (a3), .int (a4), .int (a5), .int (a6)] (q.1.toList ++ []) q.2) :=
  (show x_X6_addRange [.ref 20, .int a1, .int a2, .int a3, .int a4, .int a5, .int a6] S = g_X6_addRange 0 [.ref 20, .int (a1), .int (a2), .int (a3), .int (a4), .int (a5), .int (a6)] [] S from rfl).trans ((a_unf0 none t_X6_addRange c_X6_addRange k_X6_addRange 49 0 _ _ S).trans rfl)
theorem b_X6_addRange_12 (a2 : Int32) (a3 : Int32) (a4 : Int32) (a5 : Int32) (a6 : Int32) (S : a_M) : g_X6_addRange 12 [.ref 20, .null, .int (a2), .int (a3), .int (a4), .int (a5), .int (a6)] [] S = ((x_X11_put [.ref 29, .int (S.1 20 16), .int (a2)] S).bind fun q => g_X6_addRange 24 [.ref 20, .null, .null, .int (a3), .int (a4), .int (a5), .int (a6)] (q.1.toList ++ []) q.2) :=
  (a_unf0 none t_X6_addRange c_X6_addRange k_X6_addRange 49 12 _ _ S).trans rfl
theorem b_X6_addRange_24 (a3 : Int32) (a4 : Int32) (a5 : Int32) (a6 : Int32) (S : a_M) : g_X6_addRange 24 [.ref 20, .null, .null, .int (a3), .int (a4), .int (a5), .int (a6)] [] S = ((x_X11_put [.ref 30, .int (S.1 20 16), .int (a3)] S).bind fun q => g_X6_addRange 36 [.ref 20, .null, .null, .null, .int (a4), .int (a5), .int (a6)] (q.1.toList ++ []) q.2) :=
  (a_unf0 none t_X6_addRange c_X6_addRange k_X6_addRange 49 24 _ _ S).trans rfl
theorem b_X6_addRange_36 (a4 : Int32) (a5 : Int32) (a6 : Int32) (S : a_M) : g_X6_addRange 36 [.ref 20, .null, .null, .null, .int (a4), .int (a5), .int (a6)] [] S = ((x_X11_put [.ref 31, .int (S.1 20 16), .int (a4)] S).bind fun q => g_X6_addRange 49 [.ref 20, .null, .null, .null, .null, .int (a5), .int (a6)] (q.1.toList ++ []) q.2) :=
  (a_unf0 none t_X6_addRange c_X6_addRange k_X6_addRange 49 36 _ _ S).trans rfl
theorem b_X6_addRange_49 (a5 : Int32) (a6 : Int32) (S : a_M) : g_X6_addRange 49 [.ref 20, .null, .null, .null, .null, .int (a5), .int (a6)] [] S = ((x_X11_put [.ref 32, .int (S.1 20 16), .int (a5)] S).bind fun q => g_X6_addRange 62 [.ref 20, .null, .null, .null, .null, .null, .int (a6)] (q.1.toList ++ []) q.2) :=
  (a_unf0 none t_X6_addRange c_X6_addRange k_X6_addRange 49 49 _ _ S).trans rfl
theorem b_X6_addRange_62 (a6 : Int32) (S : a_M) : g_X6_addRange 62 [.ref 20, .null, .null, .null, .null, .null, .int (a6)] [] S = ((x_X11_put [.ref 33, .int (S.1 20 16), .int (a6)] S).bind fun q => g_X6_addRange 75 [.ref 20, .null, .null, .null, .null, .null, .null] (q.1.toList ++ []) q.2) :=
  (a_unf0 none t_X6_addRange c_X6_addRange k_X6_addRange 49 62 _ _ S).trans rfl
theorem b_X6_addRange_75 (S : a_M) : g_X6_addRange 75 [.ref 20, .null, .null, .null, .null, .null, .null] [] S = some (some (.int (((S.1 20 16) + 1) - 1)), (a_wi S 20 16 ((S.1 20 16) + 1))) :=
  (a_unf0 none t_X6_addRange c_X6_addRange k_X6_addRange 49 75 _ _ S).trans rfl
def k_X6_hasNumber : Nat → Bool := fun pc => bif Nat.beq pc 49 then true else bif Nat.beq pc 61 then true else false
noncomputable def g_X6_hasNumber : a_K := a_G none t_X6_hasNumber c_X6_hasNumber
theorem e_X6_hasNumber (a1 : Int32) (a2 : Int32) (S : a_M) : x_X6_hasNumber [.ref 20, .int a1, .int a2] S = ((x_X11_at [.ref 29, .int (a1)] S).bind fun q => g_X6_hasNumber 9 [.ref 20, .int (a1), .int (a2), .null] (q.1.toList ++ [.int (a2)]) q.2) :=
  (show x_X6_hasNumber [.ref 20, .int a1, .int a2] S = g_X6_hasNumber 0 [.ref 20, .int (a1), .int (a2), .null] [] S from rfl).trans ((a_unf0 none t_X6_hasNumber c_X6_hasNumber k_X6_hasNumber 42 0 _ _ S).trans rfl)
theorem b_X6_hasNumber_9 (a1 : Int32) (a2 : Int32) (s0 : Int32) (s1 : Int32) (S : a_M) : g_X6_hasNumber 9 [.ref 20, .int (a1), .int (a2), .null] [.int (s1), .int (s0)] S = (if s0 < s1 then some (some (.int (0)), S) else ((x_X11_at [.ref 30, .int (a1)] S).bind fun q => g_X6_hasNumber 21 [.ref 20, .int (a1), .int (a2), .null] (q.1.toList ++ [.int (a2)]) q.2)) :=
  (a_unf0 none t_X6_hasNumber c_X6_hasNumber k_X6_hasNumber 42 9 _ _ S).trans rfl
theorem b_X6_hasNumber_21 (a1 : Int32) (a2 : Int32) (s0 : Int32) (s1 : Int32) (S : a_M) : g_X6_hasNumber 21 [.ref 20, .int (a1), .int (a2), .null] [.int (s1), .int (s0)] S = (if s1 < s0 then some (some (.int (0)), S) else ((x_X11_at [.ref 31, .int (a1)] S).bind fun q => g_X6_hasNumber 34 [.null, .null, .int (a2), .null] (q.1.toList ++ []) q.2)) :=
  (a_unf0 none t_X6_hasNumber c_X6_hasNumber k_X6_hasNumber 42 21 _ _ S).trans rfl
theorem b_X6_hasNumber_34 (a2 : Int32) (s0 : Int32) (S : a_M) : g_X6_hasNumber 34 [.null, .null, .int (a2), .null] [.int (s0)] S = (if s0 = 0 then some (some (.int (1)), S) else (if s0 = 1 then g_X6_hasNumber 49 [.null, .null, .int (a2), .null] [.int (1)] S else g_X6_hasNumber 49 [.null, .null, .int (a2), .null] [.int (0)] S)) :=
  (a_unf0 none t_X6_hasNumber c_X6_hasNumber k_X6_hasNumber 42 34 _ _ S).trans rfl
theorem b_X6_hasNumber_49 (a2 : Int32) (s0 : Int32) (S : a_M) : g_X6_hasNumber 49 [.null, .null, .int (a2), .null] [.int (s0)] S = (if a2 &&& 1 = 1 then g_X6_hasNumber 61 [.null, .null, .null, .null] [.int (1), .int (s0)] S else g_X6_hasNumber 61 [.null, .null, .null, .null] [.int (0), .int (s0)] S) :=
  (a_unf0 none t_X6_hasNumber c_X6_hasNumber k_X6_hasNumber 42 49 _ _ S).trans rfl
theorem b_X6_hasNumber_61 (s0 : Int32) (s1 : Int32) (S : a_M) : g_X6_hasNumber 61 [.null, .null, .null, .null] [.int (s1), .int (s0)] S = (if s0 = s1 then some (some (.int (1)), S) else some (some (.int (0)), S)) :=
  (a_unf0 none t_X6_hasNumber c_X6_hasNumber k_X6_hasNumber 42 61 _ _ S).trans rfl
def k_X6_hasCode : Nat → Bool := fun pc => false
noncomputable def g_X6_hasCode : a_K := a_G none t_X6_hasCode c_X6_hasCode
theorem e_X6_hasCode (a1 : Int32) (a2 : Int32) (S : a_M) : x_X6_hasCode [.ref 20, .int a1, .int a2] S = ((x_X11_at [.ref 24, .int (a1)] S).bind fun q => g_X6_hasCode 9 [.ref 20, .int (a1), .int (a2)] (q.1.toList ++ [.int (a2)]) q.2) :=
  (show x_X6_hasCode [.ref 20, .int a1, .int a2] S = g_X6_hasCode 0 [.ref 20, .int (a1), .int (a2)] [] S from rfl).trans ((a_unf0 none t_X6_hasCode c_X6_hasCode k_X6_hasCode 18 0 _ _ S).trans rfl)
theorem b_X6_hasCode_9 (a1 : Int32) (a2 : Int32) (s0 : Int32) (s1 : Int32) (S : a_M) : g_X6_hasCode 9 [.ref 20, .int (a1), .int (a2)] [.int (s1), .int (s0)] S = (if s0 < s1 then some (some (.int (0)), S) else ((x_X11_at [.ref 25, .int (a1)] S).bind fun q => g_X6_hasCode 21 [.null, .null, .null] (q.1.toList ++ [.int (a2)]) q.2)) :=
  (a_unf0 none t_X6_hasCode c_X6_hasCode k_X6_hasCode 18 9 _ _ S).trans rfl
theorem b_X6_hasCode_21 (s0 : Int32) (s1 : Int32) (S : a_M) : g_X6_hasCode 21 [.null, .null, .null] [.int (s1), .int (s0)] S = (if s1 < s0 then some (some (.int (0)), S) else some (some (.int (1)), S)) :=
  (a_unf0 none t_X6_hasCode c_X6_hasCode k_X6_hasCode 18 21 _ _ S).trans rfl
def k_X6_carrierOf : Nat → Bool := fun pc => bif Nat.beq pc 15 then true else bif Nat.beq pc 51 then true else bif Nat.beq pc 52 then true else bif Nat.beq pc 72 then true else bif Nat.beq pc 77 then true else bif Nat.beq pc 113 then true else false
noncomputable def g_X6_carrierOf : a_K := a_G none t_X6_carrierOf c_X6_carrierOf
theorem e_X6_carrierOf (a1 : Int32) (a2 : Int32) (a3 : Int32) (a4 : Int32) (S : a_M) : x_X6_carrierOf [.ref 20, .int a1, .int a2, .int a3, .int a4] S = (if a1 = -1 then some (some (.int (-1)), S) else (if a2 = -1 then some (some (.int (-1)), S) else g_X6_carrierOf 15 [.ref 20, .int (a1), .int (a2), .int (a3), .int (a4), .int (0), .null, .null] [] S)) :=
  (show x_X6_carrierOf [.ref 20, .int a1, .int a2, .int a3, .int a4] S = g_X6_carrierOf 0 [.ref 20, .int (a1), .int (a2), .int (a3), .int (a4), .null, .null, .null] [] S from rfl).trans ((a_unf0 none t_X6_carrierOf c_X6_carrierOf k_X6_carrierOf 68 0 _ _ S).trans rfl)
theorem b_X6_carrierOf_15 (a1 : Int32) (a2 : Int32) (a3 : Int32) (a4 : Int32) (a5 : Int32) (S : a_M) : g_X6_carrierOf 15 [.ref 20, .int (a1), .int (a2), .int (a3), .int (a4), .int (a5), .null, .null] [] S = (if a5 < S.1 20 16 then ((x_X11_at [.ref 28, .int (a5)] S).bind fun q => g_X6_carrierOf 33 [.ref 20, .int (a1), .int (a2), .int (a3), .int (a4), .int (a5), .null, .null] (q.1.toList ++ []) q.2) else some (some (.int (-1)), S)) :=
  (a_unf0 none t_X6_carrierOf c_X6_carrierOf k_X6_carrierOf 68 15 _ _ S).trans rfl
theorem b_X6_carrierOf_33 (a1 : Int32) (a2 : Int32) (a3 : Int32) (a4 : Int32) (a5 : Int32) (s0 : Int32) (S : a_M) : g_X6_carrierOf 33 [.ref 20, .int (a1), .int (a2), .int (a3), .int (a4), .int (a5), .null, .null] [.int (s0)] S = (if s0 = a1 then ((x_X6_hasNumber [.ref 20, .int (a5), .int (a2)] S).bind fun q => g_X6_carrierOf 44 [.ref 20, .int (a1), .int (a2), .int (a3), .int (a4), .int (a5), .null, .null] (q.1.toList ++ []) q.2) else g_X6_carrierOf 51 [.ref 20, .int (a1), .int (a2), .int (a3), .int (a4), .int (a5), .null, .null] [] S) :=
  (a_unf0 none t_X6_carrierOf c_X6_carrierOf k_X6_carrierOf 68 33 _ _ S).trans rfl
theorem b_X6_carrierOf_44 (a1 : Int32) (a2 : Int32) (a3 : Int32) (a4 : Int32) (a5 : Int32) (s0 : Int32) (S : a_M) : g_X6_carrierOf 44 [.ref 20, .int (a1), .int (a2), .int (a3), .int (a4), .int (a5), .null, .null] [.int (s0)] S = (if s0 = 0 then g_X6_carrierOf 51 [.ref 20, .int (a1), .int (a2), .int (a3), .int (a4), .int (a5), .null, .null] [] S else g_X6_carrierOf 52 [.ref 20, .int (a1), .int (a2), .int (a3), .int (a4), .int (a5), .null, .null] [.int (1)] S) :=
  (a_unf0 none t_X6_carrierOf c_X6_carrierOf k_X6_carrierOf 68 44 _ _ S).trans rfl
theorem b_X6_carrierOf_51 (a1 : Int32) (a2 : Int32) (a3 : Int32) (a4 : Int32) (a5 : Int32) (S : a_M) : g_X6_carrierOf 51 [.ref 20, .int (a1), .int (a2), .int (a3), .int (a4), .int (a5), .null, .null] [] S = g_X6_carrierOf 52 [.ref 20, .int (a1), .int (a2), .int (a3), .int (a4), .int (a5), .null, .null] [.int (0)] S :=
  (a_unf0 none t_X6_carrierOf c_X6_carrierOf k_X6_carrierOf 68 51 _ _ S).trans rfl
theorem b_X6_carrierOf_52 (a1 : Int32) (a2 : Int32) (a3 : Int32) (a4 : Int32) (a5 : Int32) (s0 : Int32) (S : a_M) : g_X6_carrierOf 52 [.ref 20, .int (a1), .int (a2), .int (a3), .int (a4), .int (a5), .null, .null] [.int (s0)] S = (if a3 = -1 then g_X6_carrierOf 72 [.ref 20, .int (a1), .int (a2), .int (a3), .int (a4), .int (a5), .int (s0), .null] [] S else ((x_X11_at [.ref 32, .int (a5)] S).bind fun q => g_X6_carrierOf 68 [.ref 20, .int (a1), .int (a2), .int (a3), .int (a4), .int (a5), .int (s0), .null] (q.1.toList ++ []) q.2)) :=
  (a_unf0 none t_X6_carrierOf c_X6_carrierOf k_X6_carrierOf 68 52 _ _ S).trans rfl
theorem b_X6_carrierOf_68 (a1 : Int32) (a2 : Int32) (a3 : Int32) (a4 : Int32) (a5 : Int32) (a6 : Int32) (s0 : Int32) (S : a_M) : g_X6_carrierOf 68 [.ref 20, .int (a1), .int (a2), .int (a3), .int (a4), .int (a5), .int (a6), .null] [.int (s0)] S = (if s0 = a3 then g_X6_carrierOf 72 [.ref 20, .int (a1), .int (a2), .int (a3), .int (a4), .int (a5), .int (a6), .null] [] S else g_X6_carrierOf 77 [.ref 20, .int (a1), .int (a2), .int (a3), .int (a4), .int (a5), .int (a6), .null] [.int (0)] S) :=
  (a_unf0 none t_X6_carrierOf c_X6_carrierOf k_X6_carrierOf 68 68 _ _ S).trans rfl
theorem b_X6_carrierOf_72 (a1 : Int32) (a2 : Int32) (a3 : Int32) (a4 : Int32) (a5 : Int32) (a6 : Int32) (S : a_M) : g_X6_carrierOf 72 [.ref 20, .int (a1), .int (a2), .int (a3), .int (a4), .int (a5), .int (a6), .null] [] S = g_X6_carrierOf 77 [.ref 20, .int (a1), .int (a2), .int (a3), .int (a4), .int (a5), .int (a6), .null] [.int (1)] S :=
  (a_unf0 none t_X6_carrierOf c_X6_carrierOf k_X6_carrierOf 68 72 _ _ S).trans rfl
theorem b_X6_carrierOf_77 (a1 : Int32) (a2 : Int32) (a3 : Int32) (a4 : Int32) (a5 : Int32) (a6 : Int32) (s0 : Int32) (S : a_M) : g_X6_carrierOf 77 [.ref 20, .int (a1), .int (a2), .int (a3), .int (a4), .int (a5), .int (a6), .null] [.int (s0)] S = (if a6 = 0 then g_X6_carrierOf 15 [.ref 20, .int (a1), .int (a2), .int (a3), .int (a4), .int (a5 + 1), .null, .null] [] S else (if s0 = 0 then g_X6_carrierOf 15 [.ref 20, .int (a1), .int (a2), .int (a3), .int (a4), .int (a5 + 1), .null, .null] [] S else (if a4 = -1 then g_X6_carrierOf 113 [.ref 20, .null, .null, .null, .null, .int (a5), .null, .null] [] S else ((x_X11_at [.ref 32, .int (a5)] S).bind fun q => g_X6_carrierOf 105 [.ref 20, .int (a1), .int (a2), .int (a3), .int (a4), .int (a5), .null, .null] (q.1.toList ++ [.ref 20]) q.2)))) :=
  (a_unf0 none t_X6_carrierOf c_X6_carrierOf k_X6_carrierOf 68 77 _ _ S).trans rfl
theorem b_X6_carrierOf_105 (a1 : Int32) (a2 : Int32) (a3 : Int32) (a4 : Int32) (a5 : Int32) (s1 : Int32) (S : a_M) : g_X6_carrierOf 105 [.ref 20, .int (a1), .int (a2), .int (a3), .int (a4), .int (a5), .null, .null] [.int (s1), .ref 20] S = ((x_X6_hasCode [.ref 20, .int (s1), .int (a4)] S).bind fun q => g_X6_carrierOf 110 [.ref 20, .int (a1), .int (a2), .int (a3), .int (a4), .int (a5), .null, .null] (q.1.toList ++ []) q.2) :=
  (a_unf0 none t_X6_carrierOf c_X6_carrierOf k_X6_carrierOf 68 105 _ _ S).trans rfl
theorem b_X6_carrierOf_110 (a1 : Int32) (a2 : Int32) (a3 : Int32) (a4 : Int32) (a5 : Int32) (s0 : Int32) (S : a_M) : g_X6_carrierOf 110 [.ref 20, .int (a1), .int (a2), .int (a3), .int (a4), .int (a5), .null, .null] [.int (s0)] S = (if s0 = 0 then g_X6_carrierOf 15 [.ref 20, .int (a1), .int (a2), .int (a3), .int (a4), .int (a5 + 1), .null, .null] [] S else g_X6_carrierOf 113 [.ref 20, .null, .null, .null, .null, .int (a5), .null, .null] [] S) :=
  (a_unf0 none t_X6_carrierOf c_X6_carrierOf k_X6_carrierOf 68 110 _ _ S).trans rfl
theorem b_X6_carrierOf_113 (a5 : Int32) (S : a_M) : g_X6_carrierOf 113 [.ref 20, .null, .null, .null, .null, .int (a5), .null, .null] [] S = ((x_X11_at [.ref 33, .int (a5)] S).bind fun q => g_X6_carrierOf 122 [.null, .null, .null, .null, .null, .null, .null, .null] (q.1.toList ++ []) q.2) :=
  (a_unf0 none t_X6_carrierOf c_X6_carrierOf k_X6_carrierOf 68 113 _ _ S).trans rfl
theorem b_X6_carrierOf_122 (s0 : Int32) (S : a_M) : g_X6_carrierOf 122 [.null, .null, .null, .null, .null, .null, .null, .null] [.int (s0)] S = some (some (.int (s0)), S) :=
  (a_unf0 none t_X6_carrierOf c_X6_carrierOf k_X6_carrierOf 68 122 _ _ S).trans rfl
def k_X8_cell : Nat → Bool := fun pc => false
noncomputable def g_X8_cell : a_K := a_G none t_X8_cell c_X8_cell
theorem e_X8_cell (a0 : Int32) (a1 : Int32) (S : a_M) : x_X8_cell [.int a0, .int a1] S = some (some (.int (((a0 * 4) + a1) - 1)), S) :=
  (show x_X8_cell [.int a0, .int a1] S = g_X8_cell 0 [.int (a0), .int (a1)] [] S from rfl).trans ((a_unf0 none t_X8_cell c_X8_cell k_X8_cell 10 0 _ _ S).trans rfl)
def k_X8_costOf : Nat → Bool := fun pc => false
noncomputable def g_X8_costOf : a_K := a_G none t_X8_costOf c_X8_costOf
theorem e_X8_costOf_46 (a1 : Int32) (a2 : Int32) (S : a_M) : x_X8_costOf [.ref 46, .int a1, .int a2] S = (if a2 < 1 then some (some (.int (1000000)), S) else (if (4 : Int32) < a2 then some (some (.int (1000000)), S) else ((x_X8_cell [.int (a1), .int (a2)] S).bind fun q => g_X8_costOf 19 [.null, .null, .null] (q.1.toList ++ [.ref 47]) q.2))) :=
  (show x_X8_costOf [.ref 46, .int a1, .int a2] S = g_X8_costOf 0 [.ref 46, .int (a1), .int (a2)] [] S from rfl).trans ((a_unf0 none t_X8_costOf c_X8_costOf k_X8_costOf 17 0 _ _ S).trans rfl)
theorem b_X8_costOf_46_19 (s1 : Int32) (S : a_M) : g_X8_costOf 19 [.null, .null, .null] [.int (s1), .ref 47] S = ((x_X11_at [.ref 47, .int (s1)] S).bind fun q => g_X8_costOf 22 [.null, .null, .null] (q.1.toList ++ []) q.2) :=
  (a_unf0 none t_X8_costOf c_X8_costOf k_X8_costOf 17 19 _ _ S).trans rfl
theorem b_X8_costOf_46_22 (s0 : Int32) (S : a_M) : g_X8_costOf 22 [.null, .null, .null] [.int (s0)] S = some (some (.int (s0)), S) :=
  (a_unf0 none t_X8_costOf c_X8_costOf k_X8_costOf 17 22 _ _ S).trans rfl
theorem e_X8_costOf_49 (a1 : Int32) (a2 : Int32) (S : a_M) : x_X8_costOf [.ref 49, .int a1, .int a2] S = (if a2 < 1 then some (some (.int (1000000)), S) else (if (4 : Int32) < a2 then some (some (.int (1000000)), S) else ((x_X8_cell [.int (a1), .int (a2)] S).bind fun q => g_X8_costOf 19 [.null, .null, .null] (q.1.toList ++ [.ref 50]) q.2))) :=
  (show x_X8_costOf [.ref 49, .int a1, .int a2] S = g_X8_costOf 0 [.ref 49, .int (a1), .int (a2)] [] S from rfl).trans ((a_unf0 none t_X8_costOf c_X8_costOf k_X8_costOf 17 0 _ _ S).trans rfl)
theorem b_X8_costOf_49_19 (s1 : Int32) (S : a_M) : g_X8_costOf 19 [.null, .null, .null] [.int (s1), .ref 50] S = ((x_X11_at [.ref 50, .int (s1)] S).bind fun q => g_X8_costOf 22 [.null, .null, .null] (q.1.toList ++ []) q.2) :=
  (a_unf0 none t_X8_costOf c_X8_costOf k_X8_costOf 17 19 _ _ S).trans rfl
theorem b_X8_costOf_49_22 (s0 : Int32) (S : a_M) : g_X8_costOf 22 [.null, .null, .null] [.int (s0)] S = some (some (.int (s0)), S) :=
  (a_unf0 none t_X8_costOf c_X8_costOf k_X8_costOf 17 22 _ _ S).trans rfl
def k_X8_lower : Nat → Bool := fun pc => bif Nat.beq pc 3 then true else false
noncomputable def g_X8_lower : a_K := a_G none t_X8_lower c_X8_lower
theorem e_X8_lower_46 (a1 : Int32) (a2 : Int32) (a3 : Int32) (S : a_M) : x_X8_lower [.ref 46, .int a1, .int a2, .int a3, .ref 41] S = g_X8_lower 3 [.ref 46, .int (a1), .int (a2), .int (a3), .ref 41, .int (1), .null] [] S :=
  (show x_X8_lower [.ref 46, .int a1, .int a2, .int a3, .ref 41] S = g_X8_lower 0 [.ref 46, .int (a1), .int (a2), .int (a3), .ref 41, .null, .null] [] S from rfl).trans ((a_unf0 none t_X8_lower c_X8_lower k_X8_lower 36 0 _ _ S).trans rfl)
theorem b_X8_lower_46_3 (a1 : Int32) (a2 : Int32) (a3 : Int32) (a5 : Int32) (S : a_M) : g_X8_lower 3 [.ref 46, .int (a1), .int (a2), .int (a3), .ref 41, .int (a5), .null] [] S = (if (4 : Int32) < a5 then some (none, S) else ((x_X2_costOf [.ref 41, .int (a1), .int (a5)] S).bind fun q => g_X8_lower 17 [.ref 46, .int (a1), .int (a2), .int (a3), .ref 41, .int (a5), .null] (q.1.toList ++ []) q.2)) :=
  (a_unf0 none t_X8_lower c_X8_lower k_X8_lower 36 3 _ _ S).trans rfl
theorem b_X8_lower_46_17 (a1 : Int32) (a2 : Int32) (a3 : Int32) (a5 : Int32) (s0 : Int32) (S : a_M) : g_X8_lower 17 [.ref 46, .int (a1), .int (a2), .int (a3), .ref 41, .int (a5), .null] [.int (s0)] S = ((x_X8_costOf [.ref 46, .int (a3), .int (a5)] S).bind fun q => g_X8_lower 28 [.ref 46, .int (a1), .int (a2), .int (a3), .ref 41, .int (a5), .int (s0)] (q.1.toList ++ [.int (s0)]) q.2) :=
  (a_unf0 none t_X8_lower c_X8_lower k_X8_lower 36 17 _ _ S).trans rfl
theorem b_X8_lower_46_28 (a1 : Int32) (a2 : Int32) (a3 : Int32) (a5 : Int32) (a6 : Int32) (s0 : Int32) (s1 : Int32) (S : a_M) : g_X8_lower 28 [.ref 46, .int (a1), .int (a2), .int (a3), .ref 41, .int (a5), .int (a6)] [.int (s1), .int (s0)] S = (if s0 < s1 then ((x_X8_cell [.int (a3), .int (a5)] S).bind fun q => g_X8_lower 44 [.ref 46, .int (a1), .int (a2), .int (a3), .ref 41, .int (a5), .int (a6)] (q.1.toList ++ [.ref 47]) q.2) else g_X8_lower 3 [.ref 46, .int (a1), .int (a2), .int (a3), .ref 41, .int (a5 + 1), .null] [] S) :=
  (a_unf0 none t_X8_lower c_X8_lower k_X8_lower 36 28 _ _ S).trans rfl
theorem b_X8_lower_46_44 (a1 : Int32) (a2 : Int32) (a3 : Int32) (a5 : Int32) (a6 : Int32) (s1 : Int32) (S : a_M) : g_X8_lower 44 [.ref 46, .int (a1), .int (a2), .int (a3), .ref 41, .int (a5), .int (a6)] [.int (s1), .ref 47] S = ((x_X11_put [.ref 47, .int (s1), .int (a6)] S).bind fun q => g_X8_lower 49 [.ref 46, .int (a1), .int (a2), .int (a3), .ref 41, .int (a5), .null] (q.1.toList ++ []) q.2) :=
  (a_unf0 none t_X8_lower c_X8_lower k_X8_lower 36 44 _ _ S).trans rfl
theorem b_X8_lower_46_49 (a1 : Int32) (a2 : Int32) (a3 : Int32) (a5 : Int32) (S : a_M) : g_X8_lower 49 [.ref 46, .int (a1), .int (a2), .int (a3), .ref 41, .int (a5), .null] [] S = ((x_X8_cell [.int (a3), .int (a5)] S).bind fun q => g_X8_lower 59 [.ref 46, .int (a1), .int (a2), .int (a3), .ref 41, .int (a5), .null] (q.1.toList ++ [.ref 48]) q.2) :=
  (a_unf0 none t_X8_lower c_X8_lower k_X8_lower 36 49 _ _ S).trans rfl
theorem b_X8_lower_46_59 (a1 : Int32) (a2 : Int32) (a3 : Int32) (a5 : Int32) (s1 : Int32) (S : a_M) : g_X8_lower 59 [.ref 46, .int (a1), .int (a2), .int (a3), .ref 41, .int (a5), .null] [.int (s1), .ref 48] S = ((x_X11_put [.ref 48, .int (s1), .int (a2)] S).bind fun q => g_X8_lower 63 [.ref 46, .int (a1), .int (a2), .int (a3), .ref 41, .int (a5), .null] (q.1.toList ++ []) q.2) :=
  (a_unf0 none t_X8_lower c_X8_lower k_X8_lower 36 59 _ _ S).trans rfl
theorem b_X8_lower_46_63 (a1 : Int32) (a2 : Int32) (a3 : Int32) (a5 : Int32) (S : a_M) : g_X8_lower 63 [.ref 46, .int (a1), .int (a2), .int (a3), .ref 41, .int (a5), .null] [] S = g_X8_lower 3 [.ref 46, .int (a1), .int (a2), .int (a3), .ref 41, .int (a5 + 1), .null] [] S :=
  (a_unf0 none t_X8_lower c_X8_lower k_X8_lower 36 63 _ _ S).trans rfl
theorem e_X8_lower_49 (a1 : Int32) (a2 : Int32) (a3 : Int32) (S : a_M) : x_X8_lower [.ref 49, .int a1, .int a2, .int a3, .ref 41] S = g_X8_lower 3 [.ref 49, .int (a1), .int (a2), .int (a3), .ref 41, .int (1), .null] [] S :=
  (show x_X8_lower [.ref 49, .int a1, .int a2, .int a3, .ref 41] S = g_X8_lower 0 [.ref 49, .int (a1), .int (a2), .int (a3), .ref 41, .null, .null] [] S from rfl).trans ((a_unf0 none t_X8_lower c_X8_lower k_X8_lower 36 0 _ _ S).trans rfl)
theorem b_X8_lower_49_3 (a1 : Int32) (a2 : Int32) (a3 : Int32) (a5 : Int32) (S : a_M) : g_X8_lower 3 [.ref 49, .int (a1), .int (a2), .int (a3), .ref 41, .int (a5), .null] [] S = (if (4 : Int32) < a5 then some (none, S) else ((x_X2_costOf [.ref 41, .int (a1), .int (a5)] S).bind fun q => g_X8_lower 17 [.ref 49, .int (a1), .int (a2), .int (a3), .ref 41, .int (a5), .null] (q.1.toList ++ []) q.2)) :=
  (a_unf0 none t_X8_lower c_X8_lower k_X8_lower 36 3 _ _ S).trans rfl
theorem b_X8_lower_49_17 (a1 : Int32) (a2 : Int32) (a3 : Int32) (a5 : Int32) (s0 : Int32) (S : a_M) : g_X8_lower 17 [.ref 49, .int (a1), .int (a2), .int (a3), .ref 41, .int (a5), .null] [.int (s0)] S = ((x_X8_costOf [.ref 49, .int (a3), .int (a5)] S).bind fun q => g_X8_lower 28 [.ref 49, .int (a1), .int (a2), .int (a3), .ref 41, .int (a5), .int (s0)] (q.1.toList ++ [.int (s0)]) q.2) :=
  (a_unf0 none t_X8_lower c_X8_lower k_X8_lower 36 17 _ _ S).trans rfl
theorem b_X8_lower_49_28 (a1 : Int32) (a2 : Int32) (a3 : Int32) (a5 : Int32) (a6 : Int32) (s0 : Int32) (s1 : Int32) (S : a_M) : g_X8_lower 28 [.ref 49, .int (a1), .int (a2), .int (a3), .ref 41, .int (a5), .int (a6)] [.int (s1), .int (s0)] S = (if s0 < s1 then ((x_X8_cell [.int (a3), .int (a5)] S).bind fun q => g_X8_lower 44 [.ref 49, .int (a1), .int (a2), .int (a3), .ref 41, .int (a5), .int (a6)] (q.1.toList ++ [.ref 50]) q.2) else g_X8_lower 3 [.ref 49, .int (a1), .int (a2), .int (a3), .ref 41, .int (a5 + 1), .null] [] S) :=
  (a_unf0 none t_X8_lower c_X8_lower k_X8_lower 36 28 _ _ S).trans rfl
theorem b_X8_lower_49_44 (a1 : Int32) (a2 : Int32) (a3 : Int32) (a5 : Int32) (a6 : Int32) (s1 : Int32) (S : a_M) : g_X8_lower 44 [.ref 49, .int (a1), .int (a2), .int (a3), .ref 41, .int (a5), .int (a6)] [.int (s1), .ref 50] S = ((x_X11_put [.ref 50, .int (s1), .int (a6)] S).bind fun q => g_X8_lower 49 [.ref 49, .int (a1), .int (a2), .int (a3), .ref 41, .int (a5), .null] (q.1.toList ++ []) q.2) :=
  (a_unf0 none t_X8_lower c_X8_lower k_X8_lower 36 44 _ _ S).trans rfl
theorem b_X8_lower_49_49 (a1 : Int32) (a2 : Int32) (a3 : Int32) (a5 : Int32) (S : a_M) : g_X8_lower 49 [.ref 49, .int (a1), .int (a2), .int (a3), .ref 41, .int (a5), .null] [] S = ((x_X8_cell [.int (a3), .int (a5)] S).bind fun q => g_X8_lower 59 [.ref 49, .int (a1), .int (a2), .int (a3), .ref 41, .int (a5), .null] (q.1.toList ++ [.ref 51]) q.2) :=
  (a_unf0 none t_X8_lower c_X8_lower k_X8_lower 36 49 _ _ S).trans rfl
theorem b_X8_lower_49_59 (a1 : Int32) (a2 : Int32) (a3 : Int32) (a5 : Int32) (s1 : Int32) (S : a_M) : g_X8_lower 59 [.ref 49, .int (a1), .int (a2), .int (a3), .ref 41, .int (a5), .null] [.int (s1), .ref 51] S = ((x_X11_put [.ref 51, .int (s1), .int (a2)] S).bind fun q => g_X8_lower 63 [.ref 49, .int (a1), .int (a2), .int (a3), .ref 41, .int (a5), .null] (q.1.toList ++ []) q.2) :=
  (a_unf0 none t_X8_lower c_X8_lower k_X8_lower 36 59 _ _ S).trans rfl
theorem b_X8_lower_49_63 (a1 : Int32) (a2 : Int32) (a3 : Int32) (a5 : Int32) (S : a_M) : g_X8_lower 63 [.ref 49, .int (a1), .int (a2), .int (a3), .ref 41, .int (a5), .null] [] S = g_X8_lower 3 [.ref 49, .int (a1), .int (a2), .int (a3), .ref 41, .int (a5 + 1), .null] [] S :=
  (a_unf0 none t_X8_lower c_X8_lower k_X8_lower 36 63 _ _ S).trans rfl
def k_X8_fill : Nat → Bool := fun pc => bif Nat.beq pc 20 then true else bif Nat.beq pc 33 then true else bif Nat.beq pc 59 then true else false
noncomputable def g_X8_fill : a_K := a_G none t_X8_fill c_X8_fill
theorem e_X8_fill_46 (a1 : Int32) (a4 : Int32) (S : a_M) : x_X8_fill [.ref 46, .int a1, .ref 20, .ref 41, .int a4] S = ((x_J7_fill_53178 [.ref 47, .int (1000000)] S).bind fun q => g_X8_fill 9 [.ref 46, .int (a1), .ref 20, .ref 41, .int (a4), .null, .null, .null, .null] (q.1.toList ++ []) q.2) :=
  (show x_X8_fill [.ref 46, .int a1, .ref 20, .ref 41, .int a4] S = g_X8_fill 0 [.ref 46, .int (a1), .ref 20, .ref 41, .int (a4), .null, .null, .null, .null] [] S from rfl).trans ((a_unf0 none t_X8_fill c_X8_fill k_X8_fill 53 0 _ _ S).trans rfl)
theorem b_X8_fill_46_9 (a1 : Int32) (a4 : Int32) (S : a_M) : g_X8_fill 9 [.ref 46, .int (a1), .ref 20, .ref 41, .int (a4), .null, .null, .null, .null] [] S = ((x_J7_fill_53178 [.ref 48, .int (-1)] S).bind fun q => g_X8_fill 17 [.ref 46, .int (a1), .ref 20, .ref 41, .int (a4), .null, .null, .null, .null] (q.1.toList ++ []) q.2) :=
  (a_unf0 none t_X8_fill c_X8_fill k_X8_fill 53 9 _ _ S).trans rfl
theorem b_X8_fill_46_17 (a1 : Int32) (a4 : Int32) (S : a_M) : g_X8_fill 17 [.ref 46, .int (a1), .ref 20, .ref 41, .int (a4), .null, .null, .null, .null] [] S = g_X8_fill 20 [.ref 46, .int (a1), .ref 20, .ref 41, .int (a4), .int (0), .null, .null, .null] [] S :=
  (a_unf0 none t_X8_fill c_X8_fill k_X8_fill 53 17 _ _ S).trans rfl
theorem b_X8_fill_46_20 (a1 : Int32) (a4 : Int32) (a5 : Int32) (S : a_M) : g_X8_fill 20 [.ref 46, .int (a1), .ref 20, .ref 41, .int (a4), .int (a5), .null, .null, .null] [] S = ((x_X6_sizeOf [.ref 20, .int (a1)] S).bind fun q => g_X8_fill 27 [.ref 46, .int (a1), .ref 20, .ref 41, .int (a4), .int (a5), .null, .null, .null] (q.1.toList ++ [.int (a5)]) q.2) :=
  (a_unf0 none t_X8_fill c_X8_fill k_X8_fill 53 20 _ _ S).trans rfl
theorem b_X8_fill_46_27 (a1 : Int32) (a4 : Int32) (a5 : Int32) (s0 : Int32) (s1 : Int32) (S : a_M) : g_X8_fill 27 [.ref 46, .int (a1), .ref 20, .ref 41, .int (a4), .int (a5), .null, .null, .null] [.int (s1), .int (s0)] S = (if s0 < s1 then g_X8_fill 33 [.ref 46, .int (a1), .ref 20, .ref 41, .int (a4), .int (a5), .int (0), .null, .null] [] S else some (none, S)) :=
  (a_unf0 none t_X8_fill c_X8_fill k_X8_fill 53 27 _ _ S).trans rfl
theorem b_X8_fill_46_33 (a1 : Int32) (a4 : Int32) (a5 : Int32) (a6 : Int32) (S : a_M) : g_X8_fill 33 [.ref 46, .int (a1), .ref 20, .ref 41, .int (a4), .int (a5), .int (a6), .null, .null] [] S = ((x_X6_namesOf [.ref 20, .int (a1), .int (a5)] S).bind fun q => g_X8_fill 42 [.ref 46, .int (a1), .ref 20, .ref 41, .int (a4), .int (a5), .int (a6), .null, .null] (q.1.toList ++ [.int (a6)]) q.2) :=
  (a_unf0 none t_X8_fill c_X8_fill k_X8_fill 53 33 _ _ S).trans rfl
theorem b_X8_fill_46_42 (a1 : Int32) (a4 : Int32) (a5 : Int32) (a6 : Int32) (s0 : Int32) (s1 : Int32) (S : a_M) : g_X8_fill 42 [.ref 46, .int (a1), .ref 20, .ref 41, .int (a4), .int (a5), .int (a6), .null, .null] [.int (s1), .int (s0)] S = (if s0 < s1 then ((x_X6_nameOf [.ref 20, .int (a1), .int (a5), .int (a6)] S).bind fun q => g_X8_fill 54 [.ref 46, .int (a1), .ref 20, .ref 41, .int (a4), .int (a5), .int (a6), .null, .null] (q.1.toList ++ []) q.2) else g_X8_fill 20 [.ref 46, .int (a1), .ref 20, .ref 41, .int (a4), .int (a5 + 1), .null, .null, .null] [] S) :=
  (a_unf0 none t_X8_fill c_X8_fill k_X8_fill 53 42 _ _ S).trans rfl
theorem b_X8_fill_46_54 (a1 : Int32) (a4 : Int32) (a5 : Int32) (a6 : Int32) (s0 : Int32) (S : a_M) : g_X8_fill 54 [.ref 46, .int (a1), .ref 20, .ref 41, .int (a4), .int (a5), .int (a6), .null, .null] [.int (s0)] S = g_X8_fill 59 [.ref 46, .int (a1), .ref 20, .ref 41, .int (a4), .int (a5), .int (a6), .int (s0), .int (0)] [] S :=
  (a_unf0 none t_X8_fill c_X8_fill k_X8_fill 53 54 _ _ S).trans rfl
theorem b_X8_fill_46_59 (a1 : Int32) (a4 : Int32) (a5 : Int32) (a6 : Int32) (a7 : Int32) (a8 : Int32) (S : a_M) : g_X8_fill 59 [.ref 46, .int (a1), .ref 20, .ref 41, .int (a4), .int (a5), .int (a6), .int (a7), .int (a8)] [] S = (if a8 < a4 then ((x_X2_walk [.ref 41, .int (a7), .int (a8)] S).bind fun q => g_X8_fill 74 [.ref 46, .int (a1), .ref 20, .ref 41, .int (a4), .int (a5), .int (a6), .int (a7), .int (a8)] (q.1.toList ++ []) q.2) else g_X8_fill 33 [.ref 46, .int (a1), .ref 20, .ref 41, .int (a4), .int (a5), .int (a6 + 1), .null, .null] [] S) :=
  (a_unf0 none t_X8_fill c_X8_fill k_X8_fill 53 59 _ _ S).trans rfl
theorem b_X8_fill_46_74 (a1 : Int32) (a4 : Int32) (a5 : Int32) (a6 : Int32) (a7 : Int32) (a8 : Int32) (S : a_M) : g_X8_fill 74 [.ref 46, .int (a1), .ref 20, .ref 41, .int (a4), .int (a5), .int (a6), .int (a7), .int (a8)] [] S = ((x_X8_lower [.ref 46, .int (a7), .int (a5), .int (a8), .ref 41] S).bind fun q => g_X8_fill 85 [.ref 46, .int (a1), .ref 20, .ref 41, .int (a4), .int (a5), .int (a6), .int (a7), .int (a8)] (q.1.toList ++ []) q.2) :=
  (a_unf0 none t_X8_fill c_X8_fill k_X8_fill 53 74 _ _ S).trans rfl
theorem b_X8_fill_46_85 (a1 : Int32) (a4 : Int32) (a5 : Int32) (a6 : Int32) (a7 : Int32) (a8 : Int32) (S : a_M) : g_X8_fill 85 [.ref 46, .int (a1), .ref 20, .ref 41, .int (a4), .int (a5), .int (a6), .int (a7), .int (a8)] [] S = g_X8_fill 59 [.ref 46, .int (a1), .ref 20, .ref 41, .int (a4), .int (a5), .int (a6), .int (a7), .int (a8 + 1)] [] S :=
  (a_unf0 none t_X8_fill c_X8_fill k_X8_fill 53 85 _ _ S).trans rfl
theorem e_X8_fill_49 (a1 : Int32) (a4 : Int32) (S : a_M) : x_X8_fill [.ref 49, .int a1, .ref 20, .ref 41, .int a4] S = ((x_J7_fill_53178 [.ref 50, .int (1000000)] S).bind fun q => g_X8_fill 9 [.ref 49, .int (a1), .ref 20, .ref 41, .int (a4), .null, .null, .null, .null] (q.1.toList ++ []) q.2) :=
  (show x_X8_fill [.ref 49, .int a1, .ref 20, .ref 41, .int a4] S = g_X8_fill 0 [.ref 49, .int (a1), .ref 20, .ref 41, .int (a4), .null, .null, .null, .null] [] S from rfl).trans ((a_unf0 none t_X8_fill c_X8_fill k_X8_fill 53 0 _ _ S).trans rfl)
theorem b_X8_fill_49_9 (a1 : Int32) (a4 : Int32) (S : a_M) : g_X8_fill 9 [.ref 49, .int (a1), .ref 20, .ref 41, .int (a4), .null, .null, .null, .null] [] S = ((x_J7_fill_53178 [.ref 51, .int (-1)] S).bind fun q => g_X8_fill 17 [.ref 49, .int (a1), .ref 20, .ref 41, .int (a4), .null, .null, .null, .null] (q.1.toList ++ []) q.2) :=
  (a_unf0 none t_X8_fill c_X8_fill k_X8_fill 53 9 _ _ S).trans rfl
theorem b_X8_fill_49_17 (a1 : Int32) (a4 : Int32) (S : a_M) : g_X8_fill 17 [.ref 49, .int (a1), .ref 20, .ref 41, .int (a4), .null, .null, .null, .null] [] S = g_X8_fill 20 [.ref 49, .int (a1), .ref 20, .ref 41, .int (a4), .int (0), .null, .null, .null] [] S :=
  (a_unf0 none t_X8_fill c_X8_fill k_X8_fill 53 17 _ _ S).trans rfl
theorem b_X8_fill_49_20 (a1 : Int32) (a4 : Int32) (a5 : Int32) (S : a_M) : g_X8_fill 20 [.ref 49, .int (a1), .ref 20, .ref 41, .int (a4), .int (a5), .null, .null, .null] [] S = ((x_X6_sizeOf [.ref 20, .int (a1)] S).bind fun q => g_X8_fill 27 [.ref 49, .int (a1), .ref 20, .ref 41, .int (a4), .int (a5), .null, .null, .null] (q.1.toList ++ [.int (a5)]) q.2) :=
  (a_unf0 none t_X8_fill c_X8_fill k_X8_fill 53 20 _ _ S).trans rfl
theorem b_X8_fill_49_27 (a1 : Int32) (a4 : Int32) (a5 : Int32) (s0 : Int32) (s1 : Int32) (S : a_M) : g_X8_fill 27 [.ref 49, .int (a1), .ref 20, .ref 41, .int (a4), .int (a5), .null, .null, .null] [.int (s1), .int (s0)] S = (if s0 < s1 then g_X8_fill 33 [.ref 49, .int (a1), .ref 20, .ref 41, .int (a4), .int (a5), .int (0), .null, .null] [] S else some (none, S)) :=
  (a_unf0 none t_X8_fill c_X8_fill k_X8_fill 53 27 _ _ S).trans rfl
theorem b_X8_fill_49_33 (a1 : Int32) (a4 : Int32) (a5 : Int32) (a6 : Int32) (S : a_M) : g_X8_fill 33 [.ref 49, .int (a1), .ref 20, .ref 41, .int (a4), .int (a5), .int (a6), .null, .null] [] S = ((x_X6_namesOf [.ref 20, .int (a1), .int (a5)] S).bind fun q => g_X8_fill 42 [.ref 49, .int (a1), .ref 20, .ref 41, .int (a4), .int (a5), .int (a6), .null, .null] (q.1.toList ++ [.int (a6)]) q.2) :=
  (a_unf0 none t_X8_fill c_X8_fill k_X8_fill 53 33 _ _ S).trans rfl
theorem b_X8_fill_49_42 (a1 : Int32) (a4 : Int32) (a5 : Int32) (a6 : Int32) (s0 : Int32) (s1 : Int32) (S : a_M) : g_X8_fill 42 [.ref 49, .int (a1), .ref 20, .ref 41, .int (a4), .int (a5), .int (a6), .null, .null] [.int (s1), .int (s0)] S = (if s0 < s1 then ((x_X6_nameOf [.ref 20, .int (a1), .int (a5), .int (a6)] S).bind fun q => g_X8_fill 54 [.ref 49, .int (a1), .ref 20, .ref 41, .int (a4), .int (a5), .int (a6), .null, .null] (q.1.toList ++ []) q.2) else g_X8_fill 20 [.ref 49, .int (a1), .ref 20, .ref 41, .int (a4), .int (a5 + 1), .null, .null, .null] [] S) :=
  (a_unf0 none t_X8_fill c_X8_fill k_X8_fill 53 42 _ _ S).trans rfl
theorem b_X8_fill_49_54 (a1 : Int32) (a4 : Int32) (a5 : Int32) (a6 : Int32) (s0 : Int32) (S : a_M) : g_X8_fill 54 [.ref 49, .int (a1), .ref 20, .ref 41, .int (a4), .int (a5), .int (a6), .null, .null] [.int (s0)] S = g_X8_fill 59 [.ref 49, .int (a1), .ref 20, .ref 41, .int (a4), .int (a5), .int (a6), .int (s0), .int (0)] [] S :=
  (a_unf0 none t_X8_fill c_X8_fill k_X8_fill 53 54 _ _ S).trans rfl
theorem b_X8_fill_49_59 (a1 : Int32) (a4 : Int32) (a5 : Int32) (a6 : Int32) (a7 : Int32) (a8 : Int32) (S : a_M) : g_X8_fill 59 [.ref 49, .int (a1), .ref 20, .ref 41, .int (a4), .int (a5), .int (a6), .int (a7), .int (a8)] [] S = (if a8 < a4 then ((x_X2_walk [.ref 41, .int (a7), .int (a8)] S).bind fun q => g_X8_fill 74 [.ref 49, .int (a1), .ref 20, .ref 41, .int (a4), .int (a5), .int (a6), .int (a7), .int (a8)] (q.1.toList ++ []) q.2) else g_X8_fill 33 [.ref 49, .int (a1), .ref 20, .ref 41, .int (a4), .int (a5), .int (a6 + 1), .null, .null] [] S) :=
  (a_unf0 none t_X8_fill c_X8_fill k_X8_fill 53 59 _ _ S).trans rfl
theorem b_X8_fill_49_74 (a1 : Int32) (a4 : Int32) (a5 : Int32) (a6 : Int32) (a7 : Int32) (a8 : Int32) (S : a_M) : g_X8_fill 74 [.ref 49, .int (a1), .ref 20, .ref 41, .int (a4), .int (a5), .int (a6), .int (a7), .int (a8)] [] S = ((x_X8_lower [.ref 49, .int (a7), .int (a5), .int (a8), .ref 41] S).bind fun q => g_X8_fill 85 [.ref 49, .int (a1), .ref 20, .ref 41, .int (a4), .int (a5), .int (a6), .int (a7), .int (a8)] (q.1.toList ++ []) q.2) :=
  (a_unf0 none t_X8_fill c_X8_fill k_X8_fill 53 74 _ _ S).trans rfl
theorem b_X8_fill_49_85 (a1 : Int32) (a4 : Int32) (a5 : Int32) (a6 : Int32) (a7 : Int32) (a8 : Int32) (S : a_M) : g_X8_fill 85 [.ref 49, .int (a1), .ref 20, .ref 41, .int (a4), .int (a5), .int (a6), .int (a7), .int (a8)] [] S = g_X8_fill 59 [.ref 49, .int (a1), .ref 20, .ref 41, .int (a4), .int (a5), .int (a6), .int (a7), .int (a8 + 1)] [] S :=
  (a_unf0 none t_X8_fill c_X8_fill k_X8_fill 53 85 _ _ S).trans rfl
def k_X7_wayAt : Nat → Bool := fun pc => false
noncomputable def g_X7_wayAt : a_K := a_G none t_X7_wayAt c_X7_wayAt
theorem e_X7_wayAt (a1 : Int32) (a2 : Int32) (S : a_M) : x_X7_wayAt [.ref 45, .int a1, .int a2] S = (if (a1 * 6) + a2 < 0 then some (some (.long (4611686018427387904)), S) else (if (a1 * 6) + a2 < 90 then (if (a1 * 6) + a2 < 0 ∨ 90 ≤ ((a1 * 6) + a2).toNatClampNeg then none else some (some (.long (S.2 53 ((a1 * 6) + a2).toNatClampNeg)), S)) else some (some (.long (4611686018427387904)), S))) :=
  (show x_X7_wayAt [.ref 45, .int a1, .int a2] S = g_X7_wayAt 0 [.ref 45, .int (a1), .int (a2), .null] [] S from rfl).trans ((a_unf0 none t_X7_wayAt c_X7_wayAt k_X7_wayAt 22 0 _ _ S).trans rfl)
def k_X7_marks : Nat → Bool := fun pc => bif Nat.beq pc 6 then true else false
noncomputable def g_X7_marks : a_K := a_G none t_X7_marks c_X7_marks
theorem e_X7_marks (a1 : Int32) (a2 : Int32) (a3 : Int32) (S : a_M) : x_X7_marks [.ref 45, .int a1, .int a2, .int a3] S = g_X7_marks 6 [.ref 45, .int (a1), .int (a2), .int (a3), .long (0), .null, .int (a2)] [] S :=
  (show x_X7_marks [.ref 45, .int a1, .int a2, .int a3] S = g_X7_marks 0 [.ref 45, .int (a1), .int (a2), .int (a3), .null, .null, .null] [] S from rfl).trans ((a_unf0 none t_X7_marks c_X7_marks k_X7_marks 30 0 _ _ S).trans rfl)
theorem b_X7_marks_6 (a1 : Int32) (a2 : Int32) (a3 : Int32) (a4 : Int64) (a6 : Int32) (S : a_M) : g_X7_marks 6 [.ref 45, .int (a1), .int (a2), .int (a3), .long (a4), .null, .int (a6)] [] S = (if a6 < a2 + a3 then g_X7_marks 6 [.ref 45, .int (a1), .int (a2), .int (a3), .long (a4 + (((a1).toInt64) <<< ((3 * (((S.1 7 4) - 1) - a6)).toInt64 &&& 63))), .null, .int (a6 + 1)] [] S else some (some (.long (a4)), S)) :=
  (a_unf0 none t_X7_marks c_X7_marks k_X7_marks 30 6 _ _ S).trans rfl
def k_X7_plus : Nat → Bool := fun pc => false
noncomputable def g_X7_plus : a_K := a_G none t_X7_plus c_X7_plus
theorem e_X7_plus (a0 : Int64) (a2 : Int32) (a3 : Int64) (S : a_M) : x_X7_plus [.long a0, .int a2, .long a3] S = (if lg_cmp a0 4611686018427387904 = 0 then some (some (.long (4611686018427387904)), S) else some (some (.long ((a0 + (((a2).toInt64) <<< ((42 : Int32).toInt64 &&& 63))) + a3)), S)) :=
  (show x_X7_plus [.long a0, .int a2, .long a3] S = g_X7_plus 0 [.long (a0), .null, .int (a2), .long (a3), .null] [] S from rfl).trans ((a_unf0 none t_X7_plus c_X7_plus k_X7_plus 17 0 _ _ S).trans rfl)
def k_X11_isSmallLetter : Nat → Bool := fun pc => false
noncomputable def g_X11_isSmallLetter : a_K := a_G none t_X11_isSmallLetter c_X11_isSmallLetter
theorem e_X11_isSmallLetter (a0 : Int32) (S : a_M) : x_X11_isSmallLetter [.int a0] S = (if a0 < 97 then some (some (.int (0)), S) else (if (122 : Int32) < a0 then some (some (.int (0)), S) else some (some (.int (1)), S))) :=
  (show x_X11_isSmallLetter [.int a0] S = g_X11_isSmallLetter 0 [.int (a0)] [] S from rfl).trans ((a_unf0 none t_X11_isSmallLetter c_X11_isSmallLetter k_X11_isSmallLetter 12 0 _ _ S).trans rfl)
def k_X10_isNumber : Nat → Bool := fun pc => false
noncomputable def g_X10_isNumber : a_K := a_G none t_X10_isNumber c_X10_isNumber
theorem e_X10_isNumber (a1 : Int32) (S : a_M) : x_X10_isNumber [.ref 7, .int a1] S = ((x_X11_at [.ref 10, .int (a1)] S).bind fun q => g_X10_isNumber 8 [.ref 7, .int (a1), .null, .null] (q.1.toList ++ []) q.2) :=
  (show x_X10_isNumber [.ref 7, .int a1] S = g_X10_isNumber 0 [.ref 7, .int (a1), .null, .null] [] S from rfl).trans ((a_unf0 none t_X10_isNumber c_X10_isNumber k_X10_isNumber 37 0 _ _ S).trans rfl)
theorem b_X10_isNumber_8 (a1 : Int32) (s0 : Int32) (S : a_M) : g_X10_isNumber 8 [.ref 7, .int (a1), .null, .null] [.int (s0)] S = (if s0 < 1 then some (some (.int (0)), S) else (if (5 : Int32) < s0 then some (some (.int (0)), S) else ((x_X11_at [.ref 9, .int (a1)] S).bind fun q => g_X10_isNumber 29 [.ref 7, .int (a1), .int (s0), .null] (q.1.toList ++ []) q.2))) :=
  (a_unf0 none t_X10_isNumber c_X10_isNumber k_X10_isNumber 37 8 _ _ S).trans rfl
theorem b_X10_isNumber_29 (a1 : Int32) (a2 : Int32) (s0 : Int32) (S : a_M) : g_X10_isNumber 29 [.ref 7, .int (a1), .int (a2), .null] [.int (s0)] S = (if s0 - a2 = 0 then some (some (.int (1)), S) else (if s0 - a2 = 1 then ((x_X10_signAt [.ref 7, .int (a1), .int (a2)] S).bind fun q => g_X10_isNumber 47 [.null, .null, .null, .null] (q.1.toList ++ []) q.2) else some (some (.int (0)), S))) :=
  (a_unf0 none t_X10_isNumber c_X10_isNumber k_X10_isNumber 37 29 _ _ S).trans rfl
theorem b_X10_isNumber_47 (s0 : Int32) (S : a_M) : g_X10_isNumber 47 [.null, .null, .null, .null] [.int (s0)] S = ((x_X11_isSmallLetter [.int (s0)] S).bind fun q => g_X10_isNumber 50 [.null, .null, .null, .null] (q.1.toList ++ []) q.2) :=
  (a_unf0 none t_X10_isNumber c_X10_isNumber k_X10_isNumber 37 47 _ _ S).trans rfl
theorem b_X10_isNumber_50 (s0 : Int32) (S : a_M) : g_X10_isNumber 50 [.null, .null, .null, .null] [.int (s0)] S = (if s0 = 0 then some (some (.int (0)), S) else some (some (.int (1)), S)) :=
  (a_unf0 none t_X10_isNumber c_X10_isNumber k_X10_isNumber 37 50 _ _ S).trans rfl
def k_X7_isUnit : Nat → Bool := fun pc => false
noncomputable def g_X7_isUnit : a_K := a_G none t_X7_isUnit c_X7_isUnit
theorem e_X7_isUnit (a1 : Int32) (S : a_M) : x_X7_isUnit [.ref 45, .int a1] S = ((x_X11_at [.ref 52, .int (a1)] S).bind fun q => g_X7_isUnit 8 [.ref 45, .int (a1)] (q.1.toList ++ []) q.2) :=
  (show x_X7_isUnit [.ref 45, .int a1] S = g_X7_isUnit 0 [.ref 45, .int (a1)] [] S from rfl).trans ((a_unf0 none t_X7_isUnit c_X7_isUnit k_X7_isUnit 20 0 _ _ S).trans rfl)
theorem b_X7_isUnit_8 (a1 : Int32) (s0 : Int32) (S : a_M) : g_X7_isUnit 8 [.ref 45, .int (a1)] [.int (s0)] S = (if s0 = -1 then some (some (.int (0)), S) else ((x_X10_lengthOf [.ref 7, .int (a1 + 1)] S).bind fun q => g_X7_isUnit 22 [.null, .null] (q.1.toList ++ []) q.2)) :=
  (a_unf0 none t_X7_isUnit c_X7_isUnit k_X7_isUnit 20 8 _ _ S).trans rfl
theorem b_X7_isUnit_22 (s0 : Int32) (S : a_M) : g_X7_isUnit 22 [.null, .null] [.int (s0)] S = (if (4 : Int32) < s0 then some (some (.int (0)), S) else some (some (.int (1)), S)) :=
  (a_unf0 none t_X7_isUnit c_X7_isUnit k_X7_isUnit 20 22 _ _ S).trans rfl
def k_X10_isCode : Nat → Bool := fun pc => false
noncomputable def g_X10_isCode : a_K := a_G none t_X10_isCode c_X10_isCode
theorem e_X10_isCode (a1 : Int32) (S : a_M) : x_X10_isCode [.ref 7, .int a1] S = ((x_X11_at [.ref 10, .int (a1)] S).bind fun q => g_X10_isCode 8 [.ref 7, .int (a1)] (q.1.toList ++ []) q.2) :=
  (show x_X10_isCode [.ref 7, .int a1] S = g_X10_isCode 0 [.ref 7, .int (a1)] [] S from rfl).trans ((a_unf0 none t_X10_isCode c_X10_isCode k_X10_isCode 18 0 _ _ S).trans rfl)
theorem b_X10_isCode_8 (a1 : Int32) (s0 : Int32) (S : a_M) : g_X10_isCode 8 [.ref 7, .int (a1)] [.int (s0)] S = (if s0 = 5 then ((x_X11_at [.ref 9, .int (a1)] S).bind fun q => g_X10_isCode 20 [.null, .null] (q.1.toList ++ []) q.2) else some (some (.int (0)), S)) :=
  (a_unf0 none t_X10_isCode c_X10_isCode k_X10_isCode 18 8 _ _ S).trans rfl
theorem b_X10_isCode_20 (s0 : Int32) (S : a_M) : g_X10_isCode 20 [.null, .null] [.int (s0)] S = (if s0 = 5 then some (some (.int (1)), S) else some (some (.int (0)), S)) :=
  (a_unf0 none t_X10_isCode c_X10_isCode k_X10_isCode 18 20 _ _ S).trans rfl
def k_X7_rowCost : Nat → Bool := fun pc => false
noncomputable def g_X7_rowCost : a_K := a_G none t_X7_rowCost c_X7_rowCost
theorem e_X7_rowCost (a1 : Int32) (a2 : Int32) (a3 : Int32) (S : a_M) : x_X7_rowCost [.ref 45, .int a1, .int a2, .int a3] S = (if a1 = 0 then (if a3 = 1 then ((x_X10_isNumber [.ref 7, .int (a2)] S).bind fun q => g_X7_rowCost 49 [.null, .null, .null, .null] (q.1.toList ++ []) q.2) else some (some (.int (1000000)), S)) else (if a1 = 1 then ((x_X8_costOf [.ref 46, .int (a2), .int (a3)] S).bind fun q => g_X7_rowCost 68 [.null, .null, .null, .null] (q.1.toList ++ []) q.2) else (if a1 = 2 then (if a3 = 2 then ((x_X7_isUnit [.ref 45, .int (a2)] S).bind fun q => g_X7_rowCost 79 [.null, .null, .null, .null] (q.1.toList ++ []) q.2) else some (some (.int (1000000)), S)) else (if a1 = 3 then ((x_X8_costOf [.ref 49, .int (a2), .int (a3)] S).bind fun q => g_X7_rowCost 98 [.null, .null, .null, .null] (q.1.toList ++ []) q.2) else (if a1 = 4 then (if a3 = 1 then ((x_X10_isCode [.ref 7, .int (a2)] S).bind fun q => g_X7_rowCost 112 [.null, .null, .null, .null] (q.1.toList ++ []) q.2) else some (some (.int (1000000)), S)) else some (some (.int (1000000)), S)))))) :=
  (show x_X7_rowCost [.ref 45, .int a1, .int a2, .int a3] S = g_X7_rowCost 0 [.ref 45, .int (a1), .int (a2), .int (a3)] [] S from rfl).trans ((a_unf0 none t_X7_rowCost c_X7_rowCost k_X7_rowCost 53 0 _ _ S).trans rfl)
theorem b_X7_rowCost_49 (s0 : Int32) (S : a_M) : g_X7_rowCost 49 [.null, .null, .null, .null] [.int (s0)] S = (if s0 = 0 then some (some (.int (1000000)), S) else some (some (.int (0)), S)) :=
  (a_unf0 none t_X7_rowCost c_X7_rowCost k_X7_rowCost 53 49 _ _ S).trans rfl
theorem b_X7_rowCost_68 (s0 : Int32) (S : a_M) : g_X7_rowCost 68 [.null, .null, .null, .null] [.int (s0)] S = some (some (.int (s0)), S) :=
  (a_unf0 none t_X7_rowCost c_X7_rowCost k_X7_rowCost 53 68 _ _ S).trans rfl
theorem b_X7_rowCost_79 (s0 : Int32) (S : a_M) : g_X7_rowCost 79 [.null, .null, .null, .null] [.int (s0)] S = (if s0 = 0 then some (some (.int (1000000)), S) else some (some (.int (0)), S)) :=
  (a_unf0 none t_X7_rowCost c_X7_rowCost k_X7_rowCost 53 79 _ _ S).trans rfl
theorem b_X7_rowCost_98 (s0 : Int32) (S : a_M) : g_X7_rowCost 98 [.null, .null, .null, .null] [.int (s0)] S = some (some (.int (s0)), S) :=
  (a_unf0 none t_X7_rowCost c_X7_rowCost k_X7_rowCost 53 98 _ _ S).trans rfl
theorem b_X7_rowCost_112 (s0 : Int32) (S : a_M) : g_X7_rowCost 112 [.null, .null, .null, .null] [.int (s0)] S = (if s0 = 0 then some (some (.int (1000000)), S) else some (some (.int (0)), S)) :=
  (a_unf0 none t_X7_rowCost c_X7_rowCost k_X7_rowCost 53 112 _ _ S).trans rfl
def k_X10_breakAhead : Nat → Bool := fun pc => false
noncomputable def g_X10_breakAhead : a_K := a_G none t_X10_breakAhead c_X10_breakAhead
theorem e_X10_breakAhead (a1 : Int32) (S : a_M) : x_X10_breakAhead [.ref 7, .int a1] S = ((x_X11_at [.ref 11, .int (a1)] S).bind fun q => g_X10_breakAhead 8 [.null, .null] (q.1.toList ++ []) q.2) :=
  (show x_X10_breakAhead [.ref 7, .int a1] S = g_X10_breakAhead 0 [.ref 7, .int (a1)] [] S from rfl).trans ((a_unf0 none t_X10_breakAhead c_X10_breakAhead k_X10_breakAhead 7 0 _ _ S).trans rfl)
theorem b_X10_breakAhead_8 (s0 : Int32) (S : a_M) : g_X10_breakAhead 8 [.null, .null] [.int (s0)] S = some (some (.int (s0)), S) :=
  (a_unf0 none t_X10_breakAhead c_X10_breakAhead k_X10_breakAhead 7 8 _ _ S).trans rfl
def k_X7_breakCost : Nat → Bool := fun pc => bif Nat.beq pc 7 then true else false
noncomputable def g_X7_breakCost : a_K := a_G none t_X7_breakCost c_X7_breakCost
theorem e_X7_breakCost (a1 : Int32) (a2 : Int32) (S : a_M) : x_X7_breakCost [.ref 45, .int a1, .int a2] S = g_X7_breakCost 7 [.ref 45, .int (a1), .int (a2), .int (0), .int (a1 + 1)] [] S :=
  (show x_X7_breakCost [.ref 45, .int a1, .int a2] S = g_X7_breakCost 0 [.ref 45, .int (a1), .int (a2), .null, .null] [] S from rfl).trans ((a_unf0 none t_X7_breakCost c_X7_breakCost k_X7_breakCost 26 0 _ _ S).trans rfl)
theorem b_X7_breakCost_7 (a1 : Int32) (a2 : Int32) (a3 : Int32) (a4 : Int32) (S : a_M) : g_X7_breakCost 7 [.ref 45, .int (a1), .int (a2), .int (a3), .int (a4)] [] S = (if a4 < a1 + a2 then ((x_X10_breakAhead [.ref 7, .int (a4)] S).bind fun q => g_X7_breakCost 26 [.ref 45, .int (a1), .int (a2), .null, .int (a4)] (q.1.toList ++ [.int (2), .int (a3)]) q.2) else some (some (.int (a3)), S)) :=
  (a_unf0 none t_X7_breakCost c_X7_breakCost k_X7_breakCost 26 7 _ _ S).trans rfl
theorem b_X7_breakCost_26 (a1 : Int32) (a2 : Int32) (a4 : Int32) (s0 : Int32) (s1 : Int32) (s2 : Int32) (S : a_M) : g_X7_breakCost 26 [.ref 45, .int (a1), .int (a2), .null, .int (a4)] [.int (s2), .int (s1), .int (s0)] S = g_X7_breakCost 7 [.ref 45, .int (a1), .int (a2), .int (s0 + (s1 * s2)), .int (a4 + 1)] [] S :=
  (a_unf0 none t_X7_breakCost c_X7_breakCost k_X7_breakCost 26 26 _ _ S).trans rfl
def k_X7_leastWay : Nat → Bool := fun pc => bif Nat.beq pc 29 then true else bif Nat.beq pc 66 then true else bif Nat.beq pc 107 then true else bif Nat.beq pc 121 then true else false
noncomputable def g_X7_leastWay : a_K := a_G none t_X7_leastWay c_X7_leastWay
theorem e_X7_leastWay (a1 : Int32) (a2 : Int32) (a3 : Int32) (S : a_M) : x_X7_leastWay [.ref 45, .int a1, .int a2, .int a3] S = ((x_X4_sizeOf [.ref 34, .int (a1)] S).bind fun q => g_X7_leastWay 8 [.ref 45, .int (a1), .int (a2), .int (a3), .null, .null, .null, .null, .null, .null, .null, .null] (q.1.toList ++ []) q.2) :=
  (show x_X7_leastWay [.ref 45, .int a1, .int a2, .int a3] S = g_X7_leastWay 0 [.ref 45, .int (a1), .int (a2), .int (a3), .null, .null, .null, .null, .null, .null, .null, .null] [] S from rfl).trans ((a_unf0 none t_X7_leastWay c_X7_leastWay k_X7_leastWay 118 0 _ _ S).trans rfl)
theorem b_X7_leastWay_8 (a1 : Int32) (a2 : Int32) (a3 : Int32) (s0 : Int32) (S : a_M) : g_X7_leastWay 8 [.ref 45, .int (a1), .int (a2), .int (a3), .null, .null, .null, .null, .null, .null, .null, .null] [.int (s0)] S = (if a2 = S.1 7 4 then (if a3 = s0 then some (some (.long (0)), S) else g_X7_leastWay 29 [.ref 45, .int (a1), .int (a2), .int (a3), .int (s0), .null, .null, .null, .null, .null, .null, .null] [] S) else g_X7_leastWay 29 [.ref 45, .int (a1), .int (a2), .int (a3), .int (s0), .null, .null, .null, .null, .null, .null, .null] [] S) :=
  (a_unf0 none t_X7_leastWay c_X7_leastWay k_X7_leastWay 118 8 _ _ S).trans rfl
theorem b_X7_leastWay_29 (a1 : Int32) (a2 : Int32) (a3 : Int32) (a4 : Int32) (S : a_M) : g_X7_leastWay 29 [.ref 45, .int (a1), .int (a2), .int (a3), .int (a4), .null, .null, .null, .null, .null, .null, .null] [] S = (if a2 < S.1 7 4 then ((x_X7_wayAt [.ref 45, .int (a2 + 1), .int (a3)] S).bind fun q => g_X7_leastWay 53 [.ref 45, .int (a1), .int (a2), .int (a3), .int (a4), .null, .null, .null, .null, .null, .null, .null] (q.1.toList ++ []) q.2) else g_X7_leastWay 66 [.ref 45, .int (a1), .int (a2), .int (a3), .int (a4), .long (4611686018427387904), .null, .null, .null, .null, .null, .null] [] S) :=
  (a_unf0 none t_X7_leastWay c_X7_leastWay k_X7_leastWay 118 29 _ _ S).trans rfl
theorem b_X7_leastWay_53 (a1 : Int32) (a2 : Int32) (a3 : Int32) (a4 : Int32) (s0 : Int64) (S : a_M) : g_X7_leastWay 53 [.ref 45, .int (a1), .int (a2), .int (a3), .int (a4), .null, .null, .null, .null, .null, .null, .null] [.long (s0)] S = ((x_X7_marks [.ref 45, .int (5), .int (a2), .int (1)] S).bind fun q => g_X7_leastWay 61 [.ref 45, .int (a1), .int (a2), .int (a3), .int (a4), .null, .null, .null, .null, .null, .null, .null] (q.1.toList ++ [.int (4), .long (s0)]) q.2) :=
  (a_unf0 none t_X7_leastWay c_X7_leastWay k_X7_leastWay 118 53 _ _ S).trans rfl
theorem b_X7_leastWay_61 (a1 : Int32) (a2 : Int32) (a3 : Int32) (a4 : Int32) (s0 : Int64) (s1 : Int32) (s2 : Int64) (S : a_M) : g_X7_leastWay 61 [.ref 45, .int (a1), .int (a2), .int (a3), .int (a4), .null, .null, .null, .null, .null, .null, .null] [.long (s2), .int (s1), .long (s0)] S = ((x_X7_plus [.long (s0), .int (s1), .long (s2)] S).bind fun q => g_X7_leastWay 64 [.ref 45, .int (a1), .int (a2), .int (a3), .int (a4), .null, .null, .null, .null, .null, .null, .null] (q.1.toList ++ []) q.2) :=
  (a_unf0 none t_X7_leastWay c_X7_leastWay k_X7_leastWay 118 61 _ _ S).trans rfl
theorem b_X7_leastWay_64 (a1 : Int32) (a2 : Int32) (a3 : Int32) (a4 : Int32) (s0 : Int64) (S : a_M) : g_X7_leastWay 64 [.ref 45, .int (a1), .int (a2), .int (a3), .int (a4), .null, .null, .null, .null, .null, .null, .null] [.long (s0)] S = g_X7_leastWay 66 [.ref 45, .int (a1), .int (a2), .int (a3), .int (a4), .long (s0), .null, .null, .null, .null, .null, .null] [] S :=
  (a_unf0 none t_X7_leastWay c_X7_leastWay k_X7_leastWay 118 64 _ _ S).trans rfl
theorem b_X7_leastWay_66 (a1 : Int32) (a2 : Int32) (a3 : Int32) (a4 : Int32) (a5 : Int64) (S : a_M) : g_X7_leastWay 66 [.ref 45, .int (a1), .int (a2), .int (a3), .int (a4), .long (a5), .null, .null, .null, .null, .null, .null] [] S = (if a3 = a4 then some (some (.long (a5)), S) else ((x_X4_mustBe [.ref 34, .int (a1), .int (a3)] S).bind fun q => g_X7_leastWay 84 [.ref 45, .int (a1), .int (a2), .int (a3), .null, .long (a5), .null, .null, .null, .null, .null, .null] (q.1.toList ++ []) q.2)) :=
  (a_unf0 none t_X7_leastWay c_X7_leastWay k_X7_leastWay 118 66 _ _ S).trans rfl
theorem b_X7_leastWay_84 (a1 : Int32) (a2 : Int32) (a3 : Int32) (a5 : Int64) (s0 : Int32) (S : a_M) : g_X7_leastWay 84 [.ref 45, .int (a1), .int (a2), .int (a3), .null, .long (a5), .null, .null, .null, .null, .null, .null] [.int (s0)] S = (if s0 = 0 then ((x_X7_wayAt [.ref 45, .int (a2), .int (a3 + 1)] S).bind fun q => g_X7_leastWay 97 [.ref 45, .int (a1), .int (a2), .int (a3), .null, .null, .null, .null, .null, .null, .null, .null] (q.1.toList ++ [.long (a5)]) q.2) else g_X7_leastWay 107 [.ref 45, .int (a1), .int (a2), .int (a3), .null, .long (a5), .null, .null, .null, .null, .null, .null] [] S) :=
  (a_unf0 none t_X7_leastWay c_X7_leastWay k_X7_leastWay 118 84 _ _ S).trans rfl
theorem b_X7_leastWay_97 (a1 : Int32) (a2 : Int32) (a3 : Int32) (s0 : Int64) (s1 : Int64) (S : a_M) : g_X7_leastWay 97 [.ref 45, .int (a1), .int (a2), .int (a3), .null, .null, .null, .null, .null, .null, .null, .null] [.long (s1), .long (s0)] S = ((x_X7_plus [.long (s1), .int (3), .long (0)] S).bind fun q => g_X7_leastWay 102 [.ref 45, .int (a1), .int (a2), .int (a3), .null, .null, .null, .null, .null, .null, .null, .null] (q.1.toList ++ [.long (s0)]) q.2) :=
  (a_unf0 none t_X7_leastWay c_X7_leastWay k_X7_leastWay 118 97 _ _ S).trans rfl
theorem b_X7_leastWay_102 (a1 : Int32) (a2 : Int32) (a3 : Int32) (s0 : Int64) (s1 : Int64) (S : a_M) : g_X7_leastWay 102 [.ref 45, .int (a1), .int (a2), .int (a3), .null, .null, .null, .null, .null, .null, .null, .null] [.long (s1), .long (s0)] S = ((x_J9_min_f86c9 [.long (s0), .long (s1)] S).bind fun q => g_X7_leastWay 105 [.ref 45, .int (a1), .int (a2), .int (a3), .null, .null, .null, .null, .null, .null, .null, .null] (q.1.toList ++ []) q.2) :=
  (a_unf0 none t_X7_leastWay c_X7_leastWay k_X7_leastWay 118 102 _ _ S).trans rfl
theorem b_X7_leastWay_105 (a1 : Int32) (a2 : Int32) (a3 : Int32) (s0 : Int64) (S : a_M) : g_X7_leastWay 105 [.ref 45, .int (a1), .int (a2), .int (a3), .null, .null, .null, .null, .null, .null, .null, .null] [.long (s0)] S = g_X7_leastWay 107 [.ref 45, .int (a1), .int (a2), .int (a3), .null, .long (s0), .null, .null, .null, .null, .null, .null] [] S :=
  (a_unf0 none t_X7_leastWay c_X7_leastWay k_X7_leastWay 118 105 _ _ S).trans rfl
theorem b_X7_leastWay_107 (a1 : Int32) (a2 : Int32) (a3 : Int32) (a5 : Int64) (S : a_M) : g_X7_leastWay 107 [.ref 45, .int (a1), .int (a2), .int (a3), .null, .long (a5), .null, .null, .null, .null, .null, .null] [] S = ((x_X4_partOf [.ref 34, .int (a1), .int (a3)] S).bind fun q => g_X7_leastWay 116 [.ref 45, .null, .int (a2), .int (a3), .null, .long (a5), .null, .null, .null, .null, .null, .null] (q.1.toList ++ []) q.2) :=
  (a_unf0 none t_X7_leastWay c_X7_leastWay k_X7_leastWay 118 107 _ _ S).trans rfl
theorem b_X7_leastWay_116 (a2 : Int32) (a3 : Int32) (a5 : Int64) (s0 : Int32) (S : a_M) : g_X7_leastWay 116 [.ref 45, .null, .int (a2), .int (a3), .null, .long (a5), .null, .null, .null, .null, .null, .null] [.int (s0)] S = g_X7_leastWay 121 [.ref 45, .null, .int (a2), .int (a3), .null, .long (a5), .null, .int (s0), .int (1), .null, .null, .null] [] S :=
  (a_unf0 none t_X7_leastWay c_X7_leastWay k_X7_leastWay 118 116 _ _ S).trans rfl
theorem b_X7_leastWay_121 (a2 : Int32) (a3 : Int32) (a5 : Int64) (a7 : Int32) (a8 : Int32) (S : a_M) : g_X7_leastWay 121 [.ref 45, .null, .int (a2), .int (a3), .null, .long (a5), .null, .int (a7), .int (a8), .null, .null, .null] [] S = (if (4 : Int32) < a8 then some (some (.long (a5)), S) else (if (S.1 7 4) - a2 < a8 then some (some (.long (a5)), S) else ((x_X7_rowCost [.ref 45, .int (a7), .int (a2), .int (a8)] S).bind fun q => g_X7_leastWay 150 [.ref 45, .null, .int (a2), .int (a3), .null, .long (a5), .null, .int (a7), .int (a8), .null, .null, .null] (q.1.toList ++ []) q.2))) :=
  (a_unf0 none t_X7_leastWay c_X7_leastWay k_X7_leastWay 118 121 _ _ S).trans rfl
theorem b_X7_leastWay_150 (a2 : Int32) (a3 : Int32) (a5 : Int64) (a7 : Int32) (a8 : Int32) (s0 : Int32) (S : a_M) : g_X7_leastWay 150 [.ref 45, .null, .int (a2), .int (a3), .null, .long (a5), .null, .int (a7), .int (a8), .null, .null, .null] [.int (s0)] S = (if s0 < 1000000 then ((x_X7_wayAt [.ref 45, .int (a2 + a8), .int (a3 + 1)] S).bind fun q => g_X7_leastWay 173 [.ref 45, .null, .int (a2), .int (a3), .null, .long (a5), .null, .int (a7), .int (a8), .int (s0), .null, .null] (q.1.toList ++ []) q.2) else g_X7_leastWay 121 [.ref 45, .null, .int (a2), .int (a3), .null, .long (a5), .null, .int (a7), .int (a8 + 1), .null, .null, .null] [] S) :=
  (a_unf0 none t_X7_leastWay c_X7_leastWay k_X7_leastWay 118 150 _ _ S).trans rfl
theorem b_X7_leastWay_173 (a2 : Int32) (a3 : Int32) (a5 : Int64) (a7 : Int32) (a8 : Int32) (a9 : Int32) (s0 : Int64) (S : a_M) : g_X7_leastWay 173 [.ref 45, .null, .int (a2), .int (a3), .null, .long (a5), .null, .int (a7), .int (a8), .int (a9), .null, .null] [.long (s0)] S = ((x_X7_breakCost [.ref 45, .int (a2), .int (a8)] S).bind fun q => g_X7_leastWay 188 [.ref 45, .null, .int (a2), .int (a3), .null, .null, .null, .int (a7), .int (a8), .null, .null, .null] (q.1.toList ++ [.int (a9), .long (s0), .long (a5)]) q.2) :=
  (a_unf0 none t_X7_leastWay c_X7_leastWay k_X7_leastWay 118 173 _ _ S).trans rfl
theorem b_X7_leastWay_188 (a2 : Int32) (a3 : Int32) (a7 : Int32) (a8 : Int32) (s0 : Int64) (s1 : Int64) (s2 : Int32) (s3 : Int32) (S : a_M) : g_X7_leastWay 188 [.ref 45, .null, .int (a2), .int (a3), .null, .null, .null, .int (a7), .int (a8), .null, .null, .null] [.int (s3), .int (s2), .long (s1), .long (s0)] S = ((x_X7_marks [.ref 45, .int (a3), .int (a2), .int (a8)] S).bind fun q => g_X7_leastWay 197 [.ref 45, .null, .int (a2), .int (a3), .null, .null, .null, .int (a7), .int (a8), .null, .null, .null] (q.1.toList ++ [.int (s2 + s3), .long (s1), .long (s0)]) q.2) :=
  (a_unf0 none t_X7_leastWay c_X7_leastWay k_X7_leastWay 118 188 _ _ S).trans rfl
theorem b_X7_leastWay_197 (a2 : Int32) (a3 : Int32) (a7 : Int32) (a8 : Int32) (s0 : Int64) (s1 : Int64) (s2 : Int32) (s3 : Int64) (S : a_M) : g_X7_leastWay 197 [.ref 45, .null, .int (a2), .int (a3), .null, .null, .null, .int (a7), .int (a8), .null, .null, .null] [.long (s3), .int (s2), .long (s1), .long (s0)] S = ((x_X7_plus [.long (s1), .int (s2), .long (s3)] S).bind fun q => g_X7_leastWay 200 [.ref 45, .null, .int (a2), .int (a3), .null, .null, .null, .int (a7), .int (a8), .null, .null, .null] (q.1.toList ++ [.long (s0)]) q.2) :=
  (a_unf0 none t_X7_leastWay c_X7_leastWay k_X7_leastWay 118 197 _ _ S).trans rfl
theorem b_X7_leastWay_200 (a2 : Int32) (a3 : Int32) (a7 : Int32) (a8 : Int32) (s0 : Int64) (s1 : Int64) (S : a_M) : g_X7_leastWay 200 [.ref 45, .null, .int (a2), .int (a3), .null, .null, .null, .int (a7), .int (a8), .null, .null, .null] [.long (s1), .long (s0)] S = ((x_J9_min_f86c9 [.long (s0), .long (s1)] S).bind fun q => g_X7_leastWay 203 [.ref 45, .null, .int (a2), .int (a3), .null, .null, .null, .int (a7), .int (a8), .null, .null, .null] (q.1.toList ++ []) q.2) :=
  (a_unf0 none t_X7_leastWay c_X7_leastWay k_X7_leastWay 118 200 _ _ S).trans rfl
theorem b_X7_leastWay_203 (a2 : Int32) (a3 : Int32) (a7 : Int32) (a8 : Int32) (s0 : Int64) (S : a_M) : g_X7_leastWay 203 [.ref 45, .null, .int (a2), .int (a3), .null, .null, .null, .int (a7), .int (a8), .null, .null, .null] [.long (s0)] S = g_X7_leastWay 121 [.ref 45, .null, .int (a2), .int (a3), .null, .long (s0), .null, .int (a7), .int (a8 + 1), .null, .null, .null] [] S :=
  (a_unf0 none t_X7_leastWay c_X7_leastWay k_X7_leastWay 118 203 _ _ S).trans rfl
def k_X7_putWay : Nat → Bool := fun pc => false
noncomputable def g_X7_putWay : a_K := a_G none t_X7_putWay c_X7_putWay
theorem e_X7_putWay (a1 : Int32) (a2 : Int32) (a3 : Int64) (S : a_M) : x_X7_putWay [.ref 45, .int a1, .int a2, .long a3] S = (if (a1 * 6) + a2 < 0 then some (none, S) else (if (a1 * 6) + a2 < 90 then (if (a1 * 6) + a2 < 0 ∨ 90 ≤ ((a1 * 6) + a2).toNatClampNeg then none else some (none, (a_wl S 53 (((a1 * 6) + a2).toNatClampNeg) (a3)))) else some (none, S))) :=
  (show x_X7_putWay [.ref 45, .int a1, .int a2, .long a3] S = g_X7_putWay 0 [.ref 45, .int (a1), .int (a2), .long (a3), .null, .null] [] S from rfl).trans ((a_unf0 none t_X7_putWay c_X7_putWay k_X7_putWay 21 0 _ _ S).trans rfl)
def k_X7_findBest : Nat → Bool := fun pc => bif Nat.beq pc 9 then true else bif Nat.beq pc 103 then true else bif Nat.beq pc 116 then true else false
noncomputable def g_X7_findBest : a_K := a_G none t_X7_findBest c_X7_findBest
theorem e_X7_findBest (a1 : Int32) (S : a_M) : x_X7_findBest [.ref 45, .int a1] S = ((x_X2_prepare [.ref 41] S).bind fun q => g_X7_findBest 7 [.ref 45, .int (a1), .null, .null] (q.1.toList ++ []) q.2) :=
  (show x_X7_findBest [.ref 45, .int a1] S = g_X7_findBest 0 [.ref 45, .int (a1), .null, .null] [] S from rfl).trans ((a_unf0 none t_X7_findBest c_X7_findBest k_X7_findBest 88 0 _ _ S).trans rfl)
theorem b_X7_findBest_7 (a1 : Int32) (S : a_M) : g_X7_findBest 7 [.ref 45, .int (a1), .null, .null] [] S = g_X7_findBest 9 [.ref 45, .int (a1), .int (0), .null] [] S :=
  (a_unf0 none t_X7_findBest c_X7_findBest k_X7_findBest 88 7 _ _ S).trans rfl
theorem b_X7_findBest_9 (a1 : Int32) (a2 : Int32) (S : a_M) : g_X7_findBest 9 [.ref 45, .int (a1), .int (a2), .null] [] S = (if a2 < S.1 7 4 then ((x_X2_bookWordOf [.ref 41, .int (a2)] S).bind fun q => g_X7_findBest 37 [.ref 45, .int (a1), .int (a2), .null] (q.1.toList ++ [.ref 20, .int (a2), .ref 52]) q.2) else ((x_X8_fill [.ref 46, .int (1), .ref 20, .ref 41, .int (S.1 7 4)] S).bind fun q => g_X7_findBest 72 [.ref 45, .int (a1), .null, .null] (q.1.toList ++ []) q.2)) :=
  (a_unf0 none t_X7_findBest c_X7_findBest k_X7_findBest 88 9 _ _ S).trans rfl
theorem b_X7_findBest_37 (a1 : Int32) (a2 : Int32) (s1 : Int32) (s3 : Int32) (S : a_M) : g_X7_findBest 37 [.ref 45, .int (a1), .int (a2), .null] [.int (s3), .ref 20, .int (s1), .ref 52] S = ((x_X6_unitNameOf [.ref 20, .int (s3)] S).bind fun q => g_X7_findBest 40 [.ref 45, .int (a1), .int (a2), .null] (q.1.toList ++ [.int (s1), .ref 52]) q.2) :=
  (a_unf0 none t_X7_findBest c_X7_findBest k_X7_findBest 88 37 _ _ S).trans rfl
theorem b_X7_findBest_40 (a1 : Int32) (a2 : Int32) (s1 : Int32) (s2 : Int32) (S : a_M) : g_X7_findBest 40 [.ref 45, .int (a1), .int (a2), .null] [.int (s2), .int (s1), .ref 52] S = ((x_X11_put [.ref 52, .int (s1), .int (s2)] S).bind fun q => g_X7_findBest 43 [.ref 45, .int (a1), .int (a2), .null] (q.1.toList ++ []) q.2) :=
  (a_unf0 none t_X7_findBest c_X7_findBest k_X7_findBest 88 40 _ _ S).trans rfl
theorem b_X7_findBest_43 (a1 : Int32) (a2 : Int32) (S : a_M) : g_X7_findBest 43 [.ref 45, .int (a1), .int (a2), .null] [] S = g_X7_findBest 9 [.ref 45, .int (a1), .int (a2 + 1), .null] [] S :=
  (a_unf0 none t_X7_findBest c_X7_findBest k_X7_findBest 88 43 _ _ S).trans rfl
theorem b_X7_findBest_72 (a1 : Int32) (S : a_M) : g_X7_findBest 72 [.ref 45, .int (a1), .null, .null] [] S = ((x_X8_fill [.ref 49, .int (3), .ref 20, .ref 41, .int (S.1 7 4)] S).bind fun q => g_X7_findBest 95 [.ref 45, .int (a1), .null, .null] (q.1.toList ++ []) q.2) :=
  (a_unf0 none t_X7_findBest c_X7_findBest k_X7_findBest 88 72 _ _ S).trans rfl
theorem b_X7_findBest_95 (a1 : Int32) (S : a_M) : g_X7_findBest 95 [.ref 45, .int (a1), .null, .null] [] S = g_X7_findBest 103 [.ref 45, .int (a1), .int (S.1 7 4), .null] [] S :=
  (a_unf0 none t_X7_findBest c_X7_findBest k_X7_findBest 88 95 _ _ S).trans rfl
theorem b_X7_findBest_103 (a1 : Int32) (a2 : Int32) (S : a_M) : g_X7_findBest 103 [.ref 45, .int (a1), .int (a2), .null] [] S = (if a2 < 0 then ((x_X7_wayAt [.ref 45, .int (0), .int (0)] S).bind fun q => g_X7_findBest 152 [.ref 45, .null, .null, .null] (q.1.toList ++ [.ref 45]) q.2) else ((x_X4_sizeOf [.ref 34, .int (a1)] S).bind fun q => g_X7_findBest 115 [.ref 45, .int (a1), .int (a2), .null] (q.1.toList ++ []) q.2)) :=
  (a_unf0 none t_X7_findBest c_X7_findBest k_X7_findBest 88 103 _ _ S).trans rfl
theorem b_X7_findBest_115 (a1 : Int32) (a2 : Int32) (s0 : Int32) (S : a_M) : g_X7_findBest 115 [.ref 45, .int (a1), .int (a2), .null] [.int (s0)] S = g_X7_findBest 116 [.ref 45, .int (a1), .int (a2), .int (s0)] [] S :=
  (a_unf0 none t_X7_findBest c_X7_findBest k_X7_findBest 88 115 _ _ S).trans rfl
theorem b_X7_findBest_116 (a1 : Int32) (a2 : Int32) (a3 : Int32) (S : a_M) : g_X7_findBest 116 [.ref 45, .int (a1), .int (a2), .int (a3)] [] S = (if a3 < 0 then g_X7_findBest 103 [.ref 45, .int (a1), .int (a2 + (-1)), .null] [] S else ((x_X7_leastWay [.ref 45, .int (a1), .int (a2), .int (a3)] S).bind fun q => g_X7_findBest 130 [.ref 45, .int (a1), .int (a2), .int (a3)] (q.1.toList ++ [.int (a3), .int (a2), .ref 45]) q.2)) :=
  (a_unf0 none t_X7_findBest c_X7_findBest k_X7_findBest 88 116 _ _ S).trans rfl
theorem b_X7_findBest_130 (a1 : Int32) (a2 : Int32) (a3 : Int32) (s1 : Int32) (s2 : Int32) (s3 : Int64) (S : a_M) : g_X7_findBest 130 [.ref 45, .int (a1), .int (a2), .int (a3)] [.long (s3), .int (s2), .int (s1), .ref 45] S = ((x_X7_putWay [.ref 45, .int (s1), .int (s2), .long (s3)] S).bind fun q => g_X7_findBest 133 [.ref 45, .int (a1), .int (a2), .int (a3)] (q.1.toList ++ []) q.2) :=
  (a_unf0 none t_X7_findBest c_X7_findBest k_X7_findBest 88 130 _ _ S).trans rfl
theorem b_X7_findBest_133 (a1 : Int32) (a2 : Int32) (a3 : Int32) (S : a_M) : g_X7_findBest 133 [.ref 45, .int (a1), .int (a2), .int (a3)] [] S = g_X7_findBest 116 [.ref 45, .int (a1), .int (a2), .int (a3 + (-1))] [] S :=
  (a_unf0 none t_X7_findBest c_X7_findBest k_X7_findBest 88 133 _ _ S).trans rfl
theorem b_X7_findBest_152 (s1 : Int64) (S : a_M) : g_X7_findBest 152 [.ref 45, .null, .null, .null] [.long (s1), .ref 45] S = (if lg_cmp s1 4611686018427387904 = 0 then some (some (.int (0)), (a_wl S 45 9 (s1))) else some (some (.int (1)), (a_wl S 45 9 (s1)))) :=
  (a_unf0 none t_X7_findBest c_X7_findBest k_X7_findBest 88 152 _ _ S).trans rfl
def k_X7_keepBest : Nat → Bool := fun pc => false
noncomputable def g_X7_keepBest : a_K := a_G none t_X7_keepBest c_X7_keepBest
theorem e_X7_keepBest (S : a_M) : x_X7_keepBest [.ref 45] S = some (none, (a_wi (a_wl S 45 10 (S.2 45 9)) 45 11 (S.1 7 4))) :=
  (show x_X7_keepBest [.ref 45] S = g_X7_keepBest 0 [.ref 45] [] S from rfl).trans ((a_unf0 none t_X7_keepBest c_X7_keepBest k_X7_keepBest 12 0 _ _ S).trans rfl)
def k_X7_latestCost : Nat → Bool := fun pc => false
noncomputable def g_X7_latestCost : a_K := a_G none t_X7_latestCost c_X7_latestCost
theorem e_X7_latestCost (S : a_M) : x_X7_latestCost [.ref 45] S = some (some (.int (((S.2 45 10) >>> ((42 : Int32).toInt64 &&& 63)).toInt32)), S) :=
  (show x_X7_latestCost [.ref 45] S = g_X7_latestCost 0 [.ref 45] [] S from rfl).trans ((a_unf0 none t_X7_latestCost c_X7_latestCost k_X7_latestCost 8 0 _ _ S).trans rfl)
def k_X7_markOf : Nat → Bool := fun pc => false
noncomputable def g_X7_markOf : a_K := a_G none t_X7_markOf c_X7_markOf
theorem e_X7_markOf (a0 : Int64) (a2 : Int32) (a3 : Int32) (S : a_M) : x_X7_markOf [.long a0, .int a2, .int a3] S = some (some (.int (((a0 >>> ((3 * ((a3 - 1) - a2)).toInt64 &&& 63)).toInt32) &&& 7)), S) :=
  (show x_X7_markOf [.long a0, .int a2, .int a3] S = g_X7_markOf 0 [.long (a0), .null, .int (a2), .int (a3)] [] S from rfl).trans ((a_unf0 none t_X7_markOf c_X7_markOf k_X7_markOf 15 0 _ _ S).trans rfl)
def k_X7_latestMark : Nat → Bool := fun pc => false
noncomputable def g_X7_latestMark : a_K := a_G none t_X7_latestMark c_X7_latestMark
theorem e_X7_latestMark (a1 : Int32) (S : a_M) : x_X7_latestMark [.ref 45, .int a1] S = (if a1 < 0 then some (some (.int (-1)), S) else (if a1 < S.1 45 11 then ((x_X7_markOf [.long (S.2 45 10), .int (a1), .int (S.1 45 11)] S).bind fun q => g_X7_latestMark 24 [.null, .null] (q.1.toList ++ []) q.2) else some (some (.int (-1)), S))) :=
  (show x_X7_latestMark [.ref 45, .int a1] S = g_X7_latestMark 0 [.ref 45, .int (a1)] [] S from rfl).trans ((a_unf0 none t_X7_latestMark c_X7_latestMark k_X7_latestMark 17 0 _ _ S).trans rfl)
theorem b_X7_latestMark_24 (s0 : Int32) (S : a_M) : g_X7_latestMark 24 [.null, .null] [.int (s0)] S = some (some (.int (s0)), S) :=
  (a_unf0 none t_X7_latestMark c_X7_latestMark k_X7_latestMark 17 24 _ _ S).trans rfl
def k_X10_numberOf : Nat → Bool := fun pc => bif Nat.beq pc 4 then true else false
noncomputable def g_X10_numberOf : a_K := a_G none t_X10_numberOf c_X10_numberOf
theorem e_X10_numberOf (a1 : Int32) (S : a_M) : x_X10_numberOf [.ref 7, .int a1] S = g_X10_numberOf 4 [.ref 7, .int (a1), .int (0), .int (0)] [] S :=
  (show x_X10_numberOf [.ref 7, .int a1] S = g_X10_numberOf 0 [.ref 7, .int (a1), .null, .null] [] S from rfl).trans ((a_unf0 none t_X10_numberOf c_X10_numberOf k_X10_numberOf 30 0 _ _ S).trans rfl)
theorem b_X10_numberOf_4 (a1 : Int32) (a2 : Int32) (a3 : Int32) (S : a_M) : g_X10_numberOf 4 [.ref 7, .int (a1), .int (a2), .int (a3)] [] S = (if a3 < 5 then ((x_X11_at [.ref 10, .int (a1)] S).bind fun q => g_X10_numberOf 18 [.ref 7, .int (a1), .int (a2), .int (a3)] (q.1.toList ++ [.int (a3)]) q.2) else some (some (.int (a2)), S)) :=
  (a_unf0 none t_X10_numberOf c_X10_numberOf k_X10_numberOf 30 4 _ _ S).trans rfl
theorem b_X10_numberOf_18 (a1 : Int32) (a2 : Int32) (a3 : Int32) (s0 : Int32) (s1 : Int32) (S : a_M) : g_X10_numberOf 18 [.ref 7, .int (a1), .int (a2), .int (a3)] [.int (s1), .int (s0)] S = (if s0 < s1 then ((x_X10_signAt [.ref 7, .int (a1), .int (a3)] S).bind fun q => g_X10_numberOf 31 [.ref 7, .int (a1), .null, .int (a3)] (q.1.toList ++ [.int (10 * a2)]) q.2) else some (some (.int (a2)), S)) :=
  (a_unf0 none t_X10_numberOf c_X10_numberOf k_X10_numberOf 30 18 _ _ S).trans rfl
theorem b_X10_numberOf_31 (a1 : Int32) (a3 : Int32) (s0 : Int32) (s1 : Int32) (S : a_M) : g_X10_numberOf 31 [.ref 7, .int (a1), .null, .int (a3)] [.int (s1), .int (s0)] S = g_X10_numberOf 4 [.ref 7, .int (a1), .int ((s0 + s1) - 48), .int (a3 + 1)] [] S :=
  (a_unf0 none t_X10_numberOf c_X10_numberOf k_X10_numberOf 30 31 _ _ S).trans rfl
def k_X10_letterOf : Nat → Bool := fun pc => false
noncomputable def g_X10_letterOf : a_K := a_G none t_X10_letterOf c_X10_letterOf
theorem e_X10_letterOf (a1 : Int32) (S : a_M) : x_X10_letterOf [.ref 7, .int a1] S = ((x_X11_at [.ref 10, .int (a1)] S).bind fun q => g_X10_letterOf 11 [.null, .null] (q.1.toList ++ [.int (a1), .ref 7, .int (0)]) q.2) :=
  (show x_X10_letterOf [.ref 7, .int a1] S = g_X10_letterOf 0 [.ref 7, .int (a1)] [] S from rfl).trans ((a_unf0 none t_X10_letterOf c_X10_letterOf k_X10_letterOf 12 0 _ _ S).trans rfl)
theorem b_X10_letterOf_11 (s0 : Int32) (s2 : Int32) (s3 : Int32) (S : a_M) : g_X10_letterOf 11 [.null, .null] [.int (s3), .int (s2), .ref 7, .int (s0)] S = ((x_X10_signAt [.ref 7, .int (s2), .int (s3)] S).bind fun q => g_X10_letterOf 14 [.null, .null] (q.1.toList ++ [.int (s0)]) q.2) :=
  (a_unf0 none t_X10_letterOf c_X10_letterOf k_X10_letterOf 12 11 _ _ S).trans rfl
theorem b_X10_letterOf_14 (s0 : Int32) (s1 : Int32) (S : a_M) : g_X10_letterOf 14 [.null, .null] [.int (s1), .int (s0)] S = ((x_J9_max_7cf53 [.int (s0), .int (s1)] S).bind fun q => g_X10_letterOf 17 [.null, .null] (q.1.toList ++ []) q.2) :=
  (a_unf0 none t_X10_letterOf c_X10_letterOf k_X10_letterOf 12 14 _ _ S).trans rfl
theorem b_X10_letterOf_17 (s0 : Int32) (S : a_M) : g_X10_letterOf 17 [.null, .null] [.int (s0)] S = some (some (.int (s0)), S) :=
  (a_unf0 none t_X10_letterOf c_X10_letterOf k_X10_letterOf 12 17 _ _ S).trans rfl
def k_X8_numberOf : Nat → Bool := fun pc => false
noncomputable def g_X8_numberOf : a_K := a_G none t_X8_numberOf c_X8_numberOf
theorem e_X8_numberOf_46 (a1 : Int32) (a2 : Int32) (S : a_M) : x_X8_numberOf [.ref 46, .int a1, .int a2] S = (if a2 < 1 then some (some (.int (-1)), S) else (if (4 : Int32) < a2 then some (some (.int (-1)), S) else ((x_X8_cell [.int (a1), .int (a2)] S).bind fun q => g_X8_numberOf 19 [.null, .null, .null] (q.1.toList ++ [.ref 48]) q.2))) :=
  (show x_X8_numberOf [.ref 46, .int a1, .int a2] S = g_X8_numberOf 0 [.ref 46, .int (a1), .int (a2)] [] S from rfl).trans ((a_unf0 none t_X8_numberOf c_X8_numberOf k_X8_numberOf 17 0 _ _ S).trans rfl)
theorem b_X8_numberOf_46_19 (s1 : Int32) (S : a_M) : g_X8_numberOf 19 [.null, .null, .null] [.int (s1), .ref 48] S = ((x_X11_at [.ref 48, .int (s1)] S).bind fun q => g_X8_numberOf 22 [.null, .null, .null] (q.1.toList ++ []) q.2) :=
  (a_unf0 none t_X8_numberOf c_X8_numberOf k_X8_numberOf 17 19 _ _ S).trans rfl
theorem b_X8_numberOf_46_22 (s0 : Int32) (S : a_M) : g_X8_numberOf 22 [.null, .null, .null] [.int (s0)] S = some (some (.int (s0)), S) :=
  (a_unf0 none t_X8_numberOf c_X8_numberOf k_X8_numberOf 17 22 _ _ S).trans rfl
theorem e_X8_numberOf_49 (a1 : Int32) (a2 : Int32) (S : a_M) : x_X8_numberOf [.ref 49, .int a1, .int a2] S = (if a2 < 1 then some (some (.int (-1)), S) else (if (4 : Int32) < a2 then some (some (.int (-1)), S) else ((x_X8_cell [.int (a1), .int (a2)] S).bind fun q => g_X8_numberOf 19 [.null, .null, .null] (q.1.toList ++ [.ref 51]) q.2))) :=
  (show x_X8_numberOf [.ref 49, .int a1, .int a2] S = g_X8_numberOf 0 [.ref 49, .int (a1), .int (a2)] [] S from rfl).trans ((a_unf0 none t_X8_numberOf c_X8_numberOf k_X8_numberOf 17 0 _ _ S).trans rfl)
theorem b_X8_numberOf_49_19 (s1 : Int32) (S : a_M) : g_X8_numberOf 19 [.null, .null, .null] [.int (s1), .ref 51] S = ((x_X11_at [.ref 51, .int (s1)] S).bind fun q => g_X8_numberOf 22 [.null, .null, .null] (q.1.toList ++ []) q.2) :=
  (a_unf0 none t_X8_numberOf c_X8_numberOf k_X8_numberOf 17 19 _ _ S).trans rfl
theorem b_X8_numberOf_49_22 (s0 : Int32) (S : a_M) : g_X8_numberOf 22 [.null, .null, .null] [.int (s0)] S = some (some (.int (s0)), S) :=
  (a_unf0 none t_X8_numberOf c_X8_numberOf k_X8_numberOf 17 22 _ _ S).trans rfl
def k_X7_describeUnit : Nat → Bool := fun pc => bif Nat.beq pc 40 then true else false
noncomputable def g_X7_describeUnit : a_K := a_G none t_X7_describeUnit c_X7_describeUnit
theorem e_X7_describeUnit (a1 : Int32) (S : a_M) : x_X7_describeUnit [.ref 45, .int a1] S = ((x_X10_lengthOf [.ref 7, .int (a1 + 1)] S).bind fun q => g_X7_describeUnit 10 [.ref 45, .int (a1), .null, .null] (q.1.toList ++ []) q.2) :=
  (show x_X7_describeUnit [.ref 45, .int a1] S = g_X7_describeUnit 0 [.ref 45, .int (a1), .null, .null] [] S from rfl).trans ((a_unf0 none t_X7_describeUnit c_X7_describeUnit k_X7_describeUnit 43 0 _ _ S).trans rfl)
theorem b_X7_describeUnit_10 (a1 : Int32) (s0 : Int32) (S : a_M) : g_X7_describeUnit 10 [.ref 45, .int (a1), .null, .null] [.int (s0)] S = ((x_X11_at [.ref 52, .int (a1)] S).bind fun q => g_X7_describeUnit 25 [.ref 45, .int (a1), .int (s0), .null] (q.1.toList ++ [.int (8), .ref 38]) q.2) :=
  (a_unf0 none t_X7_describeUnit c_X7_describeUnit k_X7_describeUnit 43 10 _ _ S).trans rfl
theorem b_X7_describeUnit_25 (a1 : Int32) (a2 : Int32) (s1 : Int32) (s2 : Int32) (S : a_M) : g_X7_describeUnit 25 [.ref 45, .int (a1), .int (a2), .null] [.int (s2), .int (s1), .ref 38] S = ((x_X1_draft [.ref 38, .int (s1), .int (s2)] S).bind fun q => g_X7_describeUnit 28 [.ref 45, .int (a1), .int (a2), .null] (q.1.toList ++ []) q.2) :=
  (a_unf0 none t_X7_describeUnit c_X7_describeUnit k_X7_describeUnit 43 25 _ _ S).trans rfl
theorem b_X7_describeUnit_28 (a1 : Int32) (a2 : Int32) (S : a_M) : g_X7_describeUnit 28 [.ref 45, .int (a1), .int (a2), .null] [] S = ((x_X1_draft [.ref 38, .int (9), .int (a2)] S).bind fun q => g_X7_describeUnit 38 [.ref 45, .int (a1), .int (a2), .null] (q.1.toList ++ []) q.2) :=
  (a_unf0 none t_X7_describeUnit c_X7_describeUnit k_X7_describeUnit 43 28 _ _ S).trans rfl
theorem b_X7_describeUnit_38 (a1 : Int32) (a2 : Int32) (S : a_M) : g_X7_describeUnit 38 [.ref 45, .int (a1), .int (a2), .null] [] S = g_X7_describeUnit 40 [.ref 45, .int (a1), .int (a2), .int (0)] [] S :=
  (a_unf0 none t_X7_describeUnit c_X7_describeUnit k_X7_describeUnit 43 38 _ _ S).trans rfl
theorem b_X7_describeUnit_40 (a1 : Int32) (a2 : Int32) (a3 : Int32) (S : a_M) : g_X7_describeUnit 40 [.ref 45, .int (a1), .int (a2), .int (a3)] [] S = (if a3 < a2 then ((x_X10_signAt [.ref 7, .int (a1 + 1), .int (a3)] S).bind fun q => g_X7_describeUnit 64 [.ref 45, .int (a1), .int (a2), .int (a3)] (q.1.toList ++ [.int (13 + a3), .ref 38]) q.2) else some (none, S)) :=
  (a_unf0 none t_X7_describeUnit c_X7_describeUnit k_X7_describeUnit 43 40 _ _ S).trans rfl
theorem b_X7_describeUnit_64 (a1 : Int32) (a2 : Int32) (a3 : Int32) (s1 : Int32) (s2 : Int32) (S : a_M) : g_X7_describeUnit 64 [.ref 45, .int (a1), .int (a2), .int (a3)] [.int (s2), .int (s1), .ref 38] S = ((x_X1_draft [.ref 38, .int (s1), .int (s2)] S).bind fun q => g_X7_describeUnit 67 [.ref 45, .int (a1), .int (a2), .int (a3)] (q.1.toList ++ []) q.2) :=
  (a_unf0 none t_X7_describeUnit c_X7_describeUnit k_X7_describeUnit 43 64 _ _ S).trans rfl
theorem b_X7_describeUnit_67 (a1 : Int32) (a2 : Int32) (a3 : Int32) (S : a_M) : g_X7_describeUnit 67 [.ref 45, .int (a1), .int (a2), .int (a3)] [] S = g_X7_describeUnit 40 [.ref 45, .int (a1), .int (a2), .int (a3 + 1)] [] S :=
  (a_unf0 none t_X7_describeUnit c_X7_describeUnit k_X7_describeUnit 43 67 _ _ S).trans rfl
def k_X7_describePart : Nat → Bool := fun pc => false
noncomputable def g_X7_describePart : a_K := a_G none t_X7_describePart c_X7_describePart
theorem e_X7_describePart (a1 : Int32) (a2 : Int32) (a3 : Int32) (S : a_M) : x_X7_describePart [.ref 45, .int a1, .int a2, .int a3] S = ((x_X1_draft [.ref 38, .int (a1), .int (1)] S).bind fun q => g_X7_describePart 9 [.ref 45, .int (a1), .int (a2), .int (a3)] (q.1.toList ++ []) q.2) :=
  (show x_X7_describePart [.ref 45, .int a1, .int a2, .int a3] S = g_X7_describePart 0 [.ref 45, .int (a1), .int (a2), .int (a3)] [] S from rfl).trans ((a_unf0 none t_X7_describePart c_X7_describePart k_X7_describePart 59 0 _ _ S).trans rfl)
theorem b_X7_describePart_9 (a1 : Int32) (a2 : Int32) (a3 : Int32) (S : a_M) : g_X7_describePart 9 [.ref 45, .int (a1), .int (a2), .int (a3)] [] S = (if a1 = 0 then ((x_X10_numberOf [.ref 7, .int (a2)] S).bind fun q => g_X7_describePart 53 [.ref 45, .null, .int (a2), .null] (q.1.toList ++ [.int (5), .ref 38]) q.2) else (if a1 = 1 then ((x_X8_numberOf [.ref 46, .int (a2), .int (a3)] S).bind fun q => g_X7_describePart 91 [.null, .null, .null, .null] (q.1.toList ++ [.int (7), .ref 38]) q.2) else (if a1 = 2 then ((x_X7_describeUnit [.ref 45, .int (a2)] S).bind fun q => g_X7_describePart 102 [.null, .null, .null, .null] (q.1.toList ++ []) q.2) else (if a1 = 3 then ((x_X8_numberOf [.ref 49, .int (a2), .int (a3)] S).bind fun q => g_X7_describePart 120 [.null, .null, .null, .null] (q.1.toList ++ [.int (10), .ref 38]) q.2) else ((x_X10_numberOf [.ref 7, .int (a2)] S).bind fun q => g_X7_describePart 140 [.null, .null, .null, .null] (q.1.toList ++ [.int (11), .ref 38]) q.2))))) :=
  (a_unf0 none t_X7_describePart c_X7_describePart k_X7_describePart 59 9 _ _ S).trans rfl
theorem b_X7_describePart_53 (a2 : Int32) (s1 : Int32) (s2 : Int32) (S : a_M) : g_X7_describePart 53 [.ref 45, .null, .int (a2), .null] [.int (s2), .int (s1), .ref 38] S = ((x_X1_draft [.ref 38, .int (s1), .int (s2)] S).bind fun q => g_X7_describePart 56 [.ref 45, .null, .int (a2), .null] (q.1.toList ++ []) q.2) :=
  (a_unf0 none t_X7_describePart c_X7_describePart k_X7_describePart 59 53 _ _ S).trans rfl
theorem b_X7_describePart_56 (a2 : Int32) (S : a_M) : g_X7_describePart 56 [.ref 45, .null, .int (a2), .null] [] S = ((x_X10_letterOf [.ref 7, .int (a2)] S).bind fun q => g_X7_describePart 70 [.null, .null, .null, .null] (q.1.toList ++ [.int (6), .ref 38]) q.2) :=
  (a_unf0 none t_X7_describePart c_X7_describePart k_X7_describePart 59 56 _ _ S).trans rfl
theorem b_X7_describePart_70 (s1 : Int32) (s2 : Int32) (S : a_M) : g_X7_describePart 70 [.null, .null, .null, .null] [.int (s2), .int (s1), .ref 38] S = ((x_X1_draft [.ref 38, .int (s1), .int (s2)] S).bind fun q => g_X7_describePart 73 [.null, .null, .null, .null] (q.1.toList ++ []) q.2) :=
  (a_unf0 none t_X7_describePart c_X7_describePart k_X7_describePart 59 70 _ _ S).trans rfl
theorem b_X7_describePart_73 (S : a_M) : g_X7_describePart 73 [.null, .null, .null, .null] [] S = some (none, S) :=
  (a_unf0 none t_X7_describePart c_X7_describePart k_X7_describePart 59 73 _ _ S).trans rfl
theorem b_X7_describePart_91 (s1 : Int32) (s2 : Int32) (S : a_M) : g_X7_describePart 91 [.null, .null, .null, .null] [.int (s2), .int (s1), .ref 38] S = ((x_X1_draft [.ref 38, .int (s1), .int (s2)] S).bind fun q => g_X7_describePart 94 [.null, .null, .null, .null] (q.1.toList ++ []) q.2) :=
  (a_unf0 none t_X7_describePart c_X7_describePart k_X7_describePart 59 91 _ _ S).trans rfl
theorem b_X7_describePart_94 (S : a_M) : g_X7_describePart 94 [.null, .null, .null, .null] [] S = some (none, S) :=
  (a_unf0 none t_X7_describePart c_X7_describePart k_X7_describePart 59 94 _ _ S).trans rfl
theorem b_X7_describePart_102 (S : a_M) : g_X7_describePart 102 [.null, .null, .null, .null] [] S = some (none, S) :=
  (a_unf0 none t_X7_describePart c_X7_describePart k_X7_describePart 59 102 _ _ S).trans rfl
theorem b_X7_describePart_120 (s1 : Int32) (s2 : Int32) (S : a_M) : g_X7_describePart 120 [.null, .null, .null, .null] [.int (s2), .int (s1), .ref 38] S = ((x_X1_draft [.ref 38, .int (s1), .int (s2)] S).bind fun q => g_X7_describePart 123 [.null, .null, .null, .null] (q.1.toList ++ []) q.2) :=
  (a_unf0 none t_X7_describePart c_X7_describePart k_X7_describePart 59 120 _ _ S).trans rfl
theorem b_X7_describePart_123 (S : a_M) : g_X7_describePart 123 [.null, .null, .null, .null] [] S = some (none, S) :=
  (a_unf0 none t_X7_describePart c_X7_describePart k_X7_describePart 59 123 _ _ S).trans rfl
theorem b_X7_describePart_140 (s1 : Int32) (s2 : Int32) (S : a_M) : g_X7_describePart 140 [.null, .null, .null, .null] [.int (s2), .int (s1), .ref 38] S = ((x_X1_draft [.ref 38, .int (s1), .int (s2)] S).bind fun q => g_X7_describePart 143 [.null, .null, .null, .null] (q.1.toList ++ []) q.2) :=
  (a_unf0 none t_X7_describePart c_X7_describePart k_X7_describePart 59 140 _ _ S).trans rfl
theorem b_X7_describePart_143 (S : a_M) : g_X7_describePart 143 [.null, .null, .null, .null] [] S = some (none, S) :=
  (a_unf0 none t_X7_describePart c_X7_describePart k_X7_describePart 59 143 _ _ S).trans rfl
def k_X7_describe : Nat → Bool := fun pc => bif Nat.beq pc 9 then true else bif Nat.beq pc 37 then true else false
noncomputable def g_X7_describe : a_K := a_G none t_X7_describe c_X7_describe
theorem e_X7_describe (a1 : Int32) (S : a_M) : x_X7_describe [.ref 45, .int a1] S = ((x_X1_clearDraft [.ref 38] S).bind fun q => g_X7_describe 7 [.ref 45, .int (a1), .null, .null, .null, .null] (q.1.toList ++ []) q.2) :=
  (show x_X7_describe [.ref 45, .int a1] S = g_X7_describe 0 [.ref 45, .int (a1), .null, .null, .null, .null] [] S from rfl).trans ((a_unf0 none t_X7_describe c_X7_describe k_X7_describe 54 0 _ _ S).trans rfl)
theorem b_X7_describe_7 (a1 : Int32) (S : a_M) : g_X7_describe 7 [.ref 45, .int (a1), .null, .null, .null, .null] [] S = g_X7_describe 9 [.ref 45, .int (a1), .int (0), .null, .null, .null] [] S :=
  (a_unf0 none t_X7_describe c_X7_describe k_X7_describe 54 7 _ _ S).trans rfl
theorem b_X7_describe_9 (a1 : Int32) (a2 : Int32) (S : a_M) : g_X7_describe 9 [.ref 45, .int (a1), .int (a2), .null, .null, .null] [] S = ((x_X4_sizeOf [.ref 34, .int (a1)] S).bind fun q => g_X7_describe 18 [.ref 45, .int (a1), .int (a2), .null, .null, .null] (q.1.toList ++ [.int (a2)]) q.2) :=
  (a_unf0 none t_X7_describe c_X7_describe k_X7_describe 54 9 _ _ S).trans rfl
theorem b_X7_describe_18 (a1 : Int32) (a2 : Int32) (s0 : Int32) (s1 : Int32) (S : a_M) : g_X7_describe 18 [.ref 45, .int (a1), .int (a2), .null, .null, .null] [.int (s1), .int (s0)] S = (if s0 < s1 then g_X7_describe 37 [.ref 45, .int (a1), .int (a2), .int (-1), .int (0), .int ((S.1 7 4) - 1)] [] S else some (none, S)) :=
  (a_unf0 none t_X7_describe c_X7_describe k_X7_describe 54 18 _ _ S).trans rfl
theorem b_X7_describe_37 (a1 : Int32) (a2 : Int32) (a3 : Int32) (a4 : Int32) (a5 : Int32) (S : a_M) : g_X7_describe 37 [.ref 45, .int (a1), .int (a2), .int (a3), .int (a4), .int (a5)] [] S = (if a5 < 0 then (if (0 : Int32) < a4 then ((x_X4_partOf [.ref 34, .int (a1), .int (a2)] S).bind fun q => g_X7_describe 92 [.ref 45, .int (a1), .int (a2), .int (a3), .int (a4), .null] (q.1.toList ++ [.ref 45]) q.2) else g_X7_describe 9 [.ref 45, .int (a1), .int (a2 + 1), .null, .null, .null] [] S) else ((x_X7_markOf [.long (S.2 45 9), .int (a5), .int (S.1 7 4)] S).bind fun q => g_X7_describe 58 [.ref 45, .int (a1), .int (a2), .int (a3), .int (a4), .int (a5)] (q.1.toList ++ []) q.2)) :=
  (a_unf0 none t_X7_describe c_X7_describe k_X7_describe 54 37 _ _ S).trans rfl
theorem b_X7_describe_58 (a1 : Int32) (a2 : Int32) (a3 : Int32) (a4 : Int32) (a5 : Int32) (s0 : Int32) (S : a_M) : g_X7_describe 58 [.ref 45, .int (a1), .int (a2), .int (a3), .int (a4), .int (a5)] [.int (s0)] S = (if s0 = a2 then g_X7_describe 37 [.ref 45, .int (a1), .int (a2), .int (a5), .int (a4 + 1), .int (a5 + (-1))] [] S else g_X7_describe 37 [.ref 45, .int (a1), .int (a2), .int (a3), .int (a4), .int (a5 + (-1))] [] S) :=
  (a_unf0 none t_X7_describe c_X7_describe k_X7_describe 54 58 _ _ S).trans rfl
theorem b_X7_describe_92 (a1 : Int32) (a2 : Int32) (a3 : Int32) (a4 : Int32) (s1 : Int32) (S : a_M) : g_X7_describe 92 [.ref 45, .int (a1), .int (a2), .int (a3), .int (a4), .null] [.int (s1), .ref 45] S = ((x_X7_describePart [.ref 45, .int (s1), .int (a3), .int (a4)] S).bind fun q => g_X7_describe 98 [.ref 45, .int (a1), .int (a2), .null, .null, .null] (q.1.toList ++ []) q.2) :=
  (a_unf0 none t_X7_describe c_X7_describe k_X7_describe 54 92 _ _ S).trans rfl
theorem b_X7_describe_98 (a1 : Int32) (a2 : Int32) (S : a_M) : g_X7_describe 98 [.ref 45, .int (a1), .int (a2), .null, .null, .null] [] S = g_X7_describe 9 [.ref 45, .int (a1), .int (a2 + 1), .null, .null, .null] [] S :=
  (a_unf0 none t_X7_describe c_X7_describe k_X7_describe 54 98 _ _ S).trans rfl
def k_X9_get : Nat → Bool := fun pc => false
noncomputable def g_X9_get : a_K := a_G none t_X9_get c_X9_get
theorem e_X9_get (a1 : Int32) (S : a_M) : x_X9_get [.ref 54, .int a1] S = (if a1 < S.1 54 4 then ((x_X11_at [.ref 55, .int (a1)] S).bind fun q => g_X9_get 16 [.null, .null] (q.1.toList ++ []) q.2) else some (some (.int (-1)), S)) :=
  (show x_X9_get [.ref 54, .int a1] S = g_X9_get 0 [.ref 54, .int (a1)] [] S from rfl).trans ((a_unf0 none t_X9_get c_X9_get k_X9_get 13 0 _ _ S).trans rfl)
theorem b_X9_get_16 (s0 : Int32) (S : a_M) : g_X9_get 16 [.null, .null] [.int (s0)] S = some (some (.int (s0)), S) :=
  (a_unf0 none t_X9_get c_X9_get k_X9_get 13 16 _ _ S).trans rfl
def k_X9_writeUnit : Nat → Bool := fun pc => false
noncomputable def g_X9_writeUnit : a_K := a_G none t_X9_writeUnit c_X9_writeUnit
theorem e_X9_writeUnit (a1 : Int32) (S : a_M) : x_X9_writeUnit [.ref 54, .int a1] S = ((x_X11_put [.ref 55, .int (S.1 54 4), .int (a1)] S).bind fun q => g_X9_writeUnit 12 [.ref 54, .null] (q.1.toList ++ []) q.2) :=
  (show x_X9_writeUnit [.ref 54, .int a1] S = g_X9_writeUnit 0 [.ref 54, .int (a1)] [] S from rfl).trans ((a_unf0 none t_X9_writeUnit c_X9_writeUnit k_X9_writeUnit 15 0 _ _ S).trans rfl)
theorem b_X9_writeUnit_12 (S : a_M) : g_X9_writeUnit 12 [.ref 54, .null] [] S = some (none, (a_wi S 54 4 ((S.1 54 4) + 1))) :=
  (a_unf0 none t_X9_writeUnit c_X9_writeUnit k_X9_writeUnit 15 12 _ _ S).trans rfl
def k_X9_writeFigures : Nat → Bool := fun pc => bif Nat.beq pc 2 then true else bif Nat.beq pc 12 then true else bif Nat.beq pc 41 then true else false
noncomputable def g_X9_writeFigures : a_K := a_G none t_X9_writeFigures c_X9_writeFigures
theorem e_X9_writeFigures (a1 : Int32) (a2 : Int32) (S : a_M) : x_X9_writeFigures [.ref 54, .int a1, .int a2] S = g_X9_writeFigures 2 [.ref 54, .int (a1), .int (a2), .int (4), .null, .null] [] S :=
  (show x_X9_writeFigures [.ref 54, .int a1, .int a2] S = g_X9_writeFigures 0 [.ref 54, .int (a1), .int (a2), .null, .null, .null] [] S from rfl).trans ((a_unf0 none t_X9_writeFigures c_X9_writeFigures k_X9_writeFigures 34 0 _ _ S).trans rfl)
theorem b_X9_writeFigures_2 (a1 : Int32) (a2 : Int32) (a3 : Int32) (S : a_M) : g_X9_writeFigures 2 [.ref 54, .int (a1), .int (a2), .int (a3), .null, .null] [] S = (if a3 < 0 then some (none, S) else g_X9_writeFigures 12 [.ref 54, .int (a1), .int (a2), .int (a3), .int (a1), .int (0)] [] S) :=
  (a_unf0 none t_X9_writeFigures c_X9_writeFigures k_X9_writeFigures 34 2 _ _ S).trans rfl
theorem b_X9_writeFigures_12 (a1 : Int32) (a2 : Int32) (a3 : Int32) (a4 : Int32) (a5 : Int32) (S : a_M) : g_X9_writeFigures 12 [.ref 54, .int (a1), .int (a2), .int (a3), .int (a4), .int (a5)] [] S = (if a5 < a3 then g_X9_writeFigures 12 [.ref 54, .int (a1), .int (a2), .int (a3), .int (a4 / 10), .int (a5 + 1)] [] S else (if (0 : Int32) < a4 then g_X9_writeFigures 41 [.ref 54, .int (a1), .int (a2), .int (a3), .int (a4), .null] [] S else (if a3 < a2 then g_X9_writeFigures 41 [.ref 54, .int (a1), .int (a2), .int (a3), .int (a4), .null] [] S else g_X9_writeFigures 2 [.ref 54, .int (a1), .int (a2), .int (a3 + (-1)), .null, .null] [] S))) :=
  (a_unf0 none t_X9_writeFigures c_X9_writeFigures k_X9_writeFigures 34 12 _ _ S).trans rfl
theorem b_X9_writeFigures_41 (a1 : Int32) (a2 : Int32) (a3 : Int32) (a4 : Int32) (S : a_M) : g_X9_writeFigures 41 [.ref 54, .int (a1), .int (a2), .int (a3), .int (a4), .null] [] S = ((x_X9_writeUnit [.ref 54, .int (48 + (a4 - a4 / 10 * 10))] S).bind fun q => g_X9_writeFigures 53 [.ref 54, .int (a1), .int (a2), .int (a3), .null, .null] (q.1.toList ++ []) q.2) :=
  (a_unf0 none t_X9_writeFigures c_X9_writeFigures k_X9_writeFigures 34 41 _ _ S).trans rfl
theorem b_X9_writeFigures_53 (a1 : Int32) (a2 : Int32) (a3 : Int32) (S : a_M) : g_X9_writeFigures 53 [.ref 54, .int (a1), .int (a2), .int (a3), .null, .null] [] S = g_X9_writeFigures 2 [.ref 54, .int (a1), .int (a2), .int (a3 + (-1)), .null, .null] [] S :=
  (a_unf0 none t_X9_writeFigures c_X9_writeFigures k_X9_writeFigures 34 53 _ _ S).trans rfl
def k_X9_writeLetter : Nat → Bool := fun pc => false
noncomputable def g_X9_writeLetter : a_K := a_G none t_X9_writeLetter c_X9_writeLetter
theorem e_X9_writeLetter (a1 : Int32) (S : a_M) : x_X9_writeLetter [.ref 54, .int a1] S = (if (0 : Int32) < a1 then ((x_X9_writeUnit [.ref 54, .int (a1)] S).bind fun q => g_X9_writeLetter 9 [.null, .null] (q.1.toList ++ []) q.2) else some (none, S)) :=
  (show x_X9_writeLetter [.ref 54, .int a1] S = g_X9_writeLetter 0 [.ref 54, .int (a1)] [] S from rfl).trans ((a_unf0 none t_X9_writeLetter c_X9_writeLetter k_X9_writeLetter 8 0 _ _ S).trans rfl)
theorem b_X9_writeLetter_9 (S : a_M) : g_X9_writeLetter 9 [.null, .null] [] S = some (none, S) :=
  (a_unf0 none t_X9_writeLetter c_X9_writeLetter k_X9_writeLetter 8 9 _ _ S).trans rfl
def k_X9_writeSign : Nat → Bool := fun pc => false
noncomputable def g_X9_writeSign : a_K := a_G none t_X9_writeSign c_X9_writeSign
theorem e_X9_writeSign (a1 : Int32) (S : a_M) : x_X9_writeSign [.ref 54, .int a1] S = (if a1 < 65536 then ((x_X9_writeUnit [.ref 54, .int (a1)] S).bind fun q => g_X9_writeSign 11 [.null, .null] (q.1.toList ++ []) q.2) else ((x_X9_writeUnit [.ref 54, .int (55296 + ((a1 - 65536) / 1024))] S).bind fun q => g_X9_writeSign 29 [.ref 54, .int (a1)] (q.1.toList ++ []) q.2)) :=
  (show x_X9_writeSign [.ref 54, .int a1] S = g_X9_writeSign 0 [.ref 54, .int (a1)] [] S from rfl).trans ((a_unf0 none t_X9_writeSign c_X9_writeSign k_X9_writeSign 28 0 _ _ S).trans rfl)
theorem b_X9_writeSign_11 (S : a_M) : g_X9_writeSign 11 [.null, .null] [] S = some (none, S) :=
  (a_unf0 none t_X9_writeSign c_X9_writeSign k_X9_writeSign 28 11 _ _ S).trans rfl
theorem b_X9_writeSign_29 (a1 : Int32) (S : a_M) : g_X9_writeSign 29 [.ref 54, .int (a1)] [] S = ((x_X9_writeUnit [.ref 54, .int (56320 + ((a1 - 65536) - (a1 - 65536) / 1024 * 1024))] S).bind fun q => g_X9_writeSign 44 [.null, .null] (q.1.toList ++ []) q.2) :=
  (a_unf0 none t_X9_writeSign c_X9_writeSign k_X9_writeSign 28 29 _ _ S).trans rfl
theorem b_X9_writeSign_44 (S : a_M) : g_X9_writeSign 44 [.null, .null] [] S = some (none, S) :=
  (a_unf0 none t_X9_writeSign c_X9_writeSign k_X9_writeSign 28 44 _ _ S).trans rfl
def k_X9_writeName : Nat → Bool := fun pc => bif Nat.beq pc 2 then true else bif Nat.beq pc 24 then true else bif Nat.beq pc 38 then true else bif Nat.beq pc 91 then true else bif Nat.beq pc 93 then true else false
noncomputable def g_X9_writeName : a_K := a_G none t_X9_writeName c_X9_writeName
theorem e_X9_writeName (a1 : Int32) (a2 : Int32) (S : a_M) : x_X9_writeName [.ref 54, .int a1, .int a2] S = g_X9_writeName 2 [.ref 54, .int (a1), .int (a2), .int (0), .null, .null, .null] [] S :=
  (show x_X9_writeName [.ref 54, .int a1, .int a2] S = g_X9_writeName 0 [.ref 54, .int (a1), .int (a2), .null, .null, .null, .null] [] S from rfl).trans ((a_unf0 none t_X9_writeName c_X9_writeName k_X9_writeName 54 0 _ _ S).trans rfl)
theorem b_X9_writeName_2 (a1 : Int32) (a2 : Int32) (a3 : Int32) (S : a_M) : g_X9_writeName 2 [.ref 54, .int (a1), .int (a2), .int (a3), .null, .null, .null] [] S = ((x_X0_sizeOf [.ref 12, .int (a1)] S).bind fun q => g_X9_writeName 11 [.ref 54, .int (a1), .int (a2), .int (a3), .null, .null, .null] (q.1.toList ++ [.int (a3)]) q.2) :=
  (a_unf0 none t_X9_writeName c_X9_writeName k_X9_writeName 54 2 _ _ S).trans rfl
theorem b_X9_writeName_11 (a1 : Int32) (a2 : Int32) (a3 : Int32) (s0 : Int32) (s1 : Int32) (S : a_M) : g_X9_writeName 11 [.ref 54, .int (a1), .int (a2), .int (a3), .null, .null, .null] [.int (s1), .int (s0)] S = (if s0 < s1 then (if (0 : Int32) < a3 then ((x_X9_writeUnit [.ref 54, .int (32)] S).bind fun q => g_X9_writeName 24 [.ref 54, .int (a1), .int (a2), .int (a3), .null, .null, .null] (q.1.toList ++ []) q.2) else g_X9_writeName 24 [.ref 54, .int (a1), .int (a2), .int (a3), .null, .null, .null] [] S) else some (none, S)) :=
  (a_unf0 none t_X9_writeName c_X9_writeName k_X9_writeName 54 11 _ _ S).trans rfl
theorem b_X9_writeName_24 (a1 : Int32) (a2 : Int32) (a3 : Int32) (S : a_M) : g_X9_writeName 24 [.ref 54, .int (a1), .int (a2), .int (a3), .null, .null, .null] [] S = ((x_X0_wordOf [.ref 12, .int (a1), .int (a3)] S).bind fun q => g_X9_writeName 33 [.ref 54, .int (a1), .int (a2), .int (a3), .null, .null, .null] (q.1.toList ++ []) q.2) :=
  (a_unf0 none t_X9_writeName c_X9_writeName k_X9_writeName 54 24 _ _ S).trans rfl
theorem b_X9_writeName_33 (a1 : Int32) (a2 : Int32) (a3 : Int32) (s0 : Int32) (S : a_M) : g_X9_writeName 33 [.ref 54, .int (a1), .int (a2), .int (a3), .null, .null, .null] [.int (s0)] S = g_X9_writeName 38 [.ref 54, .int (a1), .int (a2), .int (a3), .int (s0), .int (0), .null] [] S :=
  (a_unf0 none t_X9_writeName c_X9_writeName k_X9_writeName 54 33 _ _ S).trans rfl
theorem b_X9_writeName_38 (a1 : Int32) (a2 : Int32) (a3 : Int32) (a4 : Int32) (a5 : Int32) (S : a_M) : g_X9_writeName 38 [.ref 54, .int (a1), .int (a2), .int (a3), .int (a4), .int (a5), .null] [] S = ((x_X0_lengthOf [.ref 12, .int (a4)] S).bind fun q => g_X9_writeName 49 [.ref 54, .int (a1), .int (a2), .int (a3), .int (a4), .int (a5), .null] (q.1.toList ++ [.int (a5)]) q.2) :=
  (a_unf0 none t_X9_writeName c_X9_writeName k_X9_writeName 54 38 _ _ S).trans rfl
theorem b_X9_writeName_49 (a1 : Int32) (a2 : Int32) (a3 : Int32) (a4 : Int32) (a5 : Int32) (s0 : Int32) (s1 : Int32) (S : a_M) : g_X9_writeName 49 [.ref 54, .int (a1), .int (a2), .int (a3), .int (a4), .int (a5), .null] [.int (s1), .int (s0)] S = (if s0 < s1 then ((x_X0_signAt [.ref 12, .int (a4), .int (a5)] S).bind fun q => g_X9_writeName 63 [.ref 54, .int (a1), .int (a2), .int (a3), .int (a4), .int (a5), .null] (q.1.toList ++ []) q.2) else g_X9_writeName 2 [.ref 54, .int (a1), .int (a2), .int (a3 + 1), .null, .null, .null] [] S) :=
  (a_unf0 none t_X9_writeName c_X9_writeName k_X9_writeName 54 49 _ _ S).trans rfl
theorem b_X9_writeName_63 (a1 : Int32) (a2 : Int32) (a3 : Int32) (a4 : Int32) (a5 : Int32) (s0 : Int32) (S : a_M) : g_X9_writeName 63 [.ref 54, .int (a1), .int (a2), .int (a3), .int (a4), .int (a5), .null] [.int (s0)] S = (if a2 = 0 then g_X9_writeName 91 [.ref 54, .int (a1), .int (a2), .int (a3), .int (a4), .int (a5), .int (s0)] [.ref 54] S else (if a5 = 0 then ((x_X11_isSmallLetter [.int (s0)] S).bind fun q => g_X9_writeName 80 [.ref 54, .int (a1), .int (a2), .int (a3), .int (a4), .int (a5), .int (s0)] (q.1.toList ++ [.ref 54]) q.2) else g_X9_writeName 91 [.ref 54, .int (a1), .int (a2), .int (a3), .int (a4), .int (a5), .int (s0)] [.ref 54] S)) :=
  (a_unf0 none t_X9_writeName c_X9_writeName k_X9_writeName 54 63 _ _ S).trans rfl
theorem b_X9_writeName_80 (a1 : Int32) (a2 : Int32) (a3 : Int32) (a4 : Int32) (a5 : Int32) (a6 : Int32) (s1 : Int32) (S : a_M) : g_X9_writeName 80 [.ref 54, .int (a1), .int (a2), .int (a3), .int (a4), .int (a5), .int (a6)] [.int (s1), .ref 54] S = (if s1 = 0 then g_X9_writeName 91 [.ref 54, .int (a1), .int (a2), .int (a3), .int (a4), .int (a5), .int (a6)] [.ref 54] S else g_X9_writeName 93 [.ref 54, .int (a1), .int (a2), .int (a3), .int (a4), .int (a5), .null] [.int (a6 - 32), .ref 54] S) :=
  (a_unf0 none t_X9_writeName c_X9_writeName k_X9_writeName 54 80 _ _ S).trans rfl
theorem b_X9_writeName_91 (a1 : Int32) (a2 : Int32) (a3 : Int32) (a4 : Int32) (a5 : Int32) (a6 : Int32) (S : a_M) : g_X9_writeName 91 [.ref 54, .int (a1), .int (a2), .int (a3), .int (a4), .int (a5), .int (a6)] [.ref 54] S = g_X9_writeName 93 [.ref 54, .int (a1), .int (a2), .int (a3), .int (a4), .int (a5), .null] [.int (a6), .ref 54] S :=
  (a_unf0 none t_X9_writeName c_X9_writeName k_X9_writeName 54 91 _ _ S).trans rfl
theorem b_X9_writeName_93 (a1 : Int32) (a2 : Int32) (a3 : Int32) (a4 : Int32) (a5 : Int32) (s1 : Int32) (S : a_M) : g_X9_writeName 93 [.ref 54, .int (a1), .int (a2), .int (a3), .int (a4), .int (a5), .null] [.int (s1), .ref 54] S = ((x_X9_writeSign [.ref 54, .int (s1)] S).bind fun q => g_X9_writeName 96 [.ref 54, .int (a1), .int (a2), .int (a3), .int (a4), .int (a5), .null] (q.1.toList ++ []) q.2) :=
  (a_unf0 none t_X9_writeName c_X9_writeName k_X9_writeName 54 93 _ _ S).trans rfl
theorem b_X9_writeName_96 (a1 : Int32) (a2 : Int32) (a3 : Int32) (a4 : Int32) (a5 : Int32) (S : a_M) : g_X9_writeName 96 [.ref 54, .int (a1), .int (a2), .int (a3), .int (a4), .int (a5), .null] [] S = g_X9_writeName 38 [.ref 54, .int (a1), .int (a2), .int (a3), .int (a4), .int (a5 + 1), .null] [] S :=
  (a_unf0 none t_X9_writeName c_X9_writeName k_X9_writeName 54 96 _ _ S).trans rfl
def k_X9_writeUnitSigns : Nat → Bool := fun pc => bif Nat.beq pc 13 then true else false
noncomputable def g_X9_writeUnitSigns : a_K := a_G none t_X9_writeUnitSigns c_X9_writeUnitSigns
theorem e_X9_writeUnitSigns (a1 : Int32) (S : a_M) : x_X9_writeUnitSigns [.ref 54, .int a1] S = ((x_X1_get [.ref 38, .int (a1), .int (9)] S).bind fun q => g_X9_writeUnitSigns 10 [.ref 54, .int (a1), .null, .null] (q.1.toList ++ []) q.2) :=
  (show x_X9_writeUnitSigns [.ref 54, .int a1] S = g_X9_writeUnitSigns 0 [.ref 54, .int (a1), .null, .null] [] S from rfl).trans ((a_unf0 none t_X9_writeUnitSigns c_X9_writeUnitSigns k_X9_writeUnitSigns 23 0 _ _ S).trans rfl)
theorem b_X9_writeUnitSigns_10 (a1 : Int32) (s0 : Int32) (S : a_M) : g_X9_writeUnitSigns 10 [.ref 54, .int (a1), .null, .null] [.int (s0)] S = g_X9_writeUnitSigns 13 [.ref 54, .int (a1), .int (s0), .int (0)] [] S :=
  (a_unf0 none t_X9_writeUnitSigns c_X9_writeUnitSigns k_X9_writeUnitSigns 23 10 _ _ S).trans rfl
theorem b_X9_writeUnitSigns_13 (a1 : Int32) (a2 : Int32) (a3 : Int32) (S : a_M) : g_X9_writeUnitSigns 13 [.ref 54, .int (a1), .int (a2), .int (a3)] [] S = (if a3 < a2 then ((x_X1_unitSignAt [.ref 38, .int (a1), .int (a3)] S).bind fun q => g_X9_writeUnitSigns 28 [.ref 54, .int (a1), .int (a2), .int (a3)] (q.1.toList ++ [.ref 54]) q.2) else some (none, S)) :=
  (a_unf0 none t_X9_writeUnitSigns c_X9_writeUnitSigns k_X9_writeUnitSigns 23 13 _ _ S).trans rfl
theorem b_X9_writeUnitSigns_28 (a1 : Int32) (a2 : Int32) (a3 : Int32) (s1 : Int32) (S : a_M) : g_X9_writeUnitSigns 28 [.ref 54, .int (a1), .int (a2), .int (a3)] [.int (s1), .ref 54] S = ((x_X9_writeSign [.ref 54, .int (s1)] S).bind fun q => g_X9_writeUnitSigns 31 [.ref 54, .int (a1), .int (a2), .int (a3)] (q.1.toList ++ []) q.2) :=
  (a_unf0 none t_X9_writeUnitSigns c_X9_writeUnitSigns k_X9_writeUnitSigns 23 28 _ _ S).trans rfl
theorem b_X9_writeUnitSigns_31 (a1 : Int32) (a2 : Int32) (a3 : Int32) (S : a_M) : g_X9_writeUnitSigns 31 [.ref 54, .int (a1), .int (a2), .int (a3)] [] S = g_X9_writeUnitSigns 13 [.ref 54, .int (a1), .int (a2), .int (a3 + 1)] [] S :=
  (a_unf0 none t_X9_writeUnitSigns c_X9_writeUnitSigns k_X9_writeUnitSigns 23 31 _ _ S).trans rfl
def k_X9_writePart : Nat → Bool := fun pc => false
noncomputable def g_X9_writePart : a_K := a_G none t_X9_writePart c_X9_writePart
theorem e_X9_writePart (a1 : Int32) (a2 : Int32) (S : a_M) : x_X9_writePart [.ref 54, .int a1, .int a2] S = (if a2 = 0 then ((x_X1_get [.ref 38, .int (a1), .int (5)] S).bind fun q => g_X9_writePart 42 [.ref 54, .int (a1), .null] (q.1.toList ++ [.ref 54]) q.2) else (if a2 = 1 then ((x_X1_get [.ref 38, .int (a1), .int (7)] S).bind fun q => g_X9_writePart 79 [.null, .null, .null] (q.1.toList ++ [.int (1), .ref 20, .ref 54]) q.2) else (if a2 = 2 then ((x_X1_get [.ref 38, .int (a1), .int (8)] S).bind fun q => g_X9_writePart 101 [.ref 54, .int (a1), .null] (q.1.toList ++ [.ref 54]) q.2) else (if a2 = 3 then ((x_X1_get [.ref 38, .int (a1), .int (10)] S).bind fun q => g_X9_writePart 135 [.null, .null, .null] (q.1.toList ++ [.int (3), .ref 20, .ref 54]) q.2) else ((x_X1_get [.ref 38, .int (a1), .int (11)] S).bind fun q => g_X9_writePart 157 [.null, .null, .null] (q.1.toList ++ [.ref 54]) q.2))))) :=
  (show x_X9_writePart [.ref 54, .int a1, .int a2] S = g_X9_writePart 0 [.ref 54, .int (a1), .int (a2)] [] S from rfl).trans ((a_unf0 none t_X9_writePart c_X9_writePart k_X9_writePart 72 0 _ _ S).trans rfl)
theorem b_X9_writePart_42 (a1 : Int32) (s1 : Int32) (S : a_M) : g_X9_writePart 42 [.ref 54, .int (a1), .null] [.int (s1), .ref 54] S = ((x_X9_writeFigures [.ref 54, .int (s1), .int (1)] S).bind fun q => g_X9_writePart 46 [.ref 54, .int (a1), .null] (q.1.toList ++ []) q.2) :=
  (a_unf0 none t_X9_writePart c_X9_writePart k_X9_writePart 72 42 _ _ S).trans rfl
theorem b_X9_writePart_46 (a1 : Int32) (S : a_M) : g_X9_writePart 46 [.ref 54, .int (a1), .null] [] S = ((x_X1_get [.ref 38, .int (a1), .int (6)] S).bind fun q => g_X9_writePart 57 [.null, .null, .null] (q.1.toList ++ [.ref 54]) q.2) :=
  (a_unf0 none t_X9_writePart c_X9_writePart k_X9_writePart 72 46 _ _ S).trans rfl
theorem b_X9_writePart_57 (s1 : Int32) (S : a_M) : g_X9_writePart 57 [.null, .null, .null] [.int (s1), .ref 54] S = ((x_X9_writeLetter [.ref 54, .int (s1)] S).bind fun q => g_X9_writePart 60 [.null, .null, .null] (q.1.toList ++ []) q.2) :=
  (a_unf0 none t_X9_writePart c_X9_writePart k_X9_writePart 72 57 _ _ S).trans rfl
theorem b_X9_writePart_60 (S : a_M) : g_X9_writePart 60 [.null, .null, .null] [] S = some (none, S) :=
  (a_unf0 none t_X9_writePart c_X9_writePart k_X9_writePart 72 60 _ _ S).trans rfl
theorem b_X9_writePart_79 (s2 : Int32) (s3 : Int32) (S : a_M) : g_X9_writePart 79 [.null, .null, .null] [.int (s3), .int (s2), .ref 20, .ref 54] S = ((x_X6_nameOf [.ref 20, .int (s2), .int (s3), .int (0)] S).bind fun q => g_X9_writePart 83 [.null, .null, .null] (q.1.toList ++ [.ref 54]) q.2) :=
  (a_unf0 none t_X9_writePart c_X9_writePart k_X9_writePart 72 79 _ _ S).trans rfl
theorem b_X9_writePart_83 (s1 : Int32) (S : a_M) : g_X9_writePart 83 [.null, .null, .null] [.int (s1), .ref 54] S = ((x_X9_writeName [.ref 54, .int (s1), .int (1)] S).bind fun q => g_X9_writePart 87 [.null, .null, .null] (q.1.toList ++ []) q.2) :=
  (a_unf0 none t_X9_writePart c_X9_writePart k_X9_writePart 72 83 _ _ S).trans rfl
theorem b_X9_writePart_87 (S : a_M) : g_X9_writePart 87 [.null, .null, .null] [] S = some (none, S) :=
  (a_unf0 none t_X9_writePart c_X9_writePart k_X9_writePart 72 87 _ _ S).trans rfl
theorem b_X9_writePart_101 (a1 : Int32) (s1 : Int32) (S : a_M) : g_X9_writePart 101 [.ref 54, .int (a1), .null] [.int (s1), .ref 54] S = ((x_X9_writeName [.ref 54, .int (s1), .int (0)] S).bind fun q => g_X9_writePart 105 [.ref 54, .int (a1), .null] (q.1.toList ++ []) q.2) :=
  (a_unf0 none t_X9_writePart c_X9_writePart k_X9_writePart 72 101 _ _ S).trans rfl
theorem b_X9_writePart_105 (a1 : Int32) (S : a_M) : g_X9_writePart 105 [.ref 54, .int (a1), .null] [] S = ((x_X9_writeUnit [.ref 54, .int (32)] S).bind fun q => g_X9_writePart 111 [.ref 54, .int (a1), .null] (q.1.toList ++ []) q.2) :=
  (a_unf0 none t_X9_writePart c_X9_writePart k_X9_writePart 72 105 _ _ S).trans rfl
theorem b_X9_writePart_111 (a1 : Int32) (S : a_M) : g_X9_writePart 111 [.ref 54, .int (a1), .null] [] S = ((x_X9_writeUnitSigns [.ref 54, .int (a1)] S).bind fun q => g_X9_writePart 116 [.null, .null, .null] (q.1.toList ++ []) q.2) :=
  (a_unf0 none t_X9_writePart c_X9_writePart k_X9_writePart 72 111 _ _ S).trans rfl
theorem b_X9_writePart_116 (S : a_M) : g_X9_writePart 116 [.null, .null, .null] [] S = some (none, S) :=
  (a_unf0 none t_X9_writePart c_X9_writePart k_X9_writePart 72 116 _ _ S).trans rfl
theorem b_X9_writePart_135 (s2 : Int32) (s3 : Int32) (S : a_M) : g_X9_writePart 135 [.null, .null, .null] [.int (s3), .int (s2), .ref 20, .ref 54] S = ((x_X6_nameOf [.ref 20, .int (s2), .int (s3), .int (0)] S).bind fun q => g_X9_writePart 139 [.null, .null, .null] (q.1.toList ++ [.ref 54]) q.2) :=
  (a_unf0 none t_X9_writePart c_X9_writePart k_X9_writePart 72 135 _ _ S).trans rfl
theorem b_X9_writePart_139 (s1 : Int32) (S : a_M) : g_X9_writePart 139 [.null, .null, .null] [.int (s1), .ref 54] S = ((x_X9_writeName [.ref 54, .int (s1), .int (1)] S).bind fun q => g_X9_writePart 143 [.null, .null, .null] (q.1.toList ++ []) q.2) :=
  (a_unf0 none t_X9_writePart c_X9_writePart k_X9_writePart 72 139 _ _ S).trans rfl
theorem b_X9_writePart_143 (S : a_M) : g_X9_writePart 143 [.null, .null, .null] [] S = some (none, S) :=
  (a_unf0 none t_X9_writePart c_X9_writePart k_X9_writePart 72 143 _ _ S).trans rfl
theorem b_X9_writePart_157 (s1 : Int32) (S : a_M) : g_X9_writePart 157 [.null, .null, .null] [.int (s1), .ref 54] S = ((x_X9_writeFigures [.ref 54, .int (s1), .int (5)] S).bind fun q => g_X9_writePart 161 [.null, .null, .null] (q.1.toList ++ []) q.2) :=
  (a_unf0 none t_X9_writePart c_X9_writePart k_X9_writePart 72 157 _ _ S).trans rfl
theorem b_X9_writePart_161 (S : a_M) : g_X9_writePart 161 [.null, .null, .null] [] S = some (none, S) :=
  (a_unf0 none t_X9_writePart c_X9_writePart k_X9_writePart 72 161 _ _ S).trans rfl
def k_X9_write : Nat → Bool := fun pc => bif Nat.beq pc 7 then true else bif Nat.beq pc 41 then true else false
noncomputable def g_X9_write : a_K := a_G none t_X9_write c_X9_write
theorem e_X9_write (a1 : Int32) (S : a_M) : x_X9_write [.ref 54, .int a1] S = g_X9_write 7 [.ref 54, .int (a1), .int (0)] [] (a_wi S 54 4 (0)) :=
  (show x_X9_write [.ref 54, .int a1] S = g_X9_write 0 [.ref 54, .int (a1), .null] [] S from rfl).trans ((a_unf0 none t_X9_write c_X9_write k_X9_write 31 0 _ _ S).trans rfl)
theorem b_X9_write_7 (a1 : Int32) (a2 : Int32) (S : a_M) : g_X9_write 7 [.ref 54, .int (a1), .int (a2)] [] S = (if a2 < 5 then ((x_X1_get [.ref 38, .int (a1), .int (a2)] S).bind fun q => g_X9_write 21 [.ref 54, .int (a1), .int (a2)] (q.1.toList ++ []) q.2) else some (none, S)) :=
  (a_unf0 none t_X9_write c_X9_write k_X9_write 31 7 _ _ S).trans rfl
theorem b_X9_write_21 (a1 : Int32) (a2 : Int32) (s0 : Int32) (S : a_M) : g_X9_write 21 [.ref 54, .int (a1), .int (a2)] [.int (s0)] S = (if s0 = 1 then (if (0 : Int32) < S.1 54 4 then ((x_X9_writeUnit [.ref 54, .int (32)] S).bind fun q => g_X9_write 41 [.ref 54, .int (a1), .int (a2)] (q.1.toList ++ []) q.2) else g_X9_write 41 [.ref 54, .int (a1), .int (a2)] [] S) else g_X9_write 7 [.ref 54, .int (a1), .int (a2 + 1)] [] S) :=
  (a_unf0 none t_X9_write c_X9_write k_X9_write 31 21 _ _ S).trans rfl
theorem b_X9_write_41 (a1 : Int32) (a2 : Int32) (S : a_M) : g_X9_write 41 [.ref 54, .int (a1), .int (a2)] [] S = ((x_X9_writePart [.ref 54, .int (a1), .int (a2)] S).bind fun q => g_X9_write 47 [.ref 54, .int (a1), .int (a2)] (q.1.toList ++ []) q.2) :=
  (a_unf0 none t_X9_write c_X9_write k_X9_write 31 41 _ _ S).trans rfl
theorem b_X9_write_47 (a1 : Int32) (a2 : Int32) (S : a_M) : g_X9_write 47 [.ref 54, .int (a1), .int (a2)] [] S = g_X9_write 7 [.ref 54, .int (a1), .int (a2 + 1)] [] S :=
  (a_unf0 none t_X9_write c_X9_write k_X9_write 31 47 _ _ S).trans rfl
def k_X11_isFirstHalf : Nat → Bool := fun pc => false
noncomputable def g_X11_isFirstHalf : a_K := a_G none t_X11_isFirstHalf c_X11_isFirstHalf
theorem e_X11_isFirstHalf (a0 : Int32) (S : a_M) : x_X11_isFirstHalf [.int a0] S = (if a0 < 55296 then some (some (.int (0)), S) else (if a0 < 56320 then some (some (.int (1)), S) else some (some (.int (0)), S))) :=
  (show x_X11_isFirstHalf [.int a0] S = g_X11_isFirstHalf 0 [.int (a0)] [] S from rfl).trans ((a_unf0 none t_X11_isFirstHalf c_X11_isFirstHalf k_X11_isFirstHalf 12 0 _ _ S).trans rfl)
def k_X11_isSecondHalf : Nat → Bool := fun pc => false
noncomputable def g_X11_isSecondHalf : a_K := a_G none t_X11_isSecondHalf c_X11_isSecondHalf
theorem e_X11_isSecondHalf (a0 : Int32) (S : a_M) : x_X11_isSecondHalf [.int a0] S = (if a0 < 56320 then some (some (.int (0)), S) else (if (57343 : Int32) < a0 then some (some (.int (0)), S) else some (some (.int (1)), S))) :=
  (show x_X11_isSecondHalf [.int a0] S = g_X11_isSecondHalf 0 [.int (a0)] [] S from rfl).trans ((a_unf0 none t_X11_isSecondHalf c_X11_isSecondHalf k_X11_isSecondHalf 12 0 _ _ S).trans rfl)
def k_X11_isGreatLetter : Nat → Bool := fun pc => false
noncomputable def g_X11_isGreatLetter : a_K := a_G none t_X11_isGreatLetter c_X11_isGreatLetter
theorem e_X11_isGreatLetter (a0 : Int32) (S : a_M) : x_X11_isGreatLetter [.int a0] S = (if a0 < 65 then some (some (.int (0)), S) else (if (90 : Int32) < a0 then some (some (.int (0)), S) else some (some (.int (1)), S))) :=
  (show x_X11_isGreatLetter [.int a0] S = g_X11_isGreatLetter 0 [.int (a0)] [] S from rfl).trans ((a_unf0 none t_X11_isGreatLetter c_X11_isGreatLetter k_X11_isGreatLetter 12 0 _ _ S).trans rfl)
def k_X11_isFigure : Nat → Bool := fun pc => false
noncomputable def g_X11_isFigure : a_K := a_G none t_X11_isFigure c_X11_isFigure
theorem e_X11_isFigure (a0 : Int32) (S : a_M) : x_X11_isFigure [.int a0] S = (if a0 < 48 then some (some (.int (0)), S) else (if (57 : Int32) < a0 then some (some (.int (0)), S) else some (some (.int (1)), S))) :=
  (show x_X11_isFigure [.int a0] S = g_X11_isFigure 0 [.int (a0)] [] S from rfl).trans ((a_unf0 none t_X11_isFigure c_X11_isFigure k_X11_isFigure 12 0 _ _ S).trans rfl)
def k_X11_isWordSign : Nat → Bool := fun pc => false
noncomputable def g_X11_isWordSign : a_K := a_G none t_X11_isWordSign c_X11_isWordSign
theorem e_X11_isWordSign (a0 : Int32) (S : a_M) : x_X11_isWordSign [.int a0] S = ((x_X11_isSmallLetter [.int (a0)] S).bind fun q => g_X11_isWordSign 4 [.int (a0)] (q.1.toList ++ []) q.2) :=
  (show x_X11_isWordSign [.int a0] S = g_X11_isWordSign 0 [.int (a0)] [] S from rfl).trans ((a_unf0 none t_X11_isWordSign c_X11_isWordSign k_X11_isWordSign 15 0 _ _ S).trans rfl)
theorem b_X11_isWordSign_4 (a0 : Int32) (s0 : Int32) (S : a_M) : g_X11_isWordSign 4 [.int (a0)] [.int (s0)] S = (if s0 = 0 then ((x_X11_isFigure [.int (a0)] S).bind fun q => g_X11_isWordSign 11 [.int (a0)] (q.1.toList ++ []) q.2) else some (some (.int (1)), S)) :=
  (a_unf0 none t_X11_isWordSign c_X11_isWordSign k_X11_isWordSign 15 4 _ _ S).trans rfl
theorem b_X11_isWordSign_11 (a0 : Int32) (s0 : Int32) (S : a_M) : g_X11_isWordSign 11 [.int (a0)] [.int (s0)] S = (if s0 = 0 then (if a0 < 128 then some (some (.int (0)), S) else some (some (.int (1)), S)) else some (some (.int (1)), S)) :=
  (a_unf0 none t_X11_isWordSign c_X11_isWordSign k_X11_isWordSign 15 11 _ _ S).trans rfl
def k_X10_begin : Nat → Bool := fun pc => bif Nat.beq pc 46 then true else bif Nat.beq pc 47 then true else false
noncomputable def g_X10_begin : a_K := a_G none t_X10_begin c_X10_begin
theorem e_X10_begin (S : a_M) : x_X10_begin [.ref 7] S = (if S.1 7 4 < 14 then (if S.1 7 8 = 0 then g_X10_begin 46 [.ref 7] [.int (S.1 7 4), .ref 11] (a_wi S 7 7 (1)) else (if (0 : Int32) < S.1 7 4 then g_X10_begin 47 [.ref 7] [.int (1), .int (S.1 7 4), .ref 11] (a_wi S 7 7 (1)) else g_X10_begin 46 [.ref 7] [.int (S.1 7 4), .ref 11] (a_wi S 7 7 (1)))) else some (none, (a_wi (a_wi S 7 7 (1)) 7 6 (1)))) :=
  (show x_X10_begin [.ref 7] S = g_X10_begin 0 [.ref 7] [] S from rfl).trans ((a_unf0 none t_X10_begin c_X10_begin k_X10_begin 49 0 _ _ S).trans rfl)
theorem b_X10_begin_46 (s1 : Int32) (S : a_M) : g_X10_begin 46 [.ref 7] [.int (s1), .ref 11] S = g_X10_begin 47 [.ref 7] [.int (0), .int (s1), .ref 11] S :=
  (a_unf0 none t_X10_begin c_X10_begin k_X10_begin 49 46 _ _ S).trans rfl
theorem b_X10_begin_47 (s1 : Int32) (s2 : Int32) (S : a_M) : g_X10_begin 47 [.ref 7] [.int (s2), .int (s1), .ref 11] S = ((x_X11_put [.ref 11, .int (s1), .int (s2)] S).bind fun q => g_X10_begin 50 [.ref 7] (q.1.toList ++ []) q.2) :=
  (a_unf0 none t_X10_begin c_X10_begin k_X10_begin 49 47 _ _ S).trans rfl
theorem b_X10_begin_50 (S : a_M) : g_X10_begin 50 [.ref 7] [] S = ((x_X11_put [.ref 9, .int (S.1 7 4), .int (0)] S).bind fun q => g_X10_begin 62 [.ref 7] (q.1.toList ++ []) q.2) :=
  (a_unf0 none t_X10_begin c_X10_begin k_X10_begin 49 50 _ _ S).trans rfl
theorem b_X10_begin_62 (S : a_M) : g_X10_begin 62 [.ref 7] [] S = ((x_X11_put [.ref 10, .int (S.1 7 4), .int (0)] S).bind fun q => g_X10_begin 74 [.ref 7] (q.1.toList ++ []) q.2) :=
  (a_unf0 none t_X10_begin c_X10_begin k_X10_begin 49 62 _ _ S).trans rfl
theorem b_X10_begin_74 (S : a_M) : g_X10_begin 74 [.ref 7] [] S = some (none, (a_wi (a_wi S 7 4 ((S.1 7 4) + 1)) 7 8 (0))) :=
  (a_unf0 none t_X10_begin c_X10_begin k_X10_begin 49 74 _ _ S).trans rfl
def k_X10_append : Nat → Bool := fun pc => bif Nat.beq pc 27 then true else false
noncomputable def g_X10_append : a_K := a_G none t_X10_append c_X10_append
theorem e_X10_append (a1 : Int32) (S : a_M) : x_X10_append [.ref 7, .int a1] S = ((x_X11_at [.ref 9, .int ((S.1 7 4) - 1)] S).bind fun q => g_X10_append 15 [.ref 7, .int (a1), .int ((S.1 7 4) - 1), .null] (q.1.toList ++ []) q.2) :=
  (show x_X10_append [.ref 7, .int a1] S = g_X10_append 0 [.ref 7, .int (a1), .null, .null] [] S from rfl).trans ((a_unf0 none t_X10_append c_X10_append k_X10_append 55 0 _ _ S).trans rfl)
theorem b_X10_append_15 (a1 : Int32) (a2 : Int32) (s0 : Int32) (S : a_M) : g_X10_append 15 [.ref 7, .int (a1), .int (a2), .null] [.int (s0)] S = (if s0 < 16 then g_X10_append 27 [.ref 7, .int (a1), .int (a2), .int (s0)] [] S else g_X10_append 27 [.ref 7, .int (a1), .int (a2), .int (s0)] [] (a_wi S 7 6 (1))) :=
  (a_unf0 none t_X10_append c_X10_append k_X10_append 55 15 _ _ S).trans rfl
theorem b_X10_append_27 (a1 : Int32) (a2 : Int32) (a3 : Int32) (S : a_M) : g_X10_append 27 [.ref 7, .int (a1), .int (a2), .int (a3)] [] S = (if S.1 7 6 = 0 then ((x_X11_put [.ref 8, .int ((a2 * 16) + a3), .int (a1)] S).bind fun q => g_X10_append 49 [.ref 7, .int (a1), .int (a2), .int (a3)] (q.1.toList ++ []) q.2) else some (none, S)) :=
  (a_unf0 none t_X10_append c_X10_append k_X10_append 55 27 _ _ S).trans rfl
theorem b_X10_append_49 (a1 : Int32) (a2 : Int32) (a3 : Int32) (S : a_M) : g_X10_append 49 [.ref 7, .int (a1), .int (a2), .int (a3)] [] S = ((x_X11_put [.ref 9, .int (a2), .int (a3 + 1)] S).bind fun q => g_X10_append 60 [.ref 7, .int (a1), .int (a2), .int (a3)] (q.1.toList ++ []) q.2) :=
  (a_unf0 none t_X10_append c_X10_append k_X10_append 55 49 _ _ S).trans rfl
theorem b_X10_append_60 (a1 : Int32) (a2 : Int32) (a3 : Int32) (S : a_M) : g_X10_append 60 [.ref 7, .int (a1), .int (a2), .int (a3)] [] S = ((x_X11_isFigure [.int (a1)] S).bind fun q => g_X10_append 64 [.ref 7, .null, .int (a2), .int (a3)] (q.1.toList ++ []) q.2) :=
  (a_unf0 none t_X10_append c_X10_append k_X10_append 55 60 _ _ S).trans rfl
theorem b_X10_append_64 (a2 : Int32) (a3 : Int32) (s0 : Int32) (S : a_M) : g_X10_append 64 [.ref 7, .null, .int (a2), .int (a3)] [.int (s0)] S = (if s0 = 0 then some (none, S) else ((x_X11_at [.ref 10, .int (a2)] S).bind fun q => g_X10_append 75 [.ref 7, .null, .int (a2), .int (a3)] (q.1.toList ++ []) q.2)) :=
  (a_unf0 none t_X10_append c_X10_append k_X10_append 55 64 _ _ S).trans rfl
theorem b_X10_append_75 (a2 : Int32) (a3 : Int32) (s0 : Int32) (S : a_M) : g_X10_append 75 [.ref 7, .null, .int (a2), .int (a3)] [.int (s0)] S = (if s0 = a3 then ((x_X11_put [.ref 10, .int (a2), .int (a3 + 1)] S).bind fun q => g_X10_append 90 [.null, .null, .null, .null] (q.1.toList ++ []) q.2) else some (none, S)) :=
  (a_unf0 none t_X10_append c_X10_append k_X10_append 55 75 _ _ S).trans rfl
theorem b_X10_append_90 (S : a_M) : g_X10_append 90 [.null, .null, .null, .null] [] S = some (none, S) :=
  (a_unf0 none t_X10_append c_X10_append k_X10_append 55 90 _ _ S).trans rfl
def k_X10_take : Nat → Bool := fun pc => bif Nat.beq pc 18 then true else false
noncomputable def g_X10_take : a_K := a_G none t_X10_take c_X10_take
theorem e_X10_take (a1 : Int32) (S : a_M) : x_X10_take [.ref 7, .int a1] S = ((x_X11_isWordSign [.int (a1)] S).bind fun q => g_X10_take 4 [.ref 7, .int (a1)] (q.1.toList ++ []) q.2) :=
  (show x_X10_take [.ref 7, .int a1] S = g_X10_take 0 [.ref 7, .int (a1)] [] S from rfl).trans ((a_unf0 none t_X10_take c_X10_take k_X10_take 24 0 _ _ S).trans rfl)
theorem b_X10_take_4 (a1 : Int32) (s0 : Int32) (S : a_M) : g_X10_take 4 [.ref 7, .int (a1)] [.int (s0)] S = (if s0 = 0 then (if a1 = 44 then some (none, (a_wi (a_wi S 7 7 (0)) 7 8 (1))) else some (none, (a_wi S 7 7 (0)))) else (if S.1 7 7 = 0 then ((x_X10_begin [.ref 7] S).bind fun q => g_X10_take 18 [.ref 7, .int (a1)] (q.1.toList ++ []) q.2) else g_X10_take 18 [.ref 7, .int (a1)] [] S)) :=
  (a_unf0 none t_X10_take c_X10_take k_X10_take 24 4 _ _ S).trans rfl
theorem b_X10_take_18 (a1 : Int32) (S : a_M) : g_X10_take 18 [.ref 7, .int (a1)] [] S = ((x_X10_append [.ref 7, .int (a1)] S).bind fun q => g_X10_take 23 [.null, .null] (q.1.toList ++ []) q.2) :=
  (a_unf0 none t_X10_take c_X10_take k_X10_take 24 18 _ _ S).trans rfl
theorem b_X10_take_23 (S : a_M) : g_X10_take 23 [.null, .null] [] S = some (none, S) :=
  (a_unf0 none t_X10_take c_X10_take k_X10_take 24 23 _ _ S).trans rfl
def k_X10_takeFolded : Nat → Bool := fun pc => bif Nat.beq pc 26 then true else false
noncomputable def g_X10_takeFolded : a_K := a_G none t_X10_takeFolded c_X10_takeFolded
theorem e_X10_takeFolded (a1 : Int32) (S : a_M) : x_X10_takeFolded [.ref 7, .int a1, .ref 3] S = ((x_X3_indexOf [.ref 3, .int (a1)] S).bind fun q => g_X10_takeFolded 5 [.ref 7, .int (a1), .ref 3, .null] (q.1.toList ++ []) q.2) :=
  (show x_X10_takeFolded [.ref 7, .int a1, .ref 3] S = g_X10_takeFolded 0 [.ref 7, .int (a1), .ref 3, .null] [] S from rfl).trans ((a_unf0 none t_X10_takeFolded c_X10_takeFolded k_X10_takeFolded 35 0 _ _ S).trans rfl)
theorem b_X10_takeFolded_5 (a1 : Int32) (s0 : Int32) (S : a_M) : g_X10_takeFolded 5 [.ref 7, .int (a1), .ref 3, .null] [.int (s0)] S = (if s0 < 0 then ((x_X11_isGreatLetter [.int (a1)] S).bind fun q => g_X10_takeFolded 15 [.null, .int (a1), .null, .null] (q.1.toList ++ [.ref 7]) q.2) else ((x_X3_firstOf [.ref 3, .int (s0)] S).bind fun q => g_X10_takeFolded 36 [.ref 7, .null, .ref 3, .int (s0)] (q.1.toList ++ [.ref 7]) q.2)) :=
  (a_unf0 none t_X10_takeFolded c_X10_takeFolded k_X10_takeFolded 35 5 _ _ S).trans rfl
theorem b_X10_takeFolded_15 (a1 : Int32) (s1 : Int32) (S : a_M) : g_X10_takeFolded 15 [.null, .int (a1), .null, .null] [.int (s1), .ref 7] S = (if s1 = 0 then g_X10_takeFolded 26 [.null, .null, .null, .null] [.int (a1), .ref 7] S else g_X10_takeFolded 26 [.null, .null, .null, .null] [.int (a1 + 32), .ref 7] S) :=
  (a_unf0 none t_X10_takeFolded c_X10_takeFolded k_X10_takeFolded 35 15 _ _ S).trans rfl
theorem b_X10_takeFolded_26 (s1 : Int32) (S : a_M) : g_X10_takeFolded 26 [.null, .null, .null, .null] [.int (s1), .ref 7] S = ((x_X10_take [.ref 7, .int (s1)] S).bind fun q => g_X10_takeFolded 29 [.null, .null, .null, .null] (q.1.toList ++ []) q.2) :=
  (a_unf0 none t_X10_takeFolded c_X10_takeFolded k_X10_takeFolded 35 26 _ _ S).trans rfl
theorem b_X10_takeFolded_29 (S : a_M) : g_X10_takeFolded 29 [.null, .null, .null, .null] [] S = some (none, S) :=
  (a_unf0 none t_X10_takeFolded c_X10_takeFolded k_X10_takeFolded 35 29 _ _ S).trans rfl
theorem b_X10_takeFolded_36 (a3 : Int32) (s1 : Int32) (S : a_M) : g_X10_takeFolded 36 [.ref 7, .null, .ref 3, .int (a3)] [.int (s1), .ref 7] S = ((x_X10_take [.ref 7, .int (s1)] S).bind fun q => g_X10_takeFolded 39 [.ref 7, .null, .ref 3, .int (a3)] (q.1.toList ++ []) q.2) :=
  (a_unf0 none t_X10_takeFolded c_X10_takeFolded k_X10_takeFolded 35 36 _ _ S).trans rfl
theorem b_X10_takeFolded_39 (a3 : Int32) (S : a_M) : g_X10_takeFolded 39 [.ref 7, .null, .ref 3, .int (a3)] [] S = ((x_X3_secondOf [.ref 3, .int (a3)] S).bind fun q => g_X10_takeFolded 44 [.ref 7, .null, .ref 3, .int (a3)] (q.1.toList ++ []) q.2) :=
  (a_unf0 none t_X10_takeFolded c_X10_takeFolded k_X10_takeFolded 35 39 _ _ S).trans rfl
theorem b_X10_takeFolded_44 (a3 : Int32) (s0 : Int32) (S : a_M) : g_X10_takeFolded 44 [.ref 7, .null, .ref 3, .int (a3)] [.int (s0)] S = (if s0 = -1 then some (none, S) else ((x_X3_secondOf [.ref 3, .int (a3)] S).bind fun q => g_X10_takeFolded 54 [.null, .null, .null, .null] (q.1.toList ++ [.ref 7]) q.2)) :=
  (a_unf0 none t_X10_takeFolded c_X10_takeFolded k_X10_takeFolded 35 44 _ _ S).trans rfl
theorem b_X10_takeFolded_54 (s1 : Int32) (S : a_M) : g_X10_takeFolded 54 [.null, .null, .null, .null] [.int (s1), .ref 7] S = ((x_X10_take [.ref 7, .int (s1)] S).bind fun q => g_X10_takeFolded 57 [.null, .null, .null, .null] (q.1.toList ++ []) q.2) :=
  (a_unf0 none t_X10_takeFolded c_X10_takeFolded k_X10_takeFolded 35 54 _ _ S).trans rfl
theorem b_X10_takeFolded_57 (S : a_M) : g_X10_takeFolded 57 [.null, .null, .null, .null] [] S = some (none, S) :=
  (a_unf0 none t_X10_takeFolded c_X10_takeFolded k_X10_takeFolded 35 57 _ _ S).trans rfl
def k_X11_isHalf : Nat → Bool := fun pc => false
noncomputable def g_X11_isHalf : a_K := a_G none t_X11_isHalf c_X11_isHalf
theorem e_X11_isHalf (a0 : Int32) (S : a_M) : x_X11_isHalf [.int a0] S = (if a0 < 55296 then some (some (.int (0)), S) else (if (57343 : Int32) < a0 then some (some (.int (0)), S) else some (some (.int (1)), S))) :=
  (show x_X11_isHalf [.int a0] S = g_X11_isHalf 0 [.int (a0)] [] S from rfl).trans ((a_unf0 none t_X11_isHalf c_X11_isHalf k_X11_isHalf 12 0 _ _ S).trans rfl)
def k_X10_split : Nat → Bool := fun pc => bif Nat.beq pc 27 then true else bif Nat.beq pc 96 then true else false
noncomputable def g_X10_split : a_K := a_G none t_X10_split c_X10_split
theorem e_X10_split (S : a_M) : x_X10_split [.ref 7, .ref 1, .ref 3] S = g_X10_split 27 [.ref 7, .ref 1, .ref 3, .int (0), .null, .null] [] (a_wi (a_wi (a_wi (a_wi (a_wi S 7 4 (0)) 7 5 (0)) 7 6 (0)) 7 7 (0)) 7 8 (0)) :=
  (show x_X10_split [.ref 7, .ref 1, .ref 3] S = g_X10_split 0 [.ref 7, .ref 1, .ref 3, .null, .null, .null] [] S from rfl).trans ((a_unf0 none t_X10_split c_X10_split k_X10_split 69 0 _ _ S).trans rfl)
theorem b_X10_split_27 (a3 : Int32) (S : a_M) : g_X10_split 27 [.ref 7, .ref 1, .ref 3, .int (a3), .null, .null] [] S = (if a3 < S.1 1 1 then ((x_X5_get [.ref 1, .int (a3)] S).bind fun q => g_X10_split 40 [.ref 7, .ref 1, .ref 3, .int (a3), .null, .null] (q.1.toList ++ []) q.2) else some (none, S)) :=
  (a_unf0 none t_X10_split c_X10_split k_X10_split 69 27 _ _ S).trans rfl
theorem b_X10_split_40 (a3 : Int32) (s0 : Int32) (S : a_M) : g_X10_split 40 [.ref 7, .ref 1, .ref 3, .int (a3), .null, .null] [.int (s0)] S = ((x_X5_get [.ref 1, .int (a3 + 1)] S).bind fun q => g_X10_split 49 [.ref 7, .ref 1, .ref 3, .int (a3), .int (s0), .null] (q.1.toList ++ []) q.2) :=
  (a_unf0 none t_X10_split c_X10_split k_X10_split 69 40 _ _ S).trans rfl
theorem b_X10_split_49 (a3 : Int32) (a4 : Int32) (s0 : Int32) (S : a_M) : g_X10_split 49 [.ref 7, .ref 1, .ref 3, .int (a3), .int (a4), .null] [.int (s0)] S = ((x_X11_isFirstHalf [.int (a4)] S).bind fun q => g_X10_split 56 [.ref 7, .ref 1, .ref 3, .int (a3), .int (a4), .int (s0)] (q.1.toList ++ []) q.2) :=
  (a_unf0 none t_X10_split c_X10_split k_X10_split 69 49 _ _ S).trans rfl
theorem b_X10_split_56 (a3 : Int32) (a4 : Int32) (a5 : Int32) (s0 : Int32) (S : a_M) : g_X10_split 56 [.ref 7, .ref 1, .ref 3, .int (a3), .int (a4), .int (a5)] [.int (s0)] S = (if s0 = 0 then g_X10_split 96 [.ref 7, .ref 1, .ref 3, .int (a3), .int (a4), .null] [] S else ((x_X11_isSecondHalf [.int (a5)] S).bind fun q => g_X10_split 64 [.ref 7, .ref 1, .ref 3, .int (a3), .int (a4), .int (a5)] (q.1.toList ++ []) q.2)) :=
  (a_unf0 none t_X10_split c_X10_split k_X10_split 69 56 _ _ S).trans rfl
theorem b_X10_split_64 (a3 : Int32) (a4 : Int32) (a5 : Int32) (s0 : Int32) (S : a_M) : g_X10_split 64 [.ref 7, .ref 1, .ref 3, .int (a3), .int (a4), .int (a5)] [.int (s0)] S = (if s0 = 0 then g_X10_split 96 [.ref 7, .ref 1, .ref 3, .int (a3), .int (a4), .null] [] S else ((x_X10_takeFolded [.ref 7, .int (((65536 + (1024 * (a4 - 55296))) + a5) - 56320), .ref 3] S).bind fun q => g_X10_split 90 [.ref 7, .ref 1, .ref 3, .int (a3), .null, .null] (q.1.toList ++ []) q.2)) :=
  (a_unf0 none t_X10_split c_X10_split k_X10_split 69 64 _ _ S).trans rfl
theorem b_X10_split_90 (a3 : Int32) (S : a_M) : g_X10_split 90 [.ref 7, .ref 1, .ref 3, .int (a3), .null, .null] [] S = g_X10_split 27 [.ref 7, .ref 1, .ref 3, .int ((a3 + 1) + 1), .null, .null] [] S :=
  (a_unf0 none t_X10_split c_X10_split k_X10_split 69 90 _ _ S).trans rfl
theorem b_X10_split_96 (a3 : Int32) (a4 : Int32) (S : a_M) : g_X10_split 96 [.ref 7, .ref 1, .ref 3, .int (a3), .int (a4), .null] [] S = ((x_X11_isHalf [.int (a4)] S).bind fun q => g_X10_split 101 [.ref 7, .ref 1, .ref 3, .int (a3), .int (a4), .null] (q.1.toList ++ []) q.2) :=
  (a_unf0 none t_X10_split c_X10_split k_X10_split 69 96 _ _ S).trans rfl
theorem b_X10_split_101 (a3 : Int32) (a4 : Int32) (s0 : Int32) (S : a_M) : g_X10_split 101 [.ref 7, .ref 1, .ref 3, .int (a3), .int (a4), .null] [.int (s0)] S = (if s0 = 0 then ((x_X10_takeFolded [.ref 7, .int (a4), .ref 3] S).bind fun q => g_X10_split 119 [.ref 7, .ref 1, .ref 3, .int (a3), .null, .null] (q.1.toList ++ []) q.2) else g_X10_split 27 [.ref 7, .ref 1, .ref 3, .int (a3 + 1), .null, .null] [] (a_wi S 7 5 (1))) :=
  (a_unf0 none t_X10_split c_X10_split k_X10_split 69 101 _ _ S).trans rfl
theorem b_X10_split_119 (a3 : Int32) (S : a_M) : g_X10_split 119 [.ref 7, .ref 1, .ref 3, .int (a3), .null, .null] [] S = g_X10_split 27 [.ref 7, .ref 1, .ref 3, .int (a3 + 1), .null, .null] [] S :=
  (a_unf0 none t_X10_split c_X10_split k_X10_split 69 119 _ _ S).trans rfl
def k_X10_state : Nat → Bool := fun pc => false
noncomputable def g_X10_state : a_K := a_G none t_X10_state c_X10_state
theorem e_X10_state (S : a_M) : x_X10_state [.ref 7] S = (if S.1 7 5 = 0 then (if S.1 7 6 = 0 then (if S.1 7 4 = 0 then some (some (.int (-5)), S) else some (some (.int (S.1 7 4)), S)) else some (some (.int (-4)), S)) else some (some (.int (-3)), S)) :=
  (show x_X10_state [.ref 7] S = g_X10_state 0 [.ref 7] [] S from rfl).trans ((a_unf0 none t_X10_state c_X10_state k_X10_state 20 0 _ _ S).trans rfl)
def k_X11_feed : Nat → Bool := fun pc => bif Nat.beq pc 35 then true else false
noncomputable def g_X11_feed : a_K := a_G none t_X11_feed c_X11_feed
theorem e_X11_feed (a1 : Int64) (a3 : Int32) (S : a_M) : x_X11_feed [.ref 0, .long a1, .int a3] S = (if a3 < 1 then some (some (.int (-2)), S) else (if (4 : Int32) < a3 then some (some (.int (-2)), S) else (if 120 - a3 < S.1 1 1 then some (some (.int (-8)), S) else g_X11_feed 35 [.ref 0, .long (a1), .null, .null, .int (a3 - 1)] [] S))) :=
  (show x_X11_feed [.ref 0, .long a1, .int a3] S = g_X11_feed 0 [.ref 0, .long (a1), .null, .int (a3), .null] [] S from rfl).trans ((a_unf0 none t_X11_feed c_X11_feed k_X11_feed 45 0 _ _ S).trans rfl)
theorem b_X11_feed_35 (a1 : Int64) (a4 : Int32) (S : a_M) : g_X11_feed 35 [.ref 0, .long (a1), .null, .null, .int (a4)] [] S = (if a4 < 0 then some (some (.int (S.1 1 1)), (a_wi S 0 10 (0))) else ((x_X5_append [.ref 1, .int (((a1 >>> ((16 * a4).toInt64 &&& 63)) &&& 65535).toInt32)] S).bind fun q => g_X11_feed 59 [.ref 0, .long (a1), .null, .null, .int (a4)] (q.1.toList ++ []) q.2)) :=
  (a_unf0 none t_X11_feed c_X11_feed k_X11_feed 45 35 _ _ S).trans rfl
theorem b_X11_feed_59 (a1 : Int64) (a4 : Int32) (S : a_M) : g_X11_feed 59 [.ref 0, .long (a1), .null, .null, .int (a4)] [] S = g_X11_feed 35 [.ref 0, .long (a1), .null, .null, .int (a4 + (-1))] [] S :=
  (a_unf0 none t_X11_feed c_X11_feed k_X11_feed 45 59 _ _ S).trans rfl
def k_X11_drop : Nat → Bool := fun pc => false
noncomputable def g_X11_drop : a_K := a_G none t_X11_drop c_X11_drop
theorem e_X11_drop (S : a_M) : x_X11_drop [.ref 0] S = ((x_X5_clear [.ref 1] S).bind fun q => g_X11_drop 15 [.ref 0, .int (S.1 1 1)] (q.1.toList ++ []) q.2) :=
  (show x_X11_drop [.ref 0] S = g_X11_drop 0 [.ref 0, .null] [] S from rfl).trans ((a_unf0 none t_X11_drop c_X11_drop k_X11_drop 14 0 _ _ S).trans rfl)
theorem b_X11_drop_15 (a1 : Int32) (S : a_M) : g_X11_drop 15 [.ref 0, .int (a1)] [] S = some (some (.int (a1)), (a_wi S 0 10 (0))) :=
  (a_unf0 none t_X11_drop c_X11_drop k_X11_drop 14 15 _ _ S).trans rfl
def k_X11_isSign : Nat → Bool := fun pc => false
noncomputable def g_X11_isSign : a_K := a_G none t_X11_isSign c_X11_isSign
theorem e_X11_isSign (a0 : Int32) (S : a_M) : x_X11_isSign [.int a0] S = (if a0 < 0 then some (some (.int (0)), S) else (if (1114111 : Int32) < a0 then some (some (.int (0)), S) else ((x_X11_isHalf [.int (a0)] S).bind fun q => g_X11_isSign 15 [.null] (q.1.toList ++ []) q.2))) :=
  (show x_X11_isSign [.int a0] S = g_X11_isSign 0 [.int (a0)] [] S from rfl).trans ((a_unf0 none t_X11_isSign c_X11_isSign k_X11_isSign 14 0 _ _ S).trans rfl)
theorem b_X11_isSign_15 (s0 : Int32) (S : a_M) : g_X11_isSign 15 [.null] [.int (s0)] S = (if s0 = 0 then some (some (.int (1)), S) else some (some (.int (0)), S)) :=
  (a_unf0 none t_X11_isSign c_X11_isSign k_X11_isSign 14 15 _ _ S).trans rfl
def k_X11_fold : Nat → Bool := fun pc => bif Nat.beq pc 29 then true else false
noncomputable def g_X11_fold : a_K := a_G none t_X11_fold c_X11_fold
theorem e_X11_fold (a1 : Int32) (a2 : Int32) (a3 : Int32) (S : a_M) : x_X11_fold [.ref 0, .int a1, .int a2, .int a3] S = ((x_X11_isSign [.int (a1)] S).bind fun q => g_X11_fold 4 [.ref 0, .int (a1), .int (a2), .int (a3)] (q.1.toList ++ []) q.2) :=
  (show x_X11_fold [.ref 0, .int a1, .int a2, .int a3] S = g_X11_fold 0 [.ref 0, .int (a1), .int (a2), .int (a3)] [] S from rfl).trans ((a_unf0 none t_X11_fold c_X11_fold k_X11_fold 41 0 _ _ S).trans rfl)
theorem b_X11_fold_4 (a1 : Int32) (a2 : Int32) (a3 : Int32) (s0 : Int32) (S : a_M) : g_X11_fold 4 [.ref 0, .int (a1), .int (a2), .int (a3)] [.int (s0)] S = (if s0 = 0 then some (some (.int (-2)), S) else ((x_X11_isSign [.int (a2)] S).bind fun q => g_X11_fold 11 [.ref 0, .int (a1), .int (a2), .int (a3)] (q.1.toList ++ []) q.2)) :=
  (a_unf0 none t_X11_fold c_X11_fold k_X11_fold 41 4 _ _ S).trans rfl
theorem b_X11_fold_11 (a1 : Int32) (a2 : Int32) (a3 : Int32) (s0 : Int32) (S : a_M) : g_X11_fold 11 [.ref 0, .int (a1), .int (a2), .int (a3)] [.int (s0)] S = (if s0 = 0 then some (some (.int (-2)), S) else (if a3 = -1 then g_X11_fold 29 [.ref 0, .int (a1), .int (a2), .int (a3)] [] S else ((x_X11_isSign [.int (a3)] S).bind fun q => g_X11_fold 23 [.ref 0, .int (a1), .int (a2), .int (a3)] (q.1.toList ++ []) q.2))) :=
  (a_unf0 none t_X11_fold c_X11_fold k_X11_fold 41 11 _ _ S).trans rfl
theorem b_X11_fold_23 (a1 : Int32) (a2 : Int32) (a3 : Int32) (s0 : Int32) (S : a_M) : g_X11_fold 23 [.ref 0, .int (a1), .int (a2), .int (a3)] [.int (s0)] S = (if s0 = 0 then some (some (.int (-2)), S) else g_X11_fold 29 [.ref 0, .int (a1), .int (a2), .int (a3)] [] S) :=
  (a_unf0 none t_X11_fold c_X11_fold k_X11_fold 41 23 _ _ S).trans rfl
theorem b_X11_fold_29 (a1 : Int32) (a2 : Int32) (a3 : Int32) (S : a_M) : g_X11_fold 29 [.ref 0, .int (a1), .int (a2), .int (a3)] [] S = ((x_X3_indexOf [.ref 3, .int (a1)] S).bind fun q => g_X11_fold 37 [.ref 0, .int (a1), .int (a2), .int (a3)] (q.1.toList ++ []) q.2) :=
  (a_unf0 none t_X11_fold c_X11_fold k_X11_fold 41 29 _ _ S).trans rfl
theorem b_X11_fold_37 (a1 : Int32) (a2 : Int32) (a3 : Int32) (s0 : Int32) (S : a_M) : g_X11_fold 37 [.ref 0, .int (a1), .int (a2), .int (a3)] [.int (s0)] S = (if s0 < 0 then (if S.1 3 3 < 30 then ((x_X3_add [.ref 3, .int (a1), .int (a2), .int (a3)] S).bind fun q => g_X11_fold 68 [.ref 0, .null, .null, .null] (q.1.toList ++ []) q.2) else some (some (.int (-8)), S)) else some (some (.int (-7)), S)) :=
  (a_unf0 none t_X11_fold c_X11_fold k_X11_fold 41 37 _ _ S).trans rfl
theorem b_X11_fold_68 (S : a_M) : g_X11_fold 68 [.ref 0, .null, .null, .null] [] S = some (some (.int (1)), (a_wi S 0 10 (0))) :=
  (a_unf0 none t_X11_fold c_X11_fold k_X11_fold 41 68 _ _ S).trans rfl
def k_X11_freshText : Nat → Bool := fun pc => false
noncomputable def g_X11_freshText : a_K := a_G none t_X11_freshText c_X11_freshText
theorem e_X11_freshText (S : a_M) : x_X11_freshText [.ref 0] S = (if S.1 0 10 = 0 then ((x_X10_split [.ref 7, .ref 1, .ref 3] S).bind fun q => g_X11_freshText 22 [.ref 0] (q.1.toList ++ []) q.2) else some (some (.ref 7), (a_wi S 0 10 (1)))) :=
  (show x_X11_freshText [.ref 0] S = g_X11_freshText 0 [.ref 0] [] S from rfl).trans ((a_unf0 none t_X11_freshText c_X11_freshText k_X11_freshText 18 0 _ _ S).trans rfl)
theorem b_X11_freshText_22 (S : a_M) : g_X11_freshText 22 [.ref 0] [] S = some (some (.ref 7), (a_wi S 0 10 (1))) :=
  (a_unf0 none t_X11_freshText c_X11_freshText k_X11_freshText 18 22 _ _ S).trans rfl
def k_X11_words : Nat → Bool := fun pc => false
noncomputable def g_X11_words : a_K := a_G none t_X11_words c_X11_words
theorem e_X11_words (S : a_M) : x_X11_words [.ref 0] S = ((x_X11_freshText [.ref 0] S).bind fun q => g_X11_words 4 [.null] (q.1.toList ++ []) q.2) :=
  (show x_X11_words [.ref 0] S = g_X11_words 0 [.ref 0] [] S from rfl).trans ((a_unf0 none t_X11_words c_X11_words k_X11_words 6 0 _ _ S).trans rfl)
theorem b_X11_words_4 (S : a_M) : g_X11_words 4 [.null] [.ref 7] S = ((x_X10_state [.ref 7] S).bind fun q => g_X11_words 7 [.null] (q.1.toList ++ []) q.2) :=
  (a_unf0 none t_X11_words c_X11_words k_X11_words 6 4 _ _ S).trans rfl
theorem b_X11_words_7 (s0 : Int32) (S : a_M) : g_X11_words 7 [.null] [.int (s0)] S = some (some (.int (s0)), S) :=
  (a_unf0 none t_X11_words c_X11_words k_X11_words 6 7 _ _ S).trans rfl
def k_X11_sign : Nat → Bool := fun pc => false
noncomputable def g_X11_sign : a_K := a_G none t_X11_sign c_X11_sign
theorem e_X11_sign (a1 : Int32) (a2 : Int32) (S : a_M) : x_X11_sign [.ref 0, .int a1, .int a2] S = ((x_X11_freshText [.ref 0] S).bind fun q => g_X11_sign 4 [.ref 0, .int (a1), .int (a2)] (q.1.toList ++ []) q.2) :=
  (show x_X11_sign [.ref 0, .int a1, .int a2] S = g_X11_sign 0 [.ref 0, .int (a1), .int (a2)] [] S from rfl).trans ((a_unf0 none t_X11_sign c_X11_sign k_X11_sign 37 0 _ _ S).trans rfl)
theorem b_X11_sign_4 (a1 : Int32) (a2 : Int32) (S : a_M) : g_X11_sign 4 [.ref 0, .int (a1), .int (a2)] [.ref 7] S = ((x_X10_state [.ref 7] S).bind fun q => g_X11_sign 7 [.ref 0, .int (a1), .int (a2)] (q.1.toList ++ []) q.2) :=
  (a_unf0 none t_X11_sign c_X11_sign k_X11_sign 37 4 _ _ S).trans rfl
theorem b_X11_sign_7 (a1 : Int32) (a2 : Int32) (s0 : Int32) (S : a_M) : g_X11_sign 7 [.ref 0, .int (a1), .int (a2)] [.int (s0)] S = (if s0 < 0 then some (some (.int (-1)), S) else (if a1 < 0 then some (some (.int (-1)), S) else (if a1 < S.1 7 4 then (if a2 = -1 then ((x_X10_lengthOf [.ref 7, .int (a1)] S).bind fun q => g_X11_sign 40 [.null, .null, .null] (q.1.toList ++ []) q.2) else (if a2 = -2 then ((x_X10_breakAhead [.ref 7, .int (a1)] S).bind fun q => g_X11_sign 55 [.null, .null, .null] (q.1.toList ++ []) q.2) else ((x_X10_signAt [.ref 7, .int (a1), .int (a2)] S).bind fun q => g_X11_sign 65 [.null, .null, .null] (q.1.toList ++ []) q.2))) else some (some (.int (-1)), S)))) :=
  (a_unf0 none t_X11_sign c_X11_sign k_X11_sign 37 7 _ _ S).trans rfl
theorem b_X11_sign_40 (s0 : Int32) (S : a_M) : g_X11_sign 40 [.null, .null, .null] [.int (s0)] S = some (some (.int (s0)), S) :=
  (a_unf0 none t_X11_sign c_X11_sign k_X11_sign 37 40 _ _ S).trans rfl
theorem b_X11_sign_55 (s0 : Int32) (S : a_M) : g_X11_sign 55 [.null, .null, .null] [.int (s0)] S = some (some (.int (s0)), S) :=
  (a_unf0 none t_X11_sign c_X11_sign k_X11_sign 37 55 _ _ S).trans rfl
theorem b_X11_sign_65 (s0 : Int32) (S : a_M) : g_X11_sign 65 [.null, .null, .null] [.int (s0)] S = some (some (.int (s0)), S) :=
  (a_unf0 none t_X11_sign c_X11_sign k_X11_sign 37 65 _ _ S).trans rfl
def k_X11_name : Nat → Bool := fun pc => false
noncomputable def g_X11_name : a_K := a_G none t_X11_name c_X11_name
theorem e_X11_name (S : a_M) : x_X11_name [.ref 0] S = ((x_X11_freshText [.ref 0] S).bind fun q => g_X11_name 4 [.ref 0, .null] (q.1.toList ++ []) q.2) :=
  (show x_X11_name [.ref 0] S = g_X11_name 0 [.ref 0, .null] [] S from rfl).trans ((a_unf0 none t_X11_name c_X11_name k_X11_name 21 0 _ _ S).trans rfl)
theorem b_X11_name_4 (S : a_M) : g_X11_name 4 [.ref 0, .null] [.ref 7] S = ((x_X10_state [.ref 7] S).bind fun q => g_X11_name 7 [.ref 0, .null] (q.1.toList ++ []) q.2) :=
  (a_unf0 none t_X11_name c_X11_name k_X11_name 21 4 _ _ S).trans rfl
theorem b_X11_name_7 (s0 : Int32) (S : a_M) : g_X11_name 7 [.ref 0, .null] [.int (s0)] S = (if (4 : Int32) < s0 then some (some (.int (-4)), S) else (if s0 < 0 then some (some (.int (s0)), S) else ((x_X0_enter [.ref 12, .ref 7] S).bind fun q => g_X11_name 35 [.null, .null] (q.1.toList ++ []) q.2))) :=
  (a_unf0 none t_X11_name c_X11_name k_X11_name 21 7 _ _ S).trans rfl
theorem b_X11_name_35 (s0 : Int32) (S : a_M) : g_X11_name 35 [.null, .null] [.int (s0)] S = some (some (.int (s0)), S) :=
  (a_unf0 none t_X11_name c_X11_name k_X11_name 21 35 _ _ S).trans rfl
def k_X11_shorten : Nat → Bool := fun pc => false
noncomputable def g_X11_shorten : a_K := a_G none t_X11_shorten c_X11_shorten
theorem e_X11_shorten (a1 : Int32) (a2 : Int32) (S : a_M) : x_X11_shorten [.ref 0, .int a1, .int a2] S = ((x_X0_hasName [.ref 12, .int (a1)] S).bind fun q => g_X11_shorten 8 [.ref 0, .int (a1), .int (a2)] (q.1.toList ++ []) q.2) :=
  (show x_X11_shorten [.ref 0, .int a1, .int a2] S = g_X11_shorten 0 [.ref 0, .int (a1), .int (a2)] [] S from rfl).trans ((a_unf0 none t_X11_shorten c_X11_shorten k_X11_shorten 47 0 _ _ S).trans rfl)
theorem b_X11_shorten_8 (a1 : Int32) (a2 : Int32) (s0 : Int32) (S : a_M) : g_X11_shorten 8 [.ref 0, .int (a1), .int (a2)] [.int (s0)] S = (if s0 = 0 then some (some (.int (-2)), S) else ((x_X0_hasName [.ref 12, .int (a2)] S).bind fun q => g_X11_shorten 19 [.ref 0, .int (a1), .int (a2)] (q.1.toList ++ []) q.2)) :=
  (a_unf0 none t_X11_shorten c_X11_shorten k_X11_shorten 47 8 _ _ S).trans rfl
theorem b_X11_shorten_19 (a1 : Int32) (a2 : Int32) (s0 : Int32) (S : a_M) : g_X11_shorten 19 [.ref 0, .int (a1), .int (a2)] [.int (s0)] S = (if s0 = 0 then some (some (.int (-2)), S) else (if a1 = a2 then some (some (.int (-2)), S) else ((x_X0_sizeOf [.ref 12, .int (a1)] S).bind fun q => g_X11_shorten 38 [.ref 0, .int (a1), .int (a2)] (q.1.toList ++ []) q.2))) :=
  (a_unf0 none t_X11_shorten c_X11_shorten k_X11_shorten 47 19 _ _ S).trans rfl
theorem b_X11_shorten_38 (a1 : Int32) (a2 : Int32) (s0 : Int32) (S : a_M) : g_X11_shorten 38 [.ref 0, .int (a1), .int (a2)] [.int (s0)] S = (if s0 = 1 then ((x_X0_hasShort [.ref 12, .int (a1), .int (a2)] S).bind fun q => g_X11_shorten 54 [.ref 0, .int (a1), .int (a2)] (q.1.toList ++ []) q.2) else some (some (.int (-6)), S)) :=
  (a_unf0 none t_X11_shorten c_X11_shorten k_X11_shorten 47 38 _ _ S).trans rfl
theorem b_X11_shorten_54 (a1 : Int32) (a2 : Int32) (s0 : Int32) (S : a_M) : g_X11_shorten 54 [.ref 0, .int (a1), .int (a2)] [.int (s0)] S = (if s0 = 0 then (if S.1 12 9 < 30 then ((x_X0_addShort [.ref 12, .int (a1), .int (a2)] S).bind fun q => g_X11_shorten 84 [.null, .null, .null] (q.1.toList ++ []) q.2) else some (some (.int (-8)), S)) else some (some (.int (-7)), S)) :=
  (a_unf0 none t_X11_shorten c_X11_shorten k_X11_shorten 47 54 _ _ S).trans rfl
theorem b_X11_shorten_84 (S : a_M) : g_X11_shorten 84 [.null, .null, .null] [] S = some (some (.int (1)), S) :=
  (a_unf0 none t_X11_shorten c_X11_shorten k_X11_shorten 47 84 _ _ S).trans rfl
def k_X11_street : Nat → Bool := fun pc => false
noncomputable def g_X11_street : a_K := a_G none t_X11_street c_X11_street
theorem e_X11_street (a1 : Int32) (S : a_M) : x_X11_street [.ref 0, .int a1] S = ((x_X0_hasName [.ref 12, .int (a1)] S).bind fun q => g_X11_street 8 [.ref 0, .int (a1)] (q.1.toList ++ []) q.2) :=
  (show x_X11_street [.ref 0, .int a1] S = g_X11_street 0 [.ref 0, .int (a1)] [] S from rfl).trans ((a_unf0 none t_X11_street c_X11_street k_X11_street 21 0 _ _ S).trans rfl)
theorem b_X11_street_8 (a1 : Int32) (s0 : Int32) (S : a_M) : g_X11_street 8 [.ref 0, .int (a1)] [.int (s0)] S = (if s0 = 0 then some (some (.int (-2)), S) else (if S.1 20 13 < 30 then ((x_X6_addStreet [.ref 20, .int (a1)] S).bind fun q => g_X11_street 39 [.null, .null] (q.1.toList ++ []) q.2) else some (some (.int (-8)), S))) :=
  (a_unf0 none t_X11_street c_X11_street k_X11_street 21 8 _ _ S).trans rfl
theorem b_X11_street_39 (s0 : Int32) (S : a_M) : g_X11_street 39 [.null, .null] [.int (s0)] S = some (some (.int (s0)), S) :=
  (a_unf0 none t_X11_street c_X11_street k_X11_street 21 39 _ _ S).trans rfl
def k_X11_also : Nat → Bool := fun pc => false
noncomputable def g_X11_also : a_K := a_G none t_X11_also c_X11_also
theorem e_X11_also (a1 : Int32) (a2 : Int32) (S : a_M) : x_X11_also [.ref 0, .int a1, .int a2] S = ((x_X6_has [.ref 20, .int (1), .int (a1)] S).bind fun q => g_X11_also 9 [.ref 0, .int (a1), .int (a2)] (q.1.toList ++ []) q.2) :=
  (show x_X11_also [.ref 0, .int a1, .int a2] S = g_X11_also 0 [.ref 0, .int (a1), .int (a2)] [] S from rfl).trans ((a_unf0 none t_X11_also c_X11_also k_X11_also 38 0 _ _ S).trans rfl)
theorem b_X11_also_9 (a1 : Int32) (a2 : Int32) (s0 : Int32) (S : a_M) : g_X11_also 9 [.ref 0, .int (a1), .int (a2)] [.int (s0)] S = (if s0 = 0 then some (some (.int (-2)), S) else ((x_X0_hasName [.ref 12, .int (a2)] S).bind fun q => g_X11_also 20 [.ref 0, .int (a1), .int (a2)] (q.1.toList ++ []) q.2)) :=
  (a_unf0 none t_X11_also c_X11_also k_X11_also 38 9 _ _ S).trans rfl
theorem b_X11_also_20 (a1 : Int32) (a2 : Int32) (s0 : Int32) (S : a_M) : g_X11_also 20 [.ref 0, .int (a1), .int (a2)] [.int (s0)] S = (if s0 = 0 then some (some (.int (-2)), S) else ((x_X6_streetHasName [.ref 20, .int (a1), .int (a2)] S).bind fun q => g_X11_also 35 [.ref 0, .int (a1), .int (a2)] (q.1.toList ++ []) q.2)) :=
  (a_unf0 none t_X11_also c_X11_also k_X11_also 38 20 _ _ S).trans rfl
theorem b_X11_also_35 (a1 : Int32) (a2 : Int32) (s0 : Int32) (S : a_M) : g_X11_also 35 [.ref 0, .int (a1), .int (a2)] [.int (s0)] S = (if s0 = 0 then ((x_X6_namesOf [.ref 20, .int (1), .int (a1)] S).bind fun q => g_X11_also 50 [.ref 0, .int (a1), .int (a2)] (q.1.toList ++ []) q.2) else some (some (.int (-7)), S)) :=
  (a_unf0 none t_X11_also c_X11_also k_X11_also 38 35 _ _ S).trans rfl
theorem b_X11_also_50 (a1 : Int32) (a2 : Int32) (s0 : Int32) (S : a_M) : g_X11_also 50 [.ref 0, .int (a1), .int (a2)] [.int (s0)] S = (if s0 < 4 then ((x_X6_addStreetName [.ref 20, .int (a1), .int (a2)] S).bind fun q => g_X11_also 68 [.null, .null, .null] (q.1.toList ++ []) q.2) else some (some (.int (-8)), S)) :=
  (a_unf0 none t_X11_also c_X11_also k_X11_also 38 50 _ _ S).trans rfl
theorem b_X11_also_68 (s0 : Int32) (S : a_M) : g_X11_also 68 [.null, .null, .null] [.int (s0)] S = some (some (.int (s0)), S) :=
  (a_unf0 none t_X11_also c_X11_also k_X11_also 38 68 _ _ S).trans rfl
def k_X11_isSpan : Nat → Bool := fun pc => false
noncomputable def g_X11_isSpan : a_K := a_G none t_X11_isSpan c_X11_isSpan
theorem e_X11_isSpan (a0 : Int32) (a1 : Int32) (S : a_M) : x_X11_isSpan [.int a0, .int a1] S = (if a0 < 0 then some (some (.int (0)), S) else (if a1 < a0 then some (some (.int (0)), S) else (if (99999 : Int32) < a1 then some (some (.int (0)), S) else some (some (.int (1)), S)))) :=
  (show x_X11_isSpan [.int a0, .int a1] S = g_X11_isSpan 0 [.int (a0), .int (a1)] [] S from rfl).trans ((a_unf0 none t_X11_isSpan c_X11_isSpan k_X11_isSpan 14 0 _ _ S).trans rfl)
def k_X11_town : Nat → Bool := fun pc => false
noncomputable def g_X11_town : a_K := a_G none t_X11_town c_X11_town
theorem e_X11_town (a1 : Int32) (a2 : Int32) (a3 : Int32) (S : a_M) : x_X11_town [.ref 0, .int a1, .int a2, .int a3] S = ((x_X0_hasName [.ref 12, .int (a1)] S).bind fun q => g_X11_town 8 [.ref 0, .int (a1), .int (a2), .int (a3)] (q.1.toList ++ []) q.2) :=
  (show x_X11_town [.ref 0, .int a1, .int a2, .int a3] S = g_X11_town 0 [.ref 0, .int (a1), .int (a2), .int (a3)] [] S from rfl).trans ((a_unf0 none t_X11_town c_X11_town k_X11_town 27 0 _ _ S).trans rfl)
theorem b_X11_town_8 (a1 : Int32) (a2 : Int32) (a3 : Int32) (s0 : Int32) (S : a_M) : g_X11_town 8 [.ref 0, .int (a1), .int (a2), .int (a3)] [.int (s0)] S = (if s0 = 0 then some (some (.int (-2)), S) else ((x_X11_isSpan [.int (a2), .int (a3)] S).bind fun q => g_X11_town 16 [.ref 0, .int (a1), .int (a2), .int (a3)] (q.1.toList ++ []) q.2)) :=
  (a_unf0 none t_X11_town c_X11_town k_X11_town 27 8 _ _ S).trans rfl
theorem b_X11_town_16 (a1 : Int32) (a2 : Int32) (a3 : Int32) (s0 : Int32) (S : a_M) : g_X11_town 16 [.ref 0, .int (a1), .int (a2), .int (a3)] [.int (s0)] S = (if s0 = 0 then some (some (.int (-2)), S) else (if S.1 20 14 < 20 then ((x_X6_addTown [.ref 20, .int (a1), .int (a2), .int (a3)] S).bind fun q => g_X11_town 49 [.null, .null, .null, .null] (q.1.toList ++ []) q.2) else some (some (.int (-8)), S))) :=
  (a_unf0 none t_X11_town c_X11_town k_X11_town 27 16 _ _ S).trans rfl
theorem b_X11_town_49 (s0 : Int32) (S : a_M) : g_X11_town 49 [.null, .null, .null, .null] [.int (s0)] S = some (some (.int (s0)), S) :=
  (a_unf0 none t_X11_town c_X11_town k_X11_town 27 49 _ _ S).trans rfl
def k_X11_unit : Nat → Bool := fun pc => false
noncomputable def g_X11_unit : a_K := a_G none t_X11_unit c_X11_unit
theorem e_X11_unit (a1 : Int32) (S : a_M) : x_X11_unit [.ref 0, .int a1] S = ((x_X0_hasName [.ref 12, .int (a1)] S).bind fun q => g_X11_unit 8 [.ref 0, .int (a1)] (q.1.toList ++ []) q.2) :=
  (show x_X11_unit [.ref 0, .int a1] S = g_X11_unit 0 [.ref 0, .int (a1)] [] S from rfl).trans ((a_unf0 none t_X11_unit c_X11_unit k_X11_unit 41 0 _ _ S).trans rfl)
theorem b_X11_unit_8 (a1 : Int32) (s0 : Int32) (S : a_M) : g_X11_unit 8 [.ref 0, .int (a1)] [.int (s0)] S = (if s0 = 0 then some (some (.int (-2)), S) else ((x_X0_sizeOf [.ref 12, .int (a1)] S).bind fun q => g_X11_unit 22 [.ref 0, .int (a1)] (q.1.toList ++ []) q.2)) :=
  (a_unf0 none t_X11_unit c_X11_unit k_X11_unit 41 8 _ _ S).trans rfl
theorem b_X11_unit_22 (a1 : Int32) (s0 : Int32) (S : a_M) : g_X11_unit 22 [.ref 0, .int (a1)] [.int (s0)] S = (if s0 = 1 then ((x_X6_isUnitName [.ref 20, .int (a1)] S).bind fun q => g_X11_unit 37 [.ref 0, .int (a1)] (q.1.toList ++ []) q.2) else some (some (.int (-6)), S)) :=
  (a_unf0 none t_X11_unit c_X11_unit k_X11_unit 41 22 _ _ S).trans rfl
theorem b_X11_unit_37 (a1 : Int32) (s0 : Int32) (S : a_M) : g_X11_unit 37 [.ref 0, .int (a1)] [.int (s0)] S = (if s0 = 0 then (if S.1 20 15 < 10 then ((x_X0_wordOf [.ref 12, .int (a1), .int (0)] S).bind fun q => g_X11_unit 74 [.null, .null] (q.1.toList ++ [.int (a1), .ref 20]) q.2) else some (some (.int (-8)), S)) else some (some (.int (-7)), S)) :=
  (a_unf0 none t_X11_unit c_X11_unit k_X11_unit 41 37 _ _ S).trans rfl
theorem b_X11_unit_74 (s1 : Int32) (s2 : Int32) (S : a_M) : g_X11_unit 74 [.null, .null] [.int (s2), .int (s1), .ref 20] S = ((x_X6_addUnitName [.ref 20, .int (s1), .int (s2)] S).bind fun q => g_X11_unit 77 [.null, .null] (q.1.toList ++ []) q.2) :=
  (a_unf0 none t_X11_unit c_X11_unit k_X11_unit 41 74 _ _ S).trans rfl
theorem b_X11_unit_77 (s0 : Int32) (S : a_M) : g_X11_unit 77 [.null, .null] [.int (s0)] S = some (some (.int (s0)), S) :=
  (a_unf0 none t_X11_unit c_X11_unit k_X11_unit 41 77 _ _ S).trans rfl
def k_X11_range : Nat → Bool := fun pc => false
noncomputable def g_X11_range : a_K := a_G none t_X11_range c_X11_range
theorem e_X11_range (a1 : Int32) (a2 : Int32) (a3 : Int32) (a4 : Int32) (a5 : Int32) (a6 : Int32) (S : a_M) : x_X11_range [.ref 0, .int a1, .int a2, .int a3, .int a4, .int a5, .int a6] S = ((x_X6_has [.ref 20, .int (1), .int (a1)] S).bind fun q => g_X11_range 9 [.ref 0, .int (a1), .int (a2), .int (a3), .int (a4), .int (a5), .int (a6)] (q.1.toList ++ []) q.2) :=
  (show x_X11_range [.ref 0, .int a1, .int a2, .int a3, .int a4, .int a5, .int a6] S = g_X11_range 0 [.ref 0, .int (a1), .int (a2), .int (a3), .int (a4), .int (a5), .int (a6)] [] S from rfl).trans ((a_unf0 none t_X11_range c_X11_range k_X11_range 49 0 _ _ S).trans rfl)
theorem b_X11_range_9 (a1 : Int32) (a2 : Int32) (a3 : Int32) (a4 : Int32) (a5 : Int32) (a6 : Int32) (s0 : Int32) (S : a_M) : g_X11_range 9 [.ref 0, .int (a1), .int (a2), .int (a3), .int (a4), .int (a5), .int (a6)] [.int (s0)] S = (if s0 = 0 then some (some (.int (-2)), S) else ((x_X11_isSpan [.int (a2), .int (a3)] S).bind fun q => g_X11_range 17 [.ref 0, .int (a1), .int (a2), .int (a3), .int (a4), .int (a5), .int (a6)] (q.1.toList ++ []) q.2)) :=
  (a_unf0 none t_X11_range c_X11_range k_X11_range 49 9 _ _ S).trans rfl
theorem b_X11_range_17 (a1 : Int32) (a2 : Int32) (a3 : Int32) (a4 : Int32) (a5 : Int32) (a6 : Int32) (s0 : Int32) (S : a_M) : g_X11_range 17 [.ref 0, .int (a1), .int (a2), .int (a3), .int (a4), .int (a5), .int (a6)] [.int (s0)] S = (if s0 = 0 then some (some (.int (-2)), S) else (if a4 < 0 then some (some (.int (-2)), S) else (if (2 : Int32) < a4 then some (some (.int (-2)), S) else ((x_X6_has [.ref 20, .int (3), .int (a5)] S).bind fun q => g_X11_range 44 [.ref 0, .int (a1), .int (a2), .int (a3), .int (a4), .int (a5), .int (a6)] (q.1.toList ++ []) q.2)))) :=
  (a_unf0 none t_X11_range c_X11_range k_X11_range 49 17 _ _ S).trans rfl
theorem b_X11_range_44 (a1 : Int32) (a2 : Int32) (a3 : Int32) (a4 : Int32) (a5 : Int32) (a6 : Int32) (s0 : Int32) (S : a_M) : g_X11_range 44 [.ref 0, .int (a1), .int (a2), .int (a3), .int (a4), .int (a5), .int (a6)] [.int (s0)] S = (if s0 = 0 then some (some (.int (-2)), S) else (if a6 < 0 then some (some (.int (-2)), S) else (if (999 : Int32) < a6 then some (some (.int (-2)), S) else (if S.1 20 16 < 60 then ((x_X6_addRange [.ref 20, .int (a1), .int (a2), .int (a3), .int (a4), .int (a5), .int (a6)] S).bind fun q => g_X11_range 96 [.null, .null, .null, .null, .null, .null, .null] (q.1.toList ++ []) q.2) else some (some (.int (-8)), S))))) :=
  (a_unf0 none t_X11_range c_X11_range k_X11_range 49 44 _ _ S).trans rfl
theorem b_X11_range_96 (s0 : Int32) (S : a_M) : g_X11_range 96 [.null, .null, .null, .null, .null, .null, .null] [.int (s0)] S = some (some (.int (s0)), S) :=
  (a_unf0 none t_X11_range c_X11_range k_X11_range 49 96 _ _ S).trans rfl
def k_X11_grammar : Nat → Bool := fun pc => false
noncomputable def g_X11_grammar : a_K := a_G none t_X11_grammar c_X11_grammar
theorem e_X11_grammar (a1 : Int32) (a2 : Int32) (a3 : Int32) (S : a_M) : x_X11_grammar [.ref 0, .int a1, .int a2, .int a3] S = ((x_X4_isGrammar [.int (a1), .int (a2), .int (a3)] S).bind fun q => g_X11_grammar 6 [.ref 0, .int (a1), .int (a2), .int (a3)] (q.1.toList ++ []) q.2) :=
  (show x_X11_grammar [.ref 0, .int a1, .int a2, .int a3] S = g_X11_grammar 0 [.ref 0, .int (a1), .int (a2), .int (a3)] [] S from rfl).trans ((a_unf0 none t_X11_grammar c_X11_grammar k_X11_grammar 23 0 _ _ S).trans rfl)
theorem b_X11_grammar_6 (a1 : Int32) (a2 : Int32) (a3 : Int32) (s0 : Int32) (S : a_M) : g_X11_grammar 6 [.ref 0, .int (a1), .int (a2), .int (a3)] [.int (s0)] S = (if s0 = 0 then some (some (.int (-2)), S) else (if S.1 34 3 < 8 then ((x_X4_add [.ref 34, .int (a1), .int (a2), .int (a3)] S).bind fun q => g_X11_grammar 39 [.null, .null, .null, .null] (q.1.toList ++ []) q.2) else some (some (.int (-8)), S))) :=
  (a_unf0 none t_X11_grammar c_X11_grammar k_X11_grammar 23 6 _ _ S).trans rfl
theorem b_X11_grammar_39 (s0 : Int32) (S : a_M) : g_X11_grammar 39 [.null, .null, .null, .null] [.int (s0)] S = some (some (.int (s0)), S) :=
  (a_unf0 none t_X11_grammar c_X11_grammar k_X11_grammar 23 39 _ _ S).trans rfl
def k_X11_read : Nat → Bool := fun pc => false
noncomputable def g_X11_read : a_K := a_G none t_X11_read c_X11_read
theorem e_X11_read (a1 : Int32) (S : a_M) : x_X11_read [.ref 0, .int a1] S = (if a1 < 0 then some (some (.int (-2)), S) else (if a1 < S.1 34 3 then ((x_X11_freshText [.ref 0] S).bind fun q => g_X11_read 22 [.ref 0, .int (a1), .null, .null] (q.1.toList ++ []) q.2) else some (some (.int (-2)), S))) :=
  (show x_X11_read [.ref 0, .int a1] S = g_X11_read 0 [.ref 0, .int (a1), .null, .null] [] S from rfl).trans ((a_unf0 none t_X11_read c_X11_read k_X11_read 41 0 _ _ S).trans rfl)
theorem b_X11_read_22 (a1 : Int32) (S : a_M) : g_X11_read 22 [.ref 0, .int (a1), .null, .null] [.ref 7] S = ((x_X10_state [.ref 7] S).bind fun q => g_X11_read 25 [.ref 0, .int (a1), .null, .null] (q.1.toList ++ []) q.2) :=
  (a_unf0 none t_X11_read c_X11_read k_X11_read 41 22 _ _ S).trans rfl
theorem b_X11_read_25 (a1 : Int32) (s0 : Int32) (S : a_M) : g_X11_read 25 [.ref 0, .int (a1), .null, .null] [.int (s0)] S = (if s0 < 0 then some (some (.int (s0)), S) else ((x_X7_findBest [.ref 45, .int (a1)] S).bind fun q => g_X11_read 40 [.ref 0, .int (a1), .null, .null] (q.1.toList ++ []) q.2)) :=
  (a_unf0 none t_X11_read c_X11_read k_X11_read 41 25 _ _ S).trans rfl
theorem b_X11_read_40 (a1 : Int32) (s0 : Int32) (S : a_M) : g_X11_read 40 [.ref 0, .int (a1), .null, .null] [.int (s0)] S = (if s0 = 0 then some (some (.int (-1)), S) else ((x_X7_describe [.ref 45, .int (a1)] S).bind fun q => g_X11_read 53 [.ref 0, .null, .null, .null] (q.1.toList ++ []) q.2)) :=
  (a_unf0 none t_X11_read c_X11_read k_X11_read 41 40 _ _ S).trans rfl
theorem b_X11_read_53 (S : a_M) : g_X11_read 53 [.ref 0, .null, .null, .null] [] S = ((x_X1_keepDraft [.ref 38] S).bind fun q => g_X11_read 60 [.ref 0, .null, .null, .null] (q.1.toList ++ []) q.2) :=
  (a_unf0 none t_X11_read c_X11_read k_X11_read 41 53 _ _ S).trans rfl
theorem b_X11_read_60 (s0 : Int32) (S : a_M) : g_X11_read 60 [.ref 0, .null, .null, .null] [.int (s0)] S = (if s0 < 0 then some (some (.int (s0)), S) else ((x_X7_keepBest [.ref 45] S).bind fun q => g_X11_read 72 [.null, .null, .null, .int (s0)] (q.1.toList ++ []) q.2)) :=
  (a_unf0 none t_X11_read c_X11_read k_X11_read 41 60 _ _ S).trans rfl
theorem b_X11_read_72 (a3 : Int32) (S : a_M) : g_X11_read 72 [.null, .null, .null, .int (a3)] [] S = some (some (.int (a3)), S) :=
  (a_unf0 none t_X11_read c_X11_read k_X11_read 41 72 _ _ S).trans rfl
def k_X11_cost : Nat → Bool := fun pc => false
noncomputable def g_X11_cost : a_K := a_G none t_X11_cost c_X11_cost
theorem e_X11_cost (S : a_M) : x_X11_cost [.ref 0] S = ((x_X7_latestCost [.ref 45] S).bind fun q => g_X11_cost 7 [.null] (q.1.toList ++ []) q.2) :=
  (show x_X11_cost [.ref 0] S = g_X11_cost 0 [.ref 0] [] S from rfl).trans ((a_unf0 none t_X11_cost c_X11_cost k_X11_cost 6 0 _ _ S).trans rfl)
theorem b_X11_cost_7 (s0 : Int32) (S : a_M) : g_X11_cost 7 [.null] [.int (s0)] S = some (some (.int (s0)), S) :=
  (a_unf0 none t_X11_cost c_X11_cost k_X11_cost 6 7 _ _ S).trans rfl
def k_X11_mark : Nat → Bool := fun pc => false
noncomputable def g_X11_mark : a_K := a_G none t_X11_mark c_X11_mark
theorem e_X11_mark (a1 : Int32) (S : a_M) : x_X11_mark [.ref 0, .int a1] S = ((x_X7_latestMark [.ref 45, .int (a1)] S).bind fun q => g_X11_mark 8 [.null, .null] (q.1.toList ++ []) q.2) :=
  (show x_X11_mark [.ref 0, .int a1] S = g_X11_mark 0 [.ref 0, .int (a1)] [] S from rfl).trans ((a_unf0 none t_X11_mark c_X11_mark k_X11_mark 7 0 _ _ S).trans rfl)
theorem b_X11_mark_8 (s0 : Int32) (S : a_M) : g_X11_mark 8 [.null, .null] [.int (s0)] S = some (some (.int (s0)), S) :=
  (a_unf0 none t_X11_mark c_X11_mark k_X11_mark 7 8 _ _ S).trans rfl
def k_X11_leastOfNames : Nat → Bool := fun pc => bif Nat.beq pc 13 then true else false
noncomputable def g_X11_leastOfNames : a_K := a_G none t_X11_leastOfNames c_X11_leastOfNames
theorem e_X11_leastOfNames (a1 : Int32) (a2 : Int32) (S : a_M) : x_X11_leastOfNames [.ref 0, .int a1, .int a2] S = ((x_X2_prepare [.ref 41] S).bind fun q => g_X11_leastOfNames 7 [.ref 0, .int (a1), .int (a2), .null, .null, .null] (q.1.toList ++ []) q.2) :=
  (show x_X11_leastOfNames [.ref 0, .int a1, .int a2] S = g_X11_leastOfNames 0 [.ref 0, .int (a1), .int (a2), .null, .null, .null] [] S from rfl).trans ((a_unf0 none t_X11_leastOfNames c_X11_leastOfNames k_X11_leastOfNames 42 0 _ _ S).trans rfl)
theorem b_X11_leastOfNames_7 (a1 : Int32) (a2 : Int32) (S : a_M) : g_X11_leastOfNames 7 [.ref 0, .int (a1), .int (a2), .null, .null, .null] [] S = g_X11_leastOfNames 13 [.ref 0, .int (a1), .int (a2), .int (1000000), .int (0), .null] [] S :=
  (a_unf0 none t_X11_leastOfNames c_X11_leastOfNames k_X11_leastOfNames 42 7 _ _ S).trans rfl
theorem b_X11_leastOfNames_13 (a1 : Int32) (a2 : Int32) (a3 : Int32) (a4 : Int32) (S : a_M) : g_X11_leastOfNames 13 [.ref 0, .int (a1), .int (a2), .int (a3), .int (a4), .null] [] S = ((x_X6_namesOf [.ref 20, .int (a1), .int (a2)] S).bind fun q => g_X11_leastOfNames 24 [.ref 0, .int (a1), .int (a2), .int (a3), .int (a4), .null] (q.1.toList ++ [.int (a4)]) q.2) :=
  (a_unf0 none t_X11_leastOfNames c_X11_leastOfNames k_X11_leastOfNames 42 13 _ _ S).trans rfl
theorem b_X11_leastOfNames_24 (a1 : Int32) (a2 : Int32) (a3 : Int32) (a4 : Int32) (s0 : Int32) (s1 : Int32) (S : a_M) : g_X11_leastOfNames 24 [.ref 0, .int (a1), .int (a2), .int (a3), .int (a4), .null] [.int (s1), .int (s0)] S = (if s0 < s1 then ((x_X6_nameOf [.ref 20, .int (a1), .int (a2), .int (a4)] S).bind fun q => g_X11_leastOfNames 38 [.ref 0, .int (a1), .int (a2), .int (a3), .int (a4), .null] (q.1.toList ++ []) q.2) else some (some (.int (a3)), S)) :=
  (a_unf0 none t_X11_leastOfNames c_X11_leastOfNames k_X11_leastOfNames 42 24 _ _ S).trans rfl
theorem b_X11_leastOfNames_38 (a1 : Int32) (a2 : Int32) (a3 : Int32) (a4 : Int32) (s0 : Int32) (S : a_M) : g_X11_leastOfNames 38 [.ref 0, .int (a1), .int (a2), .int (a3), .int (a4), .null] [.int (s0)] S = ((x_X2_walk [.ref 41, .int (s0), .int (0)] S).bind fun q => g_X11_leastOfNames 50 [.ref 0, .int (a1), .int (a2), .int (a3), .int (a4), .int (s0)] (q.1.toList ++ []) q.2) :=
  (a_unf0 none t_X11_leastOfNames c_X11_leastOfNames k_X11_leastOfNames 42 38 _ _ S).trans rfl
theorem b_X11_leastOfNames_50 (a1 : Int32) (a2 : Int32) (a3 : Int32) (a4 : Int32) (a5 : Int32) (S : a_M) : g_X11_leastOfNames 50 [.ref 0, .int (a1), .int (a2), .int (a3), .int (a4), .int (a5)] [] S = ((x_X2_costOf [.ref 41, .int (a5), .int (S.1 7 4)] S).bind fun q => g_X11_leastOfNames 67 [.ref 0, .int (a1), .int (a2), .null, .int (a4), .null] (q.1.toList ++ [.int (a3)]) q.2) :=
  (a_unf0 none t_X11_leastOfNames c_X11_leastOfNames k_X11_leastOfNames 42 50 _ _ S).trans rfl
theorem b_X11_leastOfNames_67 (a1 : Int32) (a2 : Int32) (a4 : Int32) (s0 : Int32) (s1 : Int32) (S : a_M) : g_X11_leastOfNames 67 [.ref 0, .int (a1), .int (a2), .null, .int (a4), .null] [.int (s1), .int (s0)] S = ((x_J9_min_7cf53 [.int (s0), .int (s1)] S).bind fun q => g_X11_leastOfNames 70 [.ref 0, .int (a1), .int (a2), .null, .int (a4), .null] (q.1.toList ++ []) q.2) :=
  (a_unf0 none t_X11_leastOfNames c_X11_leastOfNames k_X11_leastOfNames 42 67 _ _ S).trans rfl
theorem b_X11_leastOfNames_70 (a1 : Int32) (a2 : Int32) (a4 : Int32) (s0 : Int32) (S : a_M) : g_X11_leastOfNames 70 [.ref 0, .int (a1), .int (a2), .null, .int (a4), .null] [.int (s0)] S = g_X11_leastOfNames 13 [.ref 0, .int (a1), .int (a2), .int (s0), .int (a4 + 1), .null] [] S :=
  (a_unf0 none t_X11_leastOfNames c_X11_leastOfNames k_X11_leastOfNames 42 70 _ _ S).trans rfl
def k_X11_fits : Nat → Bool := fun pc => bif Nat.beq pc 21 then true else false
noncomputable def g_X11_fits : a_K := a_G none t_X11_fits c_X11_fits
theorem e_X11_fits (a1 : Int32) (a2 : Int32) (S : a_M) : x_X11_fits [.ref 0, .int a1, .int a2] S = (if a1 < 0 then some (some (.int (-2)), S) else (if (1 : Int32) < a1 then some (some (.int (-2)), S) else (if a1 = 0 then g_X11_fits 21 [.ref 0, .null, .int (a2), .null, .null, .null] [.int (1)] S else g_X11_fits 21 [.ref 0, .null, .int (a2), .null, .null, .null] [.int (3)] S))) :=
  (show x_X11_fits [.ref 0, .int a1, .int a2] S = g_X11_fits 0 [.ref 0, .int (a1), .int (a2), .null, .null, .null] [] S from rfl).trans ((a_unf0 none t_X11_fits c_X11_fits k_X11_fits 43 0 _ _ S).trans rfl)
theorem b_X11_fits_21 (a2 : Int32) (s0 : Int32) (S : a_M) : g_X11_fits 21 [.ref 0, .null, .int (a2), .null, .null, .null] [.int (s0)] S = ((x_X6_has [.ref 20, .int (s0), .int (a2)] S).bind fun q => g_X11_fits 31 [.ref 0, .null, .int (a2), .int (s0), .null, .null] (q.1.toList ++ []) q.2) :=
  (a_unf0 none t_X11_fits c_X11_fits k_X11_fits 43 21 _ _ S).trans rfl
theorem b_X11_fits_31 (a2 : Int32) (a3 : Int32) (s0 : Int32) (S : a_M) : g_X11_fits 31 [.ref 0, .null, .int (a2), .int (a3), .null, .null] [.int (s0)] S = (if s0 = 0 then some (some (.int (-2)), S) else ((x_X11_freshText [.ref 0] S).bind fun q => g_X11_fits 41 [.ref 0, .null, .int (a2), .int (a3), .null, .null] (q.1.toList ++ []) q.2)) :=
  (a_unf0 none t_X11_fits c_X11_fits k_X11_fits 43 31 _ _ S).trans rfl
theorem b_X11_fits_41 (a2 : Int32) (a3 : Int32) (S : a_M) : g_X11_fits 41 [.ref 0, .null, .int (a2), .int (a3), .null, .null] [.ref 7] S = ((x_X10_state [.ref 7] S).bind fun q => g_X11_fits 44 [.ref 0, .null, .int (a2), .int (a3), .null, .null] (q.1.toList ++ []) q.2) :=
  (a_unf0 none t_X11_fits c_X11_fits k_X11_fits 43 41 _ _ S).trans rfl
theorem b_X11_fits_44 (a2 : Int32) (a3 : Int32) (s0 : Int32) (S : a_M) : g_X11_fits 44 [.ref 0, .null, .int (a2), .int (a3), .null, .null] [.int (s0)] S = (if s0 < 0 then some (some (.int (s0)), S) else ((x_X11_leastOfNames [.ref 0, .int (a3), .int (a2)] S).bind fun q => g_X11_fits 60 [.null, .null, .null, .null, .null, .null] (q.1.toList ++ []) q.2)) :=
  (a_unf0 none t_X11_fits c_X11_fits k_X11_fits 43 44 _ _ S).trans rfl
theorem b_X11_fits_60 (s0 : Int32) (S : a_M) : g_X11_fits 60 [.null, .null, .null, .null, .null, .null] [.int (s0)] S = (if s0 < 1000000 then some (some (.int (s0)), S) else some (some (.int (-1)), S)) :=
  (a_unf0 none t_X11_fits c_X11_fits k_X11_fits 43 60 _ _ S).trans rfl
def k_X11_of : Nat → Bool := fun pc => false
noncomputable def g_X11_of : a_K := a_G none t_X11_of c_X11_of
theorem e_X11_of (a1 : Int32) (a2 : Int32) (S : a_M) : x_X11_of [.ref 0, .int a1, .int a2] S = ((x_X1_has [.ref 38, .int (a1)] S).bind fun q => g_X11_of 8 [.ref 0, .int (a1), .int (a2)] (q.1.toList ++ []) q.2) :=
  (show x_X11_of [.ref 0, .int a1, .int a2] S = g_X11_of 0 [.ref 0, .int (a1), .int (a2)] [] S from rfl).trans ((a_unf0 none t_X11_of c_X11_of k_X11_of 20 0 _ _ S).trans rfl)
theorem b_X11_of_8 (a1 : Int32) (a2 : Int32) (s0 : Int32) (S : a_M) : g_X11_of 8 [.ref 0, .int (a1), .int (a2)] [.int (s0)] S = (if s0 = 0 then some (some (.int (-2)), S) else (if a2 < 0 then some (some (.int (-2)), S) else (if (12 : Int32) < a2 then some (some (.int (-2)), S) else ((x_X1_get [.ref 38, .int (a1), .int (a2)] S).bind fun q => g_X11_of 33 [.null, .null, .null] (q.1.toList ++ []) q.2)))) :=
  (a_unf0 none t_X11_of c_X11_of k_X11_of 20 8 _ _ S).trans rfl
theorem b_X11_of_33 (s0 : Int32) (S : a_M) : g_X11_of 33 [.null, .null, .null] [.int (s0)] S = some (some (.int (s0)), S) :=
  (a_unf0 none t_X11_of c_X11_of k_X11_of 20 33 _ _ S).trans rfl
def k_X11_unitSign : Nat → Bool := fun pc => false
noncomputable def g_X11_unitSign : a_K := a_G none t_X11_unitSign c_X11_unitSign
theorem e_X11_unitSign (a1 : Int32) (a2 : Int32) (S : a_M) : x_X11_unitSign [.ref 0, .int a1, .int a2] S = ((x_X1_unitSignAt [.ref 38, .int (a1), .int (a2)] S).bind fun q => g_X11_unitSign 9 [.null, .null, .null] (q.1.toList ++ []) q.2) :=
  (show x_X11_unitSign [.ref 0, .int a1, .int a2] S = g_X11_unitSign 0 [.ref 0, .int (a1), .int (a2)] [] S from rfl).trans ((a_unf0 none t_X11_unitSign c_X11_unitSign k_X11_unitSign 8 0 _ _ S).trans rfl)
theorem b_X11_unitSign_9 (s0 : Int32) (S : a_M) : g_X11_unitSign 9 [.null, .null, .null] [.int (s0)] S = some (some (.int (s0)), S) :=
  (a_unf0 none t_X11_unitSign c_X11_unitSign k_X11_unitSign 8 9 _ _ S).trans rfl
def k_X11_carrier : Nat → Bool := fun pc => false
noncomputable def g_X11_carrier : a_K := a_G none t_X11_carrier c_X11_carrier
theorem e_X11_carrier (a1 : Int32) (S : a_M) : x_X11_carrier [.ref 0, .int a1] S = ((x_X1_has [.ref 38, .int (a1)] S).bind fun q => g_X11_carrier 8 [.ref 0, .int (a1)] (q.1.toList ++ []) q.2) :=
  (show x_X11_carrier [.ref 0, .int a1] S = g_X11_carrier 0 [.ref 0, .int (a1)] [] S from rfl).trans ((a_unf0 none t_X11_carrier c_X11_carrier k_X11_carrier 33 0 _ _ S).trans rfl)
theorem b_X11_carrier_8 (a1 : Int32) (s0 : Int32) (S : a_M) : g_X11_carrier 8 [.ref 0, .int (a1)] [.int (s0)] S = (if s0 = 0 then some (some (.int (-2)), S) else ((x_X1_get [.ref 38, .int (a1), .int (7)] S).bind fun q => g_X11_carrier 28 [.ref 0, .int (a1)] (q.1.toList ++ [.ref 20]) q.2)) :=
  (a_unf0 none t_X11_carrier c_X11_carrier k_X11_carrier 33 8 _ _ S).trans rfl
theorem b_X11_carrier_28 (a1 : Int32) (s1 : Int32) (S : a_M) : g_X11_carrier 28 [.ref 0, .int (a1)] [.int (s1), .ref 20] S = ((x_X1_get [.ref 38, .int (a1), .int (5)] S).bind fun q => g_X11_carrier 37 [.ref 0, .int (a1)] (q.1.toList ++ [.int (s1), .ref 20]) q.2) :=
  (a_unf0 none t_X11_carrier c_X11_carrier k_X11_carrier 33 28 _ _ S).trans rfl
theorem b_X11_carrier_37 (a1 : Int32) (s1 : Int32) (s2 : Int32) (S : a_M) : g_X11_carrier 37 [.ref 0, .int (a1)] [.int (s2), .int (s1), .ref 20] S = ((x_X1_get [.ref 38, .int (a1), .int (10)] S).bind fun q => g_X11_carrier 47 [.ref 0, .int (a1)] (q.1.toList ++ [.int (s2), .int (s1), .ref 20]) q.2) :=
  (a_unf0 none t_X11_carrier c_X11_carrier k_X11_carrier 33 37 _ _ S).trans rfl
theorem b_X11_carrier_47 (a1 : Int32) (s1 : Int32) (s2 : Int32) (s3 : Int32) (S : a_M) : g_X11_carrier 47 [.ref 0, .int (a1)] [.int (s3), .int (s2), .int (s1), .ref 20] S = ((x_X1_get [.ref 38, .int (a1), .int (11)] S).bind fun q => g_X11_carrier 57 [.null, .null] (q.1.toList ++ [.int (s3), .int (s2), .int (s1), .ref 20]) q.2) :=
  (a_unf0 none t_X11_carrier c_X11_carrier k_X11_carrier 33 47 _ _ S).trans rfl
theorem b_X11_carrier_57 (s1 : Int32) (s2 : Int32) (s3 : Int32) (s4 : Int32) (S : a_M) : g_X11_carrier 57 [.null, .null] [.int (s4), .int (s3), .int (s2), .int (s1), .ref 20] S = ((x_X6_carrierOf [.ref 20, .int (s1), .int (s2), .int (s3), .int (s4)] S).bind fun q => g_X11_carrier 60 [.null, .null] (q.1.toList ++ []) q.2) :=
  (a_unf0 none t_X11_carrier c_X11_carrier k_X11_carrier 33 57 _ _ S).trans rfl
theorem b_X11_carrier_60 (s0 : Int32) (S : a_M) : g_X11_carrier 60 [.null, .null] [.int (s0)] S = some (some (.int (s0)), S) :=
  (a_unf0 none t_X11_carrier c_X11_carrier k_X11_carrier 33 60 _ _ S).trans rfl
def k_X11_canonical : Nat → Bool := fun pc => bif Nat.beq pc 46 then true else false
noncomputable def g_X11_canonical : a_K := a_G none t_X11_canonical c_X11_canonical
theorem e_X11_canonical (a1 : Int32) (S : a_M) : x_X11_canonical [.ref 0, .int a1] S = ((x_X1_has [.ref 38, .int (a1)] S).bind fun q => g_X11_canonical 8 [.ref 0, .int (a1), .null] (q.1.toList ++ []) q.2) :=
  (show x_X11_canonical [.ref 0, .int a1] S = g_X11_canonical 0 [.ref 0, .int (a1), .null] [] S from rfl).trans ((a_unf0 none t_X11_canonical c_X11_canonical k_X11_canonical 46 0 _ _ S).trans rfl)
theorem b_X11_canonical_8 (a1 : Int32) (s0 : Int32) (S : a_M) : g_X11_canonical 8 [.ref 0, .int (a1), .null] [.int (s0)] S = (if s0 = 0 then some (some (.int (-2)), S) else ((x_X9_write [.ref 54, .int (a1)] S).bind fun q => g_X11_canonical 22 [.ref 0, .null, .null] (q.1.toList ++ []) q.2)) :=
  (a_unf0 none t_X11_canonical c_X11_canonical k_X11_canonical 46 8 _ _ S).trans rfl
theorem b_X11_canonical_22 (S : a_M) : g_X11_canonical 22 [.ref 0, .null, .null] [] S = (if (120 : Int32) < S.1 54 4 then some (some (.int (-8)), S) else ((x_X5_clear [.ref 1] S).bind fun q => g_X11_canonical 44 [.ref 0, .null, .null] (q.1.toList ++ []) q.2)) :=
  (a_unf0 none t_X11_canonical c_X11_canonical k_X11_canonical 46 22 _ _ S).trans rfl
theorem b_X11_canonical_44 (S : a_M) : g_X11_canonical 44 [.ref 0, .null, .null] [] S = g_X11_canonical 46 [.ref 0, .null, .int (0)] [] S :=
  (a_unf0 none t_X11_canonical c_X11_canonical k_X11_canonical 46 44 _ _ S).trans rfl
theorem b_X11_canonical_46 (a2 : Int32) (S : a_M) : g_X11_canonical 46 [.ref 0, .null, .int (a2)] [] S = (if a2 < S.1 54 4 then ((x_X9_get [.ref 54, .int (a2)] S).bind fun q => g_X11_canonical 69 [.ref 0, .null, .int (a2)] (q.1.toList ++ [.ref 1]) q.2) else some (some (.int (S.1 1 1)), (a_wi S 0 10 (0)))) :=
  (a_unf0 none t_X11_canonical c_X11_canonical k_X11_canonical 46 46 _ _ S).trans rfl
theorem b_X11_canonical_69 (a2 : Int32) (s1 : Int32) (S : a_M) : g_X11_canonical 69 [.ref 0, .null, .int (a2)] [.int (s1), .ref 1] S = ((x_X5_append [.ref 1, .int (s1)] S).bind fun q => g_X11_canonical 72 [.ref 0, .null, .int (a2)] (q.1.toList ++ []) q.2) :=
  (a_unf0 none t_X11_canonical c_X11_canonical k_X11_canonical 46 69 _ _ S).trans rfl
theorem b_X11_canonical_72 (a2 : Int32) (S : a_M) : g_X11_canonical 72 [.ref 0, .null, .int (a2)] [] S = g_X11_canonical 46 [.ref 0, .null, .int (a2 + 1)] [] S :=
  (a_unf0 none t_X11_canonical c_X11_canonical k_X11_canonical 46 72 _ _ S).trans rfl
def k_X11_unitAt : Nat → Bool := fun pc => false
noncomputable def g_X11_unitAt : a_K := a_G none t_X11_unitAt c_X11_unitAt
theorem e_X11_unitAt (a1 : Int32) (S : a_M) : x_X11_unitAt [.ref 0, .int a1] S = ((x_X5_get [.ref 1, .int (a1)] S).bind fun q => g_X11_unitAt 8 [.null, .null] (q.1.toList ++ []) q.2) :=
  (show x_X11_unitAt [.ref 0, .int a1] S = g_X11_unitAt 0 [.ref 0, .int (a1)] [] S from rfl).trans ((a_unf0 none t_X11_unitAt c_X11_unitAt k_X11_unitAt 7 0 _ _ S).trans rfl)
theorem b_X11_unitAt_8 (s0 : Int32) (S : a_M) : g_X11_unitAt 8 [.null, .null] [.int (s0)] S = some (some (.int (s0)), S) :=
  (a_unf0 none t_X11_unitAt c_X11_unitAt k_X11_unitAt 7 8 _ _ S).trans rfl
def k_X11_count : Nat → Bool := fun pc => false
noncomputable def g_X11_count : a_K := a_G none t_X11_count c_X11_count
theorem e_X11_count (a1 : Int32) (S : a_M) : x_X11_count [.ref 0, .int a1] S = (if a1 = 0 then some (some (.int (S.1 1 1)), S) else (if a1 = 1 then some (some (.int (S.1 12 8)), S) else (if a1 = 2 then some (some (.int (S.1 12 9)), S) else (if a1 = 3 then some (some (.int (S.1 20 13)), S) else (if a1 = 4 then some (some (.int (S.1 20 14)), S) else (if a1 = 5 then some (some (.int (S.1 20 15)), S) else (if a1 = 6 then some (some (.int (S.1 20 16)), S) else (if a1 = 7 then some (some (.int (S.1 34 3)), S) else (if a1 = 8 then some (some (.int (S.1 38 2)), S) else (if a1 = 9 then some (some (.int (S.1 3 3)), S) else some (some (.int (-2)), S))))))))))) :=
  (show x_X11_count [.ref 0, .int a1] S = g_X11_count 0 [.ref 0, .int (a1)] [] S from rfl).trans ((a_unf0 none t_X11_count c_X11_count k_X11_count 46 0 _ _ S).trans rfl)
