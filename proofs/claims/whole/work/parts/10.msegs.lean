/-! ===== the segments of the reference ===== -/
def k_X12_in : Nat → Bool := fun pc => false
noncomputable def g_X12_in : a_K := a_G none t_X12_in c_X12_in
set_option maxRecDepth 8000 in
theorem e_X12_in (a0 : Int32) (a1 : Int32) (a2 : Int32) (S : a_M) : x_X12_in [.int a0, .int a1, .int a2] S = (if a0 < a1 then some (some (.int (0)), S) else (if a2 < a0 then some (some (.int (0)), S) else some (some (.int (1)), S))) :=
  (show x_X12_in [.int a0, .int a1, .int a2] S = g_X12_in 0 [.int (a0), .int (a1), .int (a2)] [] S from rfl).trans ((a_unf0 none t_X12_in c_X12_in k_X12_in 12 0 _ _ S).trans rfl)
def k_X12_feed : Nat → Bool := fun pc => bif Nat.beq pc 31 then true else false
noncomputable def g_X12_feed : a_K := a_G none t_X12_feed c_X12_feed
set_option maxRecDepth 8000 in
theorem e_X12_feed (a1 : Int64) (a3 : Int32) (S : a_M) : x_X12_feed [.ref 56, .long a1, .int a3] S = ((x_X12_in [.int (a3), .int (1), .int (4)] S).bind fun q => g_X12_feed 6 [.ref 56, .long (a1), .null, .int (a3), .null] (q.1.toList ++ []) q.2) :=
  (show x_X12_feed [.ref 56, .long a1, .int a3] S = g_X12_feed 0 [.ref 56, .long (a1), .null, .int (a3), .null] [] S from rfl).trans ((a_unf0 none t_X12_feed c_X12_feed k_X12_feed 47 0 _ _ S).trans rfl)
set_option maxRecDepth 8000 in
theorem b_X12_feed_6 (a1 : Int64) (a3 : Int32) (s0 : Int32) (S : a_M) : g_X12_feed 6 [.ref 56, .long (a1), .null, .int (a3), .null] [.int (s0)] S = (if s0 = 0 then some (some (.int (-2)), S) else (if (120 : Int32) < (S.1 56 1) + a3 then some (some (.int (-8)), S) else g_X12_feed 31 [.ref 56, .long (a1), .null, .null, .int (a3 - 1)] [] S)) :=
  (a_unf0 none t_X12_feed c_X12_feed k_X12_feed 47 6 _ _ S).trans rfl
set_option maxRecDepth 8000 in
theorem b_X12_feed_31 (a1 : Int64) (a4 : Int32) (S : a_M) : g_X12_feed 31 [.ref 56, .long (a1), .null, .null, .int (a4)] [] S = (if a4 < 0 then some (some (.int (S.1 56 1)), S) else (if S.1 56 1 < 0 ∨ 120 ≤ (S.1 56 1).toNatClampNeg then none else g_X12_feed 31 [.ref 56, .long (a1), .null, .null, .int (a4 + (-1))] [] (a_wi (a_wi S 57 ((S.1 56 1).toNatClampNeg) (((a1 >>> ((16 * a4).toInt64 &&& 63)) &&& 65535).toInt32)) 56 1 ((S.1 56 1) + 1)))) :=
  (a_unf0 none t_X12_feed c_X12_feed k_X12_feed 47 31 _ _ S).trans rfl
def k_X12_drop : Nat → Bool := fun pc => false
noncomputable def g_X12_drop : a_K := a_G none t_X12_drop c_X12_drop
set_option maxRecDepth 8000 in
theorem e_X12_drop (S : a_M) : x_X12_drop [.ref 56] S = some (some (.int (S.1 56 1)), (a_wi S 56 1 (0))) :=
  (show x_X12_drop [.ref 56] S = g_X12_drop 0 [.ref 56, .null] [] S from rfl).trans ((a_unf0 none t_X12_drop c_X12_drop k_X12_drop 10 0 _ _ S).trans rfl)
def k_X12_isSign : Nat → Bool := fun pc => false
noncomputable def g_X12_isSign : a_K := a_G none t_X12_isSign c_X12_isSign
set_option maxRecDepth 8000 in
theorem e_X12_isSign (a0 : Int32) (S : a_M) : x_X12_isSign [.int a0] S = ((x_X12_in [.int (a0), .int (0), .int (1114111)] S).bind fun q => g_X12_isSign 7 [.int (a0)] (q.1.toList ++ []) q.2) :=
  (show x_X12_isSign [.int a0] S = g_X12_isSign 0 [.int (a0)] [] S from rfl).trans ((a_unf0 none t_X12_isSign c_X12_isSign k_X12_isSign 16 0 _ _ S).trans rfl)
set_option maxRecDepth 8000 in
theorem b_X12_isSign_7 (a0 : Int32) (s0 : Int32) (S : a_M) : g_X12_isSign 7 [.int (a0)] [.int (s0)] S = (if s0 = 0 then some (some (.int (0)), S) else ((x_X12_in [.int (a0), .int (55296), .int (57343)] S).bind fun q => g_X12_isSign 18 [.null] (q.1.toList ++ []) q.2)) :=
  (a_unf0 none t_X12_isSign c_X12_isSign k_X12_isSign 16 7 _ _ S).trans rfl
set_option maxRecDepth 8000 in
theorem b_X12_isSign_18 (s0 : Int32) (S : a_M) : g_X12_isSign 18 [.null] [.int (s0)] S = (if s0 = 0 then some (some (.int (1)), S) else some (some (.int (0)), S)) :=
  (a_unf0 none t_X12_isSign c_X12_isSign k_X12_isSign 16 18 _ _ S).trans rfl
def k_X12_foldOf : Nat → Bool := fun pc => bif Nat.beq pc 4 then true else false
noncomputable def g_X12_foldOf : a_K := a_G none t_X12_foldOf c_X12_foldOf
set_option maxRecDepth 8000 in
theorem e_X12_foldOf (a1 : Int32) (S : a_M) : x_X12_foldOf [.ref 56, .int a1] S = g_X12_foldOf 4 [.ref 56, .int (a1), .int (-1), .int (0)] [] S :=
  (show x_X12_foldOf [.ref 56, .int a1] S = g_X12_foldOf 0 [.ref 56, .int (a1), .null, .null] [] S from rfl).trans ((a_unf0 none t_X12_foldOf c_X12_foldOf k_X12_foldOf 24 0 _ _ S).trans rfl)
set_option maxRecDepth 8000 in
theorem b_X12_foldOf_4 (a1 : Int32) (a2 : Int32) (a3 : Int32) (S : a_M) : g_X12_foldOf 4 [.ref 56, .int (a1), .int (a2), .int (a3)] [] S = (if a3 < S.1 56 5 then (if a3 < 0 ∨ 30 ≤ a3.toNatClampNeg then none else (if S.1 58 a3.toNatClampNeg = a1 then g_X12_foldOf 4 [.ref 56, .int (a1), .int (a3), .int (a3 + 1)] [] S else g_X12_foldOf 4 [.ref 56, .int (a1), .int (a2), .int (a3 + 1)] [] S)) else some (some (.int (a2)), S)) :=
  (a_unf0 none t_X12_foldOf c_X12_foldOf k_X12_foldOf 24 4 _ _ S).trans rfl
def k_X12_fold : Nat → Bool := fun pc => bif Nat.beq pc 29 then true else false
noncomputable def g_X12_fold : a_K := a_G none t_X12_fold c_X12_fold
set_option maxRecDepth 8000 in
theorem e_X12_fold (a1 : Int32) (a2 : Int32) (a3 : Int32) (S : a_M) : x_X12_fold [.ref 56, .int a1, .int a2, .int a3] S = ((x_X12_isSign [.int (a1)] S).bind fun q => g_X12_fold 4 [.ref 56, .int (a1), .int (a2), .int (a3)] (q.1.toList ++ []) q.2) :=
  (show x_X12_fold [.ref 56, .int a1, .int a2, .int a3] S = g_X12_fold 0 [.ref 56, .int (a1), .int (a2), .int (a3)] [] S from rfl).trans ((a_unf0 none t_X12_fold c_X12_fold k_X12_fold 54 0 _ _ S).trans rfl)
set_option maxRecDepth 8000 in
theorem b_X12_fold_4 (a1 : Int32) (a2 : Int32) (a3 : Int32) (s0 : Int32) (S : a_M) : g_X12_fold 4 [.ref 56, .int (a1), .int (a2), .int (a3)] [.int (s0)] S = (if s0 = 0 then some (some (.int (-2)), S) else ((x_X12_isSign [.int (a2)] S).bind fun q => g_X12_fold 11 [.ref 56, .int (a1), .int (a2), .int (a3)] (q.1.toList ++ []) q.2)) :=
  (a_unf0 none t_X12_fold c_X12_fold k_X12_fold 54 4 _ _ S).trans rfl
set_option maxRecDepth 8000 in
theorem b_X12_fold_11 (a1 : Int32) (a2 : Int32) (a3 : Int32) (s0 : Int32) (S : a_M) : g_X12_fold 11 [.ref 56, .int (a1), .int (a2), .int (a3)] [.int (s0)] S = (if s0 = 0 then some (some (.int (-2)), S) else (if a3 = -1 then g_X12_fold 29 [.ref 56, .int (a1), .int (a2), .int (a3)] [] S else ((x_X12_isSign [.int (a3)] S).bind fun q => g_X12_fold 23 [.ref 56, .int (a1), .int (a2), .int (a3)] (q.1.toList ++ []) q.2))) :=
  (a_unf0 none t_X12_fold c_X12_fold k_X12_fold 54 11 _ _ S).trans rfl
set_option maxRecDepth 8000 in
theorem b_X12_fold_23 (a1 : Int32) (a2 : Int32) (a3 : Int32) (s0 : Int32) (S : a_M) : g_X12_fold 23 [.ref 56, .int (a1), .int (a2), .int (a3)] [.int (s0)] S = (if s0 = 0 then some (some (.int (-2)), S) else g_X12_fold 29 [.ref 56, .int (a1), .int (a2), .int (a3)] [] S) :=
  (a_unf0 none t_X12_fold c_X12_fold k_X12_fold 54 23 _ _ S).trans rfl
set_option maxRecDepth 8000 in
theorem b_X12_fold_29 (a1 : Int32) (a2 : Int32) (a3 : Int32) (S : a_M) : g_X12_fold 29 [.ref 56, .int (a1), .int (a2), .int (a3)] [] S = ((x_X12_foldOf [.ref 56, .int (a1)] S).bind fun q => g_X12_fold 34 [.ref 56, .int (a1), .int (a2), .int (a3)] (q.1.toList ++ []) q.2) :=
  (a_unf0 none t_X12_fold c_X12_fold k_X12_fold 54 29 _ _ S).trans rfl
set_option maxRecDepth 8000 in
theorem b_X12_fold_34 (a1 : Int32) (a2 : Int32) (a3 : Int32) (s0 : Int32) (S : a_M) : g_X12_fold 34 [.ref 56, .int (a1), .int (a2), .int (a3)] [.int (s0)] S = (if s0 < 0 then (if S.1 56 5 = 30 then some (some (.int (-8)), S) else (if S.1 56 5 < 0 ∨ 30 ≤ (S.1 56 5).toNatClampNeg then none else (if S.1 56 5 < 0 ∨ 30 ≤ (S.1 56 5).toNatClampNeg then none else (if S.1 56 5 < 0 ∨ 30 ≤ (S.1 56 5).toNatClampNeg then none else some (some (.int (1)), (a_wi (a_wi (a_wi (a_wi S 58 ((S.1 56 5).toNatClampNeg) (a1)) 59 ((S.1 56 5).toNatClampNeg) (a2)) 60 ((S.1 56 5).toNatClampNeg) (a3)) 56 5 ((S.1 56 5) + 1))))))) else some (some (.int (-7)), S)) :=
  (a_unf0 none t_X12_fold c_X12_fold k_X12_fold 54 34 _ _ S).trans rfl
def k_X12_isPair : Nat → Bool := fun pc => false
noncomputable def g_X12_isPair : a_K := a_G none t_X12_isPair c_X12_isPair
set_option maxRecDepth 8000 in
theorem e_X12_isPair (a1 : Int32) (S : a_M) : x_X12_isPair [.ref 56, .int a1] S = (if a1 + 1 < S.1 56 1 then (if a1 < 0 ∨ 120 ≤ a1.toNatClampNeg then none else ((x_X12_in [.int (S.1 57 a1.toNatClampNeg), .int (55296), .int (56319)] S).bind fun q => g_X12_isPair 23 [.ref 56, .int (a1)] (q.1.toList ++ []) q.2)) else some (some (.int (0)), S)) :=
  (show x_X12_isPair [.ref 56, .int a1] S = g_X12_isPair 0 [.ref 56, .int (a1)] [] S from rfl).trans ((a_unf0 none t_X12_isPair c_X12_isPair k_X12_isPair 30 0 _ _ S).trans rfl)
set_option maxRecDepth 8000 in
theorem b_X12_isPair_23 (a1 : Int32) (s0 : Int32) (S : a_M) : g_X12_isPair 23 [.ref 56, .int (a1)] [.int (s0)] S = (if s0 = 0 then some (some (.int (0)), S) else (if a1 + 1 < 0 ∨ 120 ≤ (a1 + 1).toNatClampNeg then none else ((x_X12_in [.int (S.1 57 (a1 + 1).toNatClampNeg), .int (56320), .int (57343)] S).bind fun q => g_X12_isPair 41 [.null, .null] (q.1.toList ++ []) q.2))) :=
  (a_unf0 none t_X12_isPair c_X12_isPair k_X12_isPair 30 23 _ _ S).trans rfl
set_option maxRecDepth 8000 in
theorem b_X12_isPair_41 (s0 : Int32) (S : a_M) : g_X12_isPair 41 [.null, .null] [.int (s0)] S = (if s0 = 0 then some (some (.int (0)), S) else some (some (.int (1)), S)) :=
  (a_unf0 none t_X12_isPair c_X12_isPair k_X12_isPair 30 41 _ _ S).trans rfl
def k_X12_isBroken : Nat → Bool := fun pc => bif Nat.beq pc 2 then true else false
noncomputable def g_X12_isBroken : a_K := a_G none t_X12_isBroken c_X12_isBroken
set_option maxRecDepth 8000 in
theorem e_X12_isBroken (S : a_M) : x_X12_isBroken [.ref 56] S = g_X12_isBroken 2 [.ref 56, .int (0)] [] S :=
  (show x_X12_isBroken [.ref 56] S = g_X12_isBroken 0 [.ref 56, .null] [] S from rfl).trans ((a_unf0 none t_X12_isBroken c_X12_isBroken k_X12_isBroken 28 0 _ _ S).trans rfl)
set_option maxRecDepth 8000 in
theorem b_X12_isBroken_2 (a1 : Int32) (S : a_M) : g_X12_isBroken 2 [.ref 56, .int (a1)] [] S = (if a1 < S.1 56 1 then ((x_X12_isPair [.ref 56, .int (a1)] S).bind fun q => g_X12_isBroken 15 [.ref 56, .int (a1)] (q.1.toList ++ []) q.2) else some (some (.int (0)), S)) :=
  (a_unf0 none t_X12_isBroken c_X12_isBroken k_X12_isBroken 28 2 _ _ S).trans rfl
set_option maxRecDepth 8000 in
theorem b_X12_isBroken_15 (a1 : Int32) (s0 : Int32) (S : a_M) : g_X12_isBroken 15 [.ref 56, .int (a1)] [.int (s0)] S = (if s0 = 0 then (if a1 < 0 ∨ 120 ≤ a1.toNatClampNeg then none else ((x_X12_in [.int (S.1 57 a1.toNatClampNeg), .int (55296), .int (57343)] S).bind fun q => g_X12_isBroken 37 [.ref 56, .int (a1)] (q.1.toList ++ []) q.2)) else g_X12_isBroken 2 [.ref 56, .int ((a1 + 1) + 1)] [] S) :=
  (a_unf0 none t_X12_isBroken c_X12_isBroken k_X12_isBroken 28 15 _ _ S).trans rfl
set_option maxRecDepth 8000 in
theorem b_X12_isBroken_37 (a1 : Int32) (s0 : Int32) (S : a_M) : g_X12_isBroken 37 [.ref 56, .int (a1)] [.int (s0)] S = (if s0 = 0 then g_X12_isBroken 2 [.ref 56, .int (a1 + 1)] [] S else some (some (.int (1)), S)) :=
  (a_unf0 none t_X12_isBroken c_X12_isBroken k_X12_isBroken 28 37 _ _ S).trans rfl
def k_X12_take : Nat → Bool := fun pc => bif Nat.beq pc 29 then true else bif Nat.beq pc 34 then true else bif Nat.beq pc 103 then true else bif Nat.beq pc 139 then true else bif Nat.beq pc 140 then true else bif Nat.beq pc 156 then true else false
noncomputable def g_X12_take : a_K := a_G none t_X12_take c_X12_take
set_option maxRecDepth 8000 in
theorem e_X12_take (a1 : Int32) (S : a_M) : x_X12_take [.ref 56, .int a1] S = ((x_X12_in [.int (a1), .int (97), .int (122)] S).bind fun q => g_X12_take 8 [.ref 56, .int (a1), .null, .null] (q.1.toList ++ []) q.2) :=
  (show x_X12_take [.ref 56, .int a1] S = g_X12_take 0 [.ref 56, .int (a1), .null, .null] [] S from rfl).trans ((a_unf0 none t_X12_take c_X12_take k_X12_take 120 0 _ _ S).trans rfl)
set_option maxRecDepth 8000 in
theorem b_X12_take_8 (a1 : Int32) (s0 : Int32) (S : a_M) : g_X12_take 8 [.ref 56, .int (a1), .null, .null] [.int (s0)] S = (if s0 = 0 then ((x_X12_in [.int (a1), .int (48), .int (57)] S).bind fun q => g_X12_take 19 [.ref 56, .int (a1), .null, .null] (q.1.toList ++ []) q.2) else g_X12_take 29 [.ref 56, .int (a1), .null, .null] [] S) :=
  (a_unf0 none t_X12_take c_X12_take k_X12_take 120 8 _ _ S).trans rfl
set_option maxRecDepth 8000 in
theorem b_X12_take_19 (a1 : Int32) (s0 : Int32) (S : a_M) : g_X12_take 19 [.ref 56, .int (a1), .null, .null] [.int (s0)] S = (if s0 = 0 then (if a1 < 128 then g_X12_take 34 [.ref 56, .int (a1), .null, .null] [.int (0)] S else g_X12_take 29 [.ref 56, .int (a1), .null, .null] [] S) else g_X12_take 29 [.ref 56, .int (a1), .null, .null] [] S) :=
  (a_unf0 none t_X12_take c_X12_take k_X12_take 120 19 _ _ S).trans rfl
set_option maxRecDepth 8000 in
theorem b_X12_take_29 (a1 : Int32) (S : a_M) : g_X12_take 29 [.ref 56, .int (a1), .null, .null] [] S = g_X12_take 34 [.ref 56, .int (a1), .null, .null] [.int (1)] S :=
  (a_unf0 none t_X12_take c_X12_take k_X12_take 120 29 _ _ S).trans rfl
set_option maxRecDepth 8000 in
theorem b_X12_take_34 (a1 : Int32) (s0 : Int32) (S : a_M) : g_X12_take 34 [.ref 56, .int (a1), .null, .null] [.int (s0)] S = (if s0 = 0 then (if S.1 56 52 = 0 then (if a1 = 44 then some (none, (a_wi (a_wi S 56 51 (0)) 56 52 (1))) else some (none, (a_wi (a_wi S 56 51 (0)) 56 52 (0)))) else some (none, (a_wi (a_wi S 56 51 (0)) 56 52 (1)))) else (if S.1 56 51 = 0 then (if S.1 56 6 = 14 then g_X12_take 103 [.ref 56, .int (a1), .null, .null] [] (a_wi (a_wi (a_wi S 56 51 (1)) 56 53 (1)) 56 6 ((S.1 56 6) - 1)) else g_X12_take 103 [.ref 56, .int (a1), .null, .null] [] (a_wi S 56 51 (1))) else g_X12_take 156 [.ref 56, .int (a1), .null, .null] [] S)) :=
  (a_unf0 none t_X12_take c_X12_take k_X12_take 120 34 _ _ S).trans rfl
set_option maxRecDepth 8000 in
theorem b_X12_take_103 (a1 : Int32) (S : a_M) : g_X12_take 103 [.ref 56, .int (a1), .null, .null] [] S = (if S.1 56 6 < 0 ∨ 14 ≤ (S.1 56 6).toNatClampNeg then none else (if S.1 56 52 = 0 then g_X12_take 139 [.ref 56, .int (a1), .null, .null] [.int (S.1 56 6), .ref 63] (a_wi S 61 ((S.1 56 6).toNatClampNeg) (0)) else (if (0 : Int32) < S.1 56 6 then g_X12_take 140 [.ref 56, .int (a1), .null, .null] [.int (1), .int (S.1 56 6), .ref 63] (a_wi S 61 ((S.1 56 6).toNatClampNeg) (0)) else g_X12_take 139 [.ref 56, .int (a1), .null, .null] [.int (S.1 56 6), .ref 63] (a_wi S 61 ((S.1 56 6).toNatClampNeg) (0))))) :=
  (a_unf0 none t_X12_take c_X12_take k_X12_take 120 103 _ _ S).trans rfl
set_option maxRecDepth 8000 in
theorem b_X12_take_139 (a1 : Int32) (s1 : Int32) (S : a_M) : g_X12_take 139 [.ref 56, .int (a1), .null, .null] [.int (s1), .ref 63] S = g_X12_take 140 [.ref 56, .int (a1), .null, .null] [.int (0), .int (s1), .ref 63] S :=
  (a_unf0 none t_X12_take c_X12_take k_X12_take 120 139 _ _ S).trans rfl
set_option maxRecDepth 8000 in
theorem b_X12_take_140 (a1 : Int32) (s1 : Int32) (s2 : Int32) (S : a_M) : g_X12_take 140 [.ref 56, .int (a1), .null, .null] [.int (s2), .int (s1), .ref 63] S = (if s1 < 0 ∨ 14 ≤ s1.toNatClampNeg then none else g_X12_take 156 [.ref 56, .int (a1), .null, .null] [] (a_wi (a_wi (a_wi S 63 (s1.toNatClampNeg) (vp_nar .boolean (s2))) 56 52 (0)) 56 6 ((S.1 56 6) + 1))) :=
  (a_unf0 none t_X12_take c_X12_take k_X12_take 120 140 _ _ S).trans rfl
set_option maxRecDepth 8000 in
theorem b_X12_take_156 (a1 : Int32) (S : a_M) : g_X12_take 156 [.ref 56, .int (a1), .null, .null] [] S = (if (S.1 56 6) - 1 < 0 ∨ 14 ≤ ((S.1 56 6) - 1).toNatClampNeg then none else (if S.1 61 ((S.1 56 6) - 1).toNatClampNeg = 16 then some (none, (a_wi S 56 53 (1))) else (if (S.1 56 6) - 1 < 0 ∨ 14 ≤ ((S.1 56 6) - 1).toNatClampNeg then none else (if (16 * ((S.1 56 6) - 1)) + (S.1 61 ((S.1 56 6) - 1).toNatClampNeg) < 0 ∨ 224 ≤ ((16 * ((S.1 56 6) - 1)) + (S.1 61 ((S.1 56 6) - 1).toNatClampNeg)).toNatClampNeg then none else (if (S.1 56 6) - 1 < 0 ∨ 14 ≤ ((S.1 56 6) - 1).toNatClampNeg then none else (if (S.1 56 6) - 1 < 0 ∨ 14 ≤ ((S.1 56 6) - 1).toNatClampNeg then none else some (none, (a_wi (a_wi S 62 (((16 * ((S.1 56 6) - 1)) + (S.1 61 ((S.1 56 6) - 1).toNatClampNeg)).toNatClampNeg) (a1)) 61 (((S.1 56 6) - 1).toNatClampNeg) ((S.1 61 ((S.1 56 6) - 1).toNatClampNeg) + 1))))))))) :=
  (a_unf0 none t_X12_take c_X12_take k_X12_take 120 156 _ _ S).trans rfl
def k_X12_takeFolded : Nat → Bool := fun pc => bif Nat.beq pc 30 then true else false
noncomputable def g_X12_takeFolded : a_K := a_G none t_X12_takeFolded c_X12_takeFolded
set_option maxRecDepth 8000 in
theorem e_X12_takeFolded (a1 : Int32) (S : a_M) : x_X12_takeFolded [.ref 56, .int a1] S = ((x_X12_foldOf [.ref 56, .int (a1)] S).bind fun q => g_X12_takeFolded 5 [.ref 56, .int (a1), .null] (q.1.toList ++ []) q.2) :=
  (show x_X12_takeFolded [.ref 56, .int a1] S = g_X12_takeFolded 0 [.ref 56, .int (a1), .null] [] S from rfl).trans ((a_unf0 none t_X12_takeFolded c_X12_takeFolded k_X12_takeFolded 39 0 _ _ S).trans rfl)
set_option maxRecDepth 8000 in
theorem b_X12_takeFolded_5 (a1 : Int32) (s0 : Int32) (S : a_M) : g_X12_takeFolded 5 [.ref 56, .int (a1), .null] [.int (s0)] S = (if s0 < 0 then ((x_X12_in [.int (a1), .int (65), .int (90)] S).bind fun q => g_X12_takeFolded 19 [.null, .int (a1), .null] (q.1.toList ++ [.ref 56]) q.2) else (if s0 < 0 ∨ 30 ≤ s0.toNatClampNeg then none else ((x_X12_take [.ref 56, .int (S.1 59 s0.toNatClampNeg)] S).bind fun q => g_X12_takeFolded 44 [.ref 56, .null, .int (s0)] (q.1.toList ++ []) q.2))) :=
  (a_unf0 none t_X12_takeFolded c_X12_takeFolded k_X12_takeFolded 39 5 _ _ S).trans rfl
set_option maxRecDepth 8000 in
theorem b_X12_takeFolded_19 (a1 : Int32) (s1 : Int32) (S : a_M) : g_X12_takeFolded 19 [.null, .int (a1), .null] [.int (s1), .ref 56] S = (if s1 = 0 then g_X12_takeFolded 30 [.null, .null, .null] [.int (a1), .ref 56] S else g_X12_takeFolded 30 [.null, .null, .null] [.int (a1 + 32), .ref 56] S) :=
  (a_unf0 none t_X12_takeFolded c_X12_takeFolded k_X12_takeFolded 39 19 _ _ S).trans rfl
set_option maxRecDepth 8000 in
theorem b_X12_takeFolded_30 (s1 : Int32) (S : a_M) : g_X12_takeFolded 30 [.null, .null, .null] [.int (s1), .ref 56] S = ((x_X12_take [.ref 56, .int (s1)] S).bind fun q => g_X12_takeFolded 33 [.null, .null, .null] (q.1.toList ++ []) q.2) :=
  (a_unf0 none t_X12_takeFolded c_X12_takeFolded k_X12_takeFolded 39 30 _ _ S).trans rfl
set_option maxRecDepth 8000 in
theorem b_X12_takeFolded_33 (S : a_M) : g_X12_takeFolded 33 [.null, .null, .null] [] S = some (none, S) :=
  (a_unf0 none t_X12_takeFolded c_X12_takeFolded k_X12_takeFolded 39 33 _ _ S).trans rfl
set_option maxRecDepth 8000 in
theorem b_X12_takeFolded_44 (a2 : Int32) (S : a_M) : g_X12_takeFolded 44 [.ref 56, .null, .int (a2)] [] S = (if a2 < 0 ∨ 30 ≤ a2.toNatClampNeg then none else (if S.1 60 a2.toNatClampNeg < 0 then some (none, S) else (if a2 < 0 ∨ 30 ≤ a2.toNatClampNeg then none else ((x_X12_take [.ref 56, .int (S.1 60 a2.toNatClampNeg)] S).bind fun q => g_X12_takeFolded 63 [.null, .null, .null] (q.1.toList ++ []) q.2)))) :=
  (a_unf0 none t_X12_takeFolded c_X12_takeFolded k_X12_takeFolded 39 44 _ _ S).trans rfl
set_option maxRecDepth 8000 in
theorem b_X12_takeFolded_63 (S : a_M) : g_X12_takeFolded 63 [.null, .null, .null] [] S = some (none, S) :=
  (a_unf0 none t_X12_takeFolded c_X12_takeFolded k_X12_takeFolded 39 63 _ _ S).trans rfl
def k_X12_taken : Nat → Bool := fun pc => bif Nat.beq pc 32 then true else false
noncomputable def g_X12_taken : a_K := a_G none t_X12_taken c_X12_taken
set_option maxRecDepth 8000 in
theorem e_X12_taken (S : a_M) : x_X12_taken [.ref 56] S = ((x_X12_isBroken [.ref 56] S).bind fun q => g_X12_taken 4 [.ref 56, .null] (q.1.toList ++ []) q.2) :=
  (show x_X12_taken [.ref 56] S = g_X12_taken 0 [.ref 56, .null] [] S from rfl).trans ((a_unf0 none t_X12_taken c_X12_taken k_X12_taken 73 0 _ _ S).trans rfl)
set_option maxRecDepth 8000 in
theorem b_X12_taken_4 (s0 : Int32) (S : a_M) : g_X12_taken 4 [.ref 56, .null] [.int (s0)] S = (if s0 = 0 then g_X12_taken 32 [.ref 56, .int (0)] [] (a_wi (a_wi (a_wi (a_wi S 56 6 (0)) 56 51 (0)) 56 52 (0)) 56 53 (0)) else some (some (.int (-3)), S)) :=
  (a_unf0 none t_X12_taken c_X12_taken k_X12_taken 73 4 _ _ S).trans rfl
set_option maxRecDepth 8000 in
theorem b_X12_taken_32 (a1 : Int32) (S : a_M) : g_X12_taken 32 [.ref 56, .int (a1)] [] S = (if a1 < S.1 56 1 then ((x_X12_isPair [.ref 56, .int (a1)] S).bind fun q => g_X12_taken 45 [.ref 56, .int (a1)] (q.1.toList ++ []) q.2) else (if S.1 56 53 = 0 then (if S.1 56 6 = 0 then some (some (.int (-5)), S) else some (some (.int (S.1 56 6)), S)) else some (some (.int (-4)), S))) :=
  (a_unf0 none t_X12_taken c_X12_taken k_X12_taken 73 32 _ _ S).trans rfl
set_option maxRecDepth 8000 in
theorem b_X12_taken_45 (a1 : Int32) (s0 : Int32) (S : a_M) : g_X12_taken 45 [.ref 56, .int (a1)] [.int (s0)] S = (if s0 = 0 then (if a1 < 0 ∨ 120 ≤ a1.toNatClampNeg then none else ((x_X12_takeFolded [.ref 56, .int (S.1 57 a1.toNatClampNeg)] S).bind fun q => g_X12_taken 96 [.ref 56, .int (a1)] (q.1.toList ++ []) q.2)) else (if a1 < 0 ∨ 120 ≤ a1.toNatClampNeg then none else (if a1 + 1 < 0 ∨ 120 ≤ (a1 + 1).toNatClampNeg then none else ((x_X12_takeFolded [.ref 56, .int (((65536 + (1024 * ((S.1 57 a1.toNatClampNeg) - 55296))) + (S.1 57 (a1 + 1).toNatClampNeg)) - 56320)] S).bind fun q => g_X12_taken 80 [.ref 56, .int (a1)] (q.1.toList ++ []) q.2)))) :=
  (a_unf0 none t_X12_taken c_X12_taken k_X12_taken 73 45 _ _ S).trans rfl
set_option maxRecDepth 8000 in
theorem b_X12_taken_80 (a1 : Int32) (S : a_M) : g_X12_taken 80 [.ref 56, .int (a1)] [] S = g_X12_taken 32 [.ref 56, .int ((a1 + 1) + 1)] [] S :=
  (a_unf0 none t_X12_taken c_X12_taken k_X12_taken 73 80 _ _ S).trans rfl
set_option maxRecDepth 8000 in
theorem b_X12_taken_96 (a1 : Int32) (S : a_M) : g_X12_taken 96 [.ref 56, .int (a1)] [] S = g_X12_taken 32 [.ref 56, .int (a1 + 1)] [] S :=
  (a_unf0 none t_X12_taken c_X12_taken k_X12_taken 73 96 _ _ S).trans rfl
def k_X12_words : Nat → Bool := fun pc => false
noncomputable def g_X12_words : a_K := a_G none t_X12_words c_X12_words
set_option maxRecDepth 8000 in
theorem e_X12_words (S : a_M) : x_X12_words [.ref 56] S = ((x_X12_taken [.ref 56] S).bind fun q => g_X12_words 4 [.null] (q.1.toList ++ []) q.2) :=
  (show x_X12_words [.ref 56] S = g_X12_words 0 [.ref 56] [] S from rfl).trans ((a_unf0 none t_X12_words c_X12_words k_X12_words 5 0 _ _ S).trans rfl)
set_option maxRecDepth 8000 in
theorem b_X12_words_4 (s0 : Int32) (S : a_M) : g_X12_words 4 [.null] [.int (s0)] S = some (some (.int (s0)), S) :=
  (a_unf0 none t_X12_words c_X12_words k_X12_words 5 4 _ _ S).trans rfl
def k_X12_sign : Nat → Bool := fun pc => false
noncomputable def g_X12_sign : a_K := a_G none t_X12_sign c_X12_sign
set_option maxRecDepth 8000 in
theorem e_X12_sign (a1 : Int32) (a2 : Int32) (S : a_M) : x_X12_sign [.ref 56, .int a1, .int a2] S = ((x_X12_taken [.ref 56] S).bind fun q => g_X12_sign 4 [.ref 56, .int (a1), .int (a2), .null] (q.1.toList ++ []) q.2) :=
  (show x_X12_sign [.ref 56, .int a1, .int a2] S = g_X12_sign 0 [.ref 56, .int (a1), .int (a2), .null] [] S from rfl).trans ((a_unf0 none t_X12_sign c_X12_sign k_X12_sign 53 0 _ _ S).trans rfl)
set_option maxRecDepth 8000 in
theorem b_X12_sign_4 (a1 : Int32) (a2 : Int32) (s0 : Int32) (S : a_M) : g_X12_sign 4 [.ref 56, .int (a1), .int (a2), .null] [.int (s0)] S = ((x_X12_in [.int (a1), .int (0), .int (s0 - 1)] S).bind fun q => g_X12_sign 13 [.ref 56, .int (a1), .int (a2), .null] (q.1.toList ++ []) q.2) :=
  (a_unf0 none t_X12_sign c_X12_sign k_X12_sign 53 4 _ _ S).trans rfl
set_option maxRecDepth 8000 in
theorem b_X12_sign_13 (a1 : Int32) (a2 : Int32) (s0 : Int32) (S : a_M) : g_X12_sign 13 [.ref 56, .int (a1), .int (a2), .null] [.int (s0)] S = (if s0 = 0 then some (some (.int (-1)), S) else (if a1 < 0 ∨ 14 ≤ a1.toNatClampNeg then none else ((x_X12_in [.int (a2), .int (-2), .int ((S.1 61 a1.toNatClampNeg) - 1)] S).bind fun q => g_X12_sign 30 [.ref 56, .int (a1), .int (a2), .null] (q.1.toList ++ []) q.2))) :=
  (a_unf0 none t_X12_sign c_X12_sign k_X12_sign 53 13 _ _ S).trans rfl
set_option maxRecDepth 8000 in
theorem b_X12_sign_30 (a1 : Int32) (a2 : Int32) (s0 : Int32) (S : a_M) : g_X12_sign 30 [.ref 56, .int (a1), .int (a2), .null] [.int (s0)] S = (if s0 = 0 then some (some (.int (-1)), S) else (if a2 = -1 then (if a1 < 0 ∨ 14 ≤ a1.toNatClampNeg then none else some (some (.int (S.1 61 a1.toNatClampNeg)), S)) else (if a2 = -2 then (if a1 < 0 ∨ 14 ≤ a1.toNatClampNeg then none else (if S.1 63 a1.toNatClampNeg = 0 then some (some (.int (0)), S) else some (some (.int (1)), S))) else (if (16 * a1) + a2 < 0 ∨ 224 ≤ ((16 * a1) + a2).toNatClampNeg then none else some (some (.int (S.1 62 ((16 * a1) + a2).toNatClampNeg)), S))))) :=
  (a_unf0 none t_X12_sign c_X12_sign k_X12_sign 53 30 _ _ S).trans rfl
def k_X12_isName : Nat → Bool := fun pc => false
noncomputable def g_X12_isName : a_K := a_G none t_X12_isName c_X12_isName
set_option maxRecDepth 8000 in
theorem e_X12_isName (a1 : Int32) (S : a_M) : x_X12_isName [.ref 56, .int a1] S = ((x_X12_in [.int (a1), .int (0), .int ((S.1 56 10) - 1)] S).bind fun q => g_X12_isName 11 [.null, .null] (q.1.toList ++ []) q.2) :=
  (show x_X12_isName [.ref 56, .int a1] S = g_X12_isName 0 [.ref 56, .int (a1)] [] S from rfl).trans ((a_unf0 none t_X12_isName c_X12_isName k_X12_isName 10 0 _ _ S).trans rfl)
set_option maxRecDepth 8000 in
theorem b_X12_isName_11 (s0 : Int32) (S : a_M) : g_X12_isName 11 [.null, .null] [.int (s0)] S = (Option.map (fun r => (r, S)) (if s0 = 0 ∨ s0 = 1 then some (some (.int (s0))) else none)) :=
  (a_unf0 none t_X12_isName c_X12_isName k_X12_isName 10 11 _ _ S).trans rfl
def k_X12_isWordOf : Nat → Bool := fun pc => bif Nat.beq pc 33 then true else false
noncomputable def g_X12_isWordOf : a_K := a_G none t_X12_isWordOf c_X12_isWordOf
set_option maxRecDepth 8000 in
theorem e_X12_isWordOf (a1 : Int32) (a2 : Int32) (a3 : Int32) (S : a_M) : x_X12_isWordOf [.ref 56, .int a1, .int a2, .int a3] S = (if a1 < 0 ∨ 14 ≤ a1.toNatClampNeg then none else (if (4 * a2) + a3 < 0 ∨ 240 ≤ ((4 * a2) + a3).toNatClampNeg then none else (if S.1 61 a1.toNatClampNeg = S.1 65 ((4 * a2) + a3).toNatClampNeg then g_X12_isWordOf 33 [.ref 56, .int (a1), .null, .null, .int ((4 * a2) + a3), .int (1), .int (0)] [] S else g_X12_isWordOf 33 [.ref 56, .int (a1), .null, .null, .int ((4 * a2) + a3), .int (0), .int (0)] [] S))) :=
  (show x_X12_isWordOf [.ref 56, .int a1, .int a2, .int a3] S = g_X12_isWordOf 0 [.ref 56, .int (a1), .int (a2), .int (a3), .null, .null, .null] [] S from rfl).trans ((a_unf0 none t_X12_isWordOf c_X12_isWordOf k_X12_isWordOf 56 0 _ _ S).trans rfl)
set_option maxRecDepth 8000 in
theorem b_X12_isWordOf_33 (a1 : Int32) (a4 : Int32) (a5 : Int32) (a6 : Int32) (S : a_M) : g_X12_isWordOf 33 [.ref 56, .int (a1), .null, .null, .int (a4), .int (a5), .int (a6)] [] S = (if a1 < 0 ∨ 14 ≤ a1.toNatClampNeg then none else (if a6 < S.1 61 a1.toNatClampNeg then (if a5 = 0 then (Option.map (fun r => (r, S)) (if a5 = 0 ∨ a5 = 1 then some (some (.int (a5))) else none)) else (if (16 * a1) + a6 < 0 ∨ 224 ≤ ((16 * a1) + a6).toNatClampNeg then none else (if (16 * a4) + a6 < 0 ∨ 3840 ≤ ((16 * a4) + a6).toNatClampNeg then none else (if S.1 62 ((16 * a1) + a6).toNatClampNeg = S.1 66 ((16 * a4) + a6).toNatClampNeg then g_X12_isWordOf 33 [.ref 56, .int (a1), .null, .null, .int (a4), .int (1), .int (a6 + 1)] [] S else g_X12_isWordOf 33 [.ref 56, .int (a1), .null, .null, .int (a4), .int (0), .int (a6 + 1)] [] S)))) else (Option.map (fun r => (r, S)) (if a5 = 0 ∨ a5 = 1 then some (some (.int (a5))) else none)))) :=
  (a_unf0 none t_X12_isWordOf c_X12_isWordOf k_X12_isWordOf 56 33 _ _ S).trans rfl
def k_X12_name : Nat → Bool := fun pc => bif Nat.beq pc 14 then true else bif Nat.beq pc 27 then true else bif Nat.beq pc 54 then true else bif Nat.beq pc 80 then true else bif Nat.beq pc 116 then true else bif Nat.beq pc 145 then true else false
noncomputable def g_X12_name : a_K := a_G none t_X12_name c_X12_name
set_option maxRecDepth 8000 in
theorem e_X12_name (S : a_M) : x_X12_name [.ref 56] S = ((x_X12_taken [.ref 56] S).bind fun q => g_X12_name 4 [.ref 56, .null, .null, .null, .null] (q.1.toList ++ []) q.2) :=
  (show x_X12_name [.ref 56] S = g_X12_name 0 [.ref 56, .null, .null, .null, .null] [] S from rfl).trans ((a_unf0 none t_X12_name c_X12_name k_X12_name 124 0 _ _ S).trans rfl)
set_option maxRecDepth 8000 in
theorem b_X12_name_4 (s0 : Int32) (S : a_M) : g_X12_name 4 [.ref 56, .null, .null, .null, .null] [.int (s0)] S = (if s0 < 0 then g_X12_name 14 [.null, .int (s0), .null, .null, .null] [] S else (if (4 : Int32) < s0 then g_X12_name 14 [.null, .int (s0), .null, .null, .null] [] S else g_X12_name 27 [.ref 56, .int (s0), .int (0), .null, .null] [] S)) :=
  (a_unf0 none t_X12_name c_X12_name k_X12_name 124 4 _ _ S).trans rfl
set_option maxRecDepth 8000 in
theorem b_X12_name_14 (a1 : Int32) (S : a_M) : g_X12_name 14 [.null, .int (a1), .null, .null, .null] [] S = (if a1 < 0 then some (some (.int (a1)), S) else some (some (.int (-4)), S)) :=
  (a_unf0 none t_X12_name c_X12_name k_X12_name 124 14 _ _ S).trans rfl
set_option maxRecDepth 8000 in
theorem b_X12_name_27 (a1 : Int32) (a2 : Int32) (S : a_M) : g_X12_name 27 [.ref 56, .int (a1), .int (a2), .null, .null] [] S = (if a2 < S.1 56 10 then (if a2 < 0 ∨ 60 ≤ a2.toNatClampNeg then none else (if S.1 64 a2.toNatClampNeg = a1 then g_X12_name 54 [.ref 56, .int (a1), .int (a2), .int (1), .int (0)] [] S else g_X12_name 54 [.ref 56, .int (a1), .int (a2), .int (0), .int (0)] [] S)) else (if S.1 56 10 = 60 then some (some (.int (-8)), S) else (if S.1 56 10 < 0 ∨ 60 ≤ (S.1 56 10).toNatClampNeg then none else g_X12_name 116 [.ref 56, .int (a1), .int (0), .null, .null] [] (a_wi S 64 ((S.1 56 10).toNatClampNeg) (a1))))) :=
  (a_unf0 none t_X12_name c_X12_name k_X12_name 124 27 _ _ S).trans rfl
set_option maxRecDepth 8000 in
theorem b_X12_name_54 (a1 : Int32) (a2 : Int32) (a3 : Int32) (a4 : Int32) (S : a_M) : g_X12_name 54 [.ref 56, .int (a1), .int (a2), .int (a3), .int (a4)] [] S = (if a4 < a1 then (if a3 = 0 then g_X12_name 80 [.ref 56, .int (a1), .int (a2), .int (a3), .null] [] S else ((x_X12_isWordOf [.ref 56, .int (a4), .int (a2), .int (a4)] S).bind fun q => g_X12_name 73 [.ref 56, .int (a1), .int (a2), .null, .int (a4)] (q.1.toList ++ []) q.2)) else g_X12_name 80 [.ref 56, .int (a1), .int (a2), .int (a3), .null] [] S) :=
  (a_unf0 none t_X12_name c_X12_name k_X12_name 124 54 _ _ S).trans rfl
set_option maxRecDepth 8000 in
theorem b_X12_name_73 (a1 : Int32) (a2 : Int32) (a4 : Int32) (s0 : Int32) (S : a_M) : g_X12_name 73 [.ref 56, .int (a1), .int (a2), .null, .int (a4)] [.int (s0)] S = g_X12_name 54 [.ref 56, .int (a1), .int (a2), .int (s0), .int (a4 + 1)] [] S :=
  (a_unf0 none t_X12_name c_X12_name k_X12_name 124 73 _ _ S).trans rfl
set_option maxRecDepth 8000 in
theorem b_X12_name_80 (a1 : Int32) (a2 : Int32) (a3 : Int32) (S : a_M) : g_X12_name 80 [.ref 56, .int (a1), .int (a2), .int (a3), .null] [] S = (if a3 = 0 then g_X12_name 27 [.ref 56, .int (a1), .int (a2 + 1), .null, .null] [] S else some (some (.int (a2)), S)) :=
  (a_unf0 none t_X12_name c_X12_name k_X12_name 124 80 _ _ S).trans rfl
set_option maxRecDepth 8000 in
theorem b_X12_name_116 (a1 : Int32) (a2 : Int32) (S : a_M) : g_X12_name 116 [.ref 56, .int (a1), .int (a2), .null, .null] [] S = (if a2 < a1 then (if a2 < 0 ∨ 14 ≤ a2.toNatClampNeg then none else (if (4 * (S.1 56 10)) + a2 < 0 ∨ 240 ≤ ((4 * (S.1 56 10)) + a2).toNatClampNeg then none else g_X12_name 145 [.ref 56, .int (a1), .int (a2), .int ((4 * (S.1 56 10)) + a2), .int (0)] [] (a_wi S 65 (((4 * (S.1 56 10)) + a2).toNatClampNeg) (S.1 61 a2.toNatClampNeg)))) else some (some (.int (((S.1 56 10) + 1) - 1)), (a_wi S 56 10 ((S.1 56 10) + 1)))) :=
  (a_unf0 none t_X12_name c_X12_name k_X12_name 124 116 _ _ S).trans rfl
set_option maxRecDepth 8000 in
theorem b_X12_name_145 (a1 : Int32) (a2 : Int32) (a3 : Int32) (a4 : Int32) (S : a_M) : g_X12_name 145 [.ref 56, .int (a1), .int (a2), .int (a3), .int (a4)] [] S = (if a2 < 0 ∨ 14 ≤ a2.toNatClampNeg then none else (if a4 < S.1 61 a2.toNatClampNeg then (if (16 * a2) + a4 < 0 ∨ 224 ≤ ((16 * a2) + a4).toNatClampNeg then none else (if (16 * a3) + a4 < 0 ∨ 3840 ≤ ((16 * a3) + a4).toNatClampNeg then none else g_X12_name 145 [.ref 56, .int (a1), .int (a2), .int (a3), .int (a4 + 1)] [] (a_wi S 66 (((16 * a3) + a4).toNatClampNeg) (S.1 62 ((16 * a2) + a4).toNatClampNeg)))) else g_X12_name 116 [.ref 56, .int (a1), .int (a2 + 1), .null, .null] [] S)) :=
  (a_unf0 none t_X12_name c_X12_name k_X12_name 124 145 _ _ S).trans rfl
def k_X12_shorten : Nat → Bool := fun pc => bif Nat.beq pc 39 then true else false
noncomputable def g_X12_shorten : a_K := a_G none t_X12_shorten c_X12_shorten
set_option maxRecDepth 8000 in
theorem e_X12_shorten (a1 : Int32) (a2 : Int32) (S : a_M) : x_X12_shorten [.ref 56, .int a1, .int a2] S = ((x_X12_isName [.ref 56, .int (a1)] S).bind fun q => g_X12_shorten 5 [.ref 56, .int (a1), .int (a2), .null] (q.1.toList ++ []) q.2) :=
  (show x_X12_shorten [.ref 56, .int a1, .int a2] S = g_X12_shorten 0 [.ref 56, .int (a1), .int (a2), .null] [] S from rfl).trans ((a_unf0 none t_X12_shorten c_X12_shorten k_X12_shorten 71 0 _ _ S).trans rfl)
set_option maxRecDepth 8000 in
theorem b_X12_shorten_5 (a1 : Int32) (a2 : Int32) (s0 : Int32) (S : a_M) : g_X12_shorten 5 [.ref 56, .int (a1), .int (a2), .null] [.int (s0)] S = (if s0 = 0 then some (some (.int (-2)), S) else ((x_X12_isName [.ref 56, .int (a2)] S).bind fun q => g_X12_shorten 13 [.ref 56, .int (a1), .int (a2), .null] (q.1.toList ++ []) q.2)) :=
  (a_unf0 none t_X12_shorten c_X12_shorten k_X12_shorten 71 5 _ _ S).trans rfl
set_option maxRecDepth 8000 in
theorem b_X12_shorten_13 (a1 : Int32) (a2 : Int32) (s0 : Int32) (S : a_M) : g_X12_shorten 13 [.ref 56, .int (a1), .int (a2), .null] [.int (s0)] S = (if s0 = 0 then some (some (.int (-2)), S) else (if a1 = a2 then some (some (.int (-2)), S) else (if a1 < 0 ∨ 60 ≤ a1.toNatClampNeg then none else (if (1 : Int32) < S.1 64 a1.toNatClampNeg then some (some (.int (-6)), S) else g_X12_shorten 39 [.ref 56, .int (a1), .int (a2), .int (0)] [] S)))) :=
  (a_unf0 none t_X12_shorten c_X12_shorten k_X12_shorten 71 13 _ _ S).trans rfl
set_option maxRecDepth 8000 in
theorem b_X12_shorten_39 (a1 : Int32) (a2 : Int32) (a3 : Int32) (S : a_M) : g_X12_shorten 39 [.ref 56, .int (a1), .int (a2), .int (a3)] [] S = (if a3 < S.1 56 14 then (if a3 < 0 ∨ 30 ≤ a3.toNatClampNeg then none else (if S.1 67 a3.toNatClampNeg = a1 then (if a3 < 0 ∨ 30 ≤ a3.toNatClampNeg then none else (if S.1 68 a3.toNatClampNeg = a2 then some (some (.int (-7)), S) else g_X12_shorten 39 [.ref 56, .int (a1), .int (a2), .int (a3 + 1)] [] S)) else g_X12_shorten 39 [.ref 56, .int (a1), .int (a2), .int (a3 + 1)] [] S)) else (if S.1 56 14 = 30 then some (some (.int (-8)), S) else (if S.1 56 14 < 0 ∨ 30 ≤ (S.1 56 14).toNatClampNeg then none else (if S.1 56 14 < 0 ∨ 30 ≤ (S.1 56 14).toNatClampNeg then none else some (some (.int (1)), (a_wi (a_wi (a_wi S 67 ((S.1 56 14).toNatClampNeg) (a1)) 68 ((S.1 56 14).toNatClampNeg) (a2)) 56 14 ((S.1 56 14) + 1))))))) :=
  (a_unf0 none t_X12_shorten c_X12_shorten k_X12_shorten 71 39 _ _ S).trans rfl
def k_X12_street : Nat → Bool := fun pc => false
noncomputable def g_X12_street : a_K := a_G none t_X12_street c_X12_street
set_option maxRecDepth 8000 in
theorem e_X12_street (a1 : Int32) (S : a_M) : x_X12_street [.ref 56, .int a1] S = ((x_X12_isName [.ref 56, .int (a1)] S).bind fun q => g_X12_street 5 [.ref 56, .int (a1)] (q.1.toList ++ []) q.2) :=
  (show x_X12_street [.ref 56, .int a1] S = g_X12_street 0 [.ref 56, .int (a1)] [] S from rfl).trans ((a_unf0 none t_X12_street c_X12_street k_X12_street 39 0 _ _ S).trans rfl)
set_option maxRecDepth 8000 in
theorem b_X12_street_5 (a1 : Int32) (s0 : Int32) (S : a_M) : g_X12_street 5 [.ref 56, .int (a1)] [.int (s0)] S = (if s0 = 0 then some (some (.int (-2)), S) else (if S.1 56 17 = 30 then some (some (.int (-8)), S) else (if S.1 56 17 < 0 ∨ 30 ≤ (S.1 56 17).toNatClampNeg then none else (if 4 * (S.1 56 17) < 0 ∨ 120 ≤ (4 * (S.1 56 17)).toNatClampNeg then none else some (some (.int (((S.1 56 17) + 1) - 1)), (a_wi (a_wi (a_wi S 69 ((S.1 56 17).toNatClampNeg) (1)) 70 ((4 * (S.1 56 17)).toNatClampNeg) (a1)) 56 17 ((S.1 56 17) + 1))))))) :=
  (a_unf0 none t_X12_street c_X12_street k_X12_street 39 5 _ _ S).trans rfl
def k_X12_also : Nat → Bool := fun pc => bif Nat.beq pc 27 then true else false
noncomputable def g_X12_also : a_K := a_G none t_X12_also c_X12_also
set_option maxRecDepth 8000 in
theorem e_X12_also (a1 : Int32) (a2 : Int32) (S : a_M) : x_X12_also [.ref 56, .int a1, .int a2] S = ((x_X12_in [.int (a1), .int (0), .int ((S.1 56 17) - 1)] S).bind fun q => g_X12_also 11 [.ref 56, .int (a1), .int (a2), .null] (q.1.toList ++ []) q.2) :=
  (show x_X12_also [.ref 56, .int a1, .int a2] S = g_X12_also 0 [.ref 56, .int (a1), .int (a2), .null] [] S from rfl).trans ((a_unf0 none t_X12_also c_X12_also k_X12_also 71 0 _ _ S).trans rfl)
set_option maxRecDepth 8000 in
theorem b_X12_also_11 (a1 : Int32) (a2 : Int32) (s0 : Int32) (S : a_M) : g_X12_also 11 [.ref 56, .int (a1), .int (a2), .null] [.int (s0)] S = (if s0 = 0 then some (some (.int (-2)), S) else ((x_X12_isName [.ref 56, .int (a2)] S).bind fun q => g_X12_also 19 [.ref 56, .int (a1), .int (a2), .null] (q.1.toList ++ []) q.2)) :=
  (a_unf0 none t_X12_also c_X12_also k_X12_also 71 11 _ _ S).trans rfl
set_option maxRecDepth 8000 in
theorem b_X12_also_19 (a1 : Int32) (a2 : Int32) (s0 : Int32) (S : a_M) : g_X12_also 19 [.ref 56, .int (a1), .int (a2), .null] [.int (s0)] S = (if s0 = 0 then some (some (.int (-2)), S) else g_X12_also 27 [.ref 56, .int (a1), .int (a2), .int (0)] [] S) :=
  (a_unf0 none t_X12_also c_X12_also k_X12_also 71 19 _ _ S).trans rfl
set_option maxRecDepth 8000 in
theorem b_X12_also_27 (a1 : Int32) (a2 : Int32) (a3 : Int32) (S : a_M) : g_X12_also 27 [.ref 56, .int (a1), .int (a2), .int (a3)] [] S = (if a1 < 0 ∨ 30 ≤ a1.toNatClampNeg then none else (if a3 < S.1 69 a1.toNatClampNeg then (if (4 * a1) + a3 < 0 ∨ 120 ≤ ((4 * a1) + a3).toNatClampNeg then none else (if S.1 70 ((4 * a1) + a3).toNatClampNeg = a2 then some (some (.int (-7)), S) else g_X12_also 27 [.ref 56, .int (a1), .int (a2), .int (a3 + 1)] [] S)) else (if a1 < 0 ∨ 30 ≤ a1.toNatClampNeg then none else (if S.1 69 a1.toNatClampNeg = 4 then some (some (.int (-8)), S) else (if a1 < 0 ∨ 30 ≤ a1.toNatClampNeg then none else (if (4 * a1) + (S.1 69 a1.toNatClampNeg) < 0 ∨ 120 ≤ ((4 * a1) + (S.1 69 a1.toNatClampNeg)).toNatClampNeg then none else (if a1 < 0 ∨ 30 ≤ a1.toNatClampNeg then none else (if a1 < 0 ∨ 30 ≤ a1.toNatClampNeg then none else (if a1 < 0 ∨ 30 ≤ a1.toNatClampNeg then none else some (some (.int ((a_wi (a_wi S 70 (((4 * a1) + (S.1 69 a1.toNatClampNeg)).toNatClampNeg) (a2)) 69 (a1.toNatClampNeg) ((S.1 69 a1.toNatClampNeg) + 1)).1 69 a1.toNatClampNeg)), (a_wi (a_wi S 70 (((4 * a1) + (S.1 69 a1.toNatClampNeg)).toNatClampNeg) (a2)) 69 (a1.toNatClampNeg) ((S.1 69 a1.toNatClampNeg) + 1)))))))))))) :=
  (a_unf0 none t_X12_also c_X12_also k_X12_also 71 27 _ _ S).trans rfl
def k_X12_isSpan : Nat → Bool := fun pc => false
noncomputable def g_X12_isSpan : a_K := a_G none t_X12_isSpan c_X12_isSpan
set_option maxRecDepth 8000 in
theorem e_X12_isSpan (a0 : Int32) (a1 : Int32) (S : a_M) : x_X12_isSpan [.int a0, .int a1] S = ((x_X12_in [.int (a0), .int (0), .int (99999)] S).bind fun q => g_X12_isSpan 7 [.int (a0), .int (a1)] (q.1.toList ++ []) q.2) :=
  (show x_X12_isSpan [.int a0, .int a1] S = g_X12_isSpan 0 [.int (a0), .int (a1)] [] S from rfl).trans ((a_unf0 none t_X12_isSpan c_X12_isSpan k_X12_isSpan 16 0 _ _ S).trans rfl)
set_option maxRecDepth 8000 in
theorem b_X12_isSpan_7 (a0 : Int32) (a1 : Int32) (s0 : Int32) (S : a_M) : g_X12_isSpan 7 [.int (a0), .int (a1)] [.int (s0)] S = (if s0 = 0 then some (some (.int (0)), S) else ((x_X12_in [.int (a1), .int (a0), .int (99999)] S).bind fun q => g_X12_isSpan 17 [.null, .null] (q.1.toList ++ []) q.2)) :=
  (a_unf0 none t_X12_isSpan c_X12_isSpan k_X12_isSpan 16 7 _ _ S).trans rfl
set_option maxRecDepth 8000 in
theorem b_X12_isSpan_17 (s0 : Int32) (S : a_M) : g_X12_isSpan 17 [.null, .null] [.int (s0)] S = (if s0 = 0 then some (some (.int (0)), S) else some (some (.int (1)), S)) :=
  (a_unf0 none t_X12_isSpan c_X12_isSpan k_X12_isSpan 16 17 _ _ S).trans rfl
def k_X12_town : Nat → Bool := fun pc => false
noncomputable def g_X12_town : a_K := a_G none t_X12_town c_X12_town
set_option maxRecDepth 8000 in
theorem e_X12_town (a1 : Int32) (a2 : Int32) (a3 : Int32) (S : a_M) : x_X12_town [.ref 56, .int a1, .int a2, .int a3] S = ((x_X12_isName [.ref 56, .int (a1)] S).bind fun q => g_X12_town 5 [.ref 56, .int (a1), .int (a2), .int (a3)] (q.1.toList ++ []) q.2) :=
  (show x_X12_town [.ref 56, .int a1, .int a2, .int a3] S = g_X12_town 0 [.ref 56, .int (a1), .int (a2), .int (a3)] [] S from rfl).trans ((a_unf0 none t_X12_town c_X12_town k_X12_town 47 0 _ _ S).trans rfl)
set_option maxRecDepth 8000 in
theorem b_X12_town_5 (a1 : Int32) (a2 : Int32) (a3 : Int32) (s0 : Int32) (S : a_M) : g_X12_town 5 [.ref 56, .int (a1), .int (a2), .int (a3)] [.int (s0)] S = (if s0 = 0 then some (some (.int (-2)), S) else ((x_X12_isSpan [.int (a2), .int (a3)] S).bind fun q => g_X12_town 13 [.ref 56, .int (a1), .int (a2), .int (a3)] (q.1.toList ++ []) q.2)) :=
  (a_unf0 none t_X12_town c_X12_town k_X12_town 47 5 _ _ S).trans rfl
set_option maxRecDepth 8000 in
theorem b_X12_town_13 (a1 : Int32) (a2 : Int32) (a3 : Int32) (s0 : Int32) (S : a_M) : g_X12_town 13 [.ref 56, .int (a1), .int (a2), .int (a3)] [.int (s0)] S = (if s0 = 0 then some (some (.int (-2)), S) else (if S.1 56 20 = 20 then some (some (.int (-8)), S) else (if S.1 56 20 < 0 ∨ 20 ≤ (S.1 56 20).toNatClampNeg then none else (if S.1 56 20 < 0 ∨ 20 ≤ (S.1 56 20).toNatClampNeg then none else (if S.1 56 20 < 0 ∨ 20 ≤ (S.1 56 20).toNatClampNeg then none else some (some (.int (((S.1 56 20) + 1) - 1)), (a_wi (a_wi (a_wi (a_wi S 71 ((S.1 56 20).toNatClampNeg) (a1)) 72 ((S.1 56 20).toNatClampNeg) (a2)) 73 ((S.1 56 20).toNatClampNeg) (a3)) 56 20 ((S.1 56 20) + 1)))))))) :=
  (a_unf0 none t_X12_town c_X12_town k_X12_town 47 13 _ _ S).trans rfl
def k_X12_unit : Nat → Bool := fun pc => bif Nat.beq pc 26 then true else false
noncomputable def g_X12_unit : a_K := a_G none t_X12_unit c_X12_unit
set_option maxRecDepth 8000 in
theorem e_X12_unit (a1 : Int32) (S : a_M) : x_X12_unit [.ref 56, .int a1] S = ((x_X12_isName [.ref 56, .int (a1)] S).bind fun q => g_X12_unit 5 [.ref 56, .int (a1), .null] (q.1.toList ++ []) q.2) :=
  (show x_X12_unit [.ref 56, .int a1] S = g_X12_unit 0 [.ref 56, .int (a1), .null] [] S from rfl).trans ((a_unf0 none t_X12_unit c_X12_unit k_X12_unit 53 0 _ _ S).trans rfl)
set_option maxRecDepth 8000 in
theorem b_X12_unit_5 (a1 : Int32) (s0 : Int32) (S : a_M) : g_X12_unit 5 [.ref 56, .int (a1), .null] [.int (s0)] S = (if s0 = 0 then some (some (.int (-2)), S) else (if a1 < 0 ∨ 60 ≤ a1.toNatClampNeg then none else (if (1 : Int32) < S.1 64 a1.toNatClampNeg then some (some (.int (-6)), S) else g_X12_unit 26 [.ref 56, .int (a1), .int (0)] [] S))) :=
  (a_unf0 none t_X12_unit c_X12_unit k_X12_unit 53 5 _ _ S).trans rfl
set_option maxRecDepth 8000 in
theorem b_X12_unit_26 (a1 : Int32) (a2 : Int32) (S : a_M) : g_X12_unit 26 [.ref 56, .int (a1), .int (a2)] [] S = (if a2 < S.1 56 24 then (if a2 < 0 ∨ 10 ≤ a2.toNatClampNeg then none else (if S.1 74 a2.toNatClampNeg = a1 then some (some (.int (-7)), S) else g_X12_unit 26 [.ref 56, .int (a1), .int (a2 + 1)] [] S)) else (if S.1 56 24 = 10 then some (some (.int (-8)), S) else (if S.1 56 24 < 0 ∨ 10 ≤ (S.1 56 24).toNatClampNeg then none else some (some (.int ((S.1 56 24) + 1)), (a_wi (a_wi S 74 ((S.1 56 24).toNatClampNeg) (a1)) 56 24 ((S.1 56 24) + 1)))))) :=
  (a_unf0 none t_X12_unit c_X12_unit k_X12_unit 53 26 _ _ S).trans rfl
def k_X12_range : Nat → Bool := fun pc => false
noncomputable def g_X12_range : a_K := a_G none t_X12_range c_X12_range
set_option maxRecDepth 8000 in
theorem e_X12_range (a1 : Int32) (a2 : Int32) (a3 : Int32) (a4 : Int32) (a5 : Int32) (a6 : Int32) (S : a_M) : x_X12_range [.ref 56, .int a1, .int a2, .int a3, .int a4, .int a5, .int a6] S = ((x_X12_in [.int (a1), .int (0), .int ((S.1 56 17) - 1)] S).bind fun q => g_X12_range 11 [.ref 56, .int (a1), .int (a2), .int (a3), .int (a4), .int (a5), .int (a6)] (q.1.toList ++ []) q.2) :=
  (show x_X12_range [.ref 56, .int a1, .int a2, .int a3, .int a4, .int a5, .int a6] S = g_X12_range 0 [.ref 56, .int (a1), .int (a2), .int (a3), .int (a4), .int (a5), .int (a6)] [] S from rfl).trans ((a_unf0 none t_X12_range c_X12_range k_X12_range 87 0 _ _ S).trans rfl)
set_option maxRecDepth 8000 in
theorem b_X12_range_11 (a1 : Int32) (a2 : Int32) (a3 : Int32) (a4 : Int32) (a5 : Int32) (a6 : Int32) (s0 : Int32) (S : a_M) : g_X12_range 11 [.ref 56, .int (a1), .int (a2), .int (a3), .int (a4), .int (a5), .int (a6)] [.int (s0)] S = (if s0 = 0 then some (some (.int (-2)), S) else ((x_X12_isSpan [.int (a2), .int (a3)] S).bind fun q => g_X12_range 19 [.ref 56, .int (a1), .int (a2), .int (a3), .int (a4), .int (a5), .int (a6)] (q.1.toList ++ []) q.2)) :=
  (a_unf0 none t_X12_range c_X12_range k_X12_range 87 11 _ _ S).trans rfl
set_option maxRecDepth 8000 in
theorem b_X12_range_19 (a1 : Int32) (a2 : Int32) (a3 : Int32) (a4 : Int32) (a5 : Int32) (a6 : Int32) (s0 : Int32) (S : a_M) : g_X12_range 19 [.ref 56, .int (a1), .int (a2), .int (a3), .int (a4), .int (a5), .int (a6)] [.int (s0)] S = (if s0 = 0 then some (some (.int (-2)), S) else ((x_X12_in [.int (a4), .int (0), .int (2)] S).bind fun q => g_X12_range 29 [.ref 56, .int (a1), .int (a2), .int (a3), .int (a4), .int (a5), .int (a6)] (q.1.toList ++ []) q.2)) :=
  (a_unf0 none t_X12_range c_X12_range k_X12_range 87 19 _ _ S).trans rfl
set_option maxRecDepth 8000 in
theorem b_X12_range_29 (a1 : Int32) (a2 : Int32) (a3 : Int32) (a4 : Int32) (a5 : Int32) (a6 : Int32) (s0 : Int32) (S : a_M) : g_X12_range 29 [.ref 56, .int (a1), .int (a2), .int (a3), .int (a4), .int (a5), .int (a6)] [.int (s0)] S = (if s0 = 0 then some (some (.int (-2)), S) else ((x_X12_in [.int (a5), .int (0), .int ((S.1 56 20) - 1)] S).bind fun q => g_X12_range 44 [.ref 56, .int (a1), .int (a2), .int (a3), .int (a4), .int (a5), .int (a6)] (q.1.toList ++ []) q.2)) :=
  (a_unf0 none t_X12_range c_X12_range k_X12_range 87 29 _ _ S).trans rfl
set_option maxRecDepth 8000 in
theorem b_X12_range_44 (a1 : Int32) (a2 : Int32) (a3 : Int32) (a4 : Int32) (a5 : Int32) (a6 : Int32) (s0 : Int32) (S : a_M) : g_X12_range 44 [.ref 56, .int (a1), .int (a2), .int (a3), .int (a4), .int (a5), .int (a6)] [.int (s0)] S = (if s0 = 0 then some (some (.int (-2)), S) else ((x_X12_in [.int (a6), .int (0), .int (999)] S).bind fun q => g_X12_range 56 [.ref 56, .int (a1), .int (a2), .int (a3), .int (a4), .int (a5), .int (a6)] (q.1.toList ++ []) q.2)) :=
  (a_unf0 none t_X12_range c_X12_range k_X12_range 87 44 _ _ S).trans rfl
set_option maxRecDepth 8000 in
theorem b_X12_range_56 (a1 : Int32) (a2 : Int32) (a3 : Int32) (a4 : Int32) (a5 : Int32) (a6 : Int32) (s0 : Int32) (S : a_M) : g_X12_range 56 [.ref 56, .int (a1), .int (a2), .int (a3), .int (a4), .int (a5), .int (a6)] [.int (s0)] S = (if s0 = 0 then some (some (.int (-2)), S) else (if S.1 56 26 = 60 then some (some (.int (-8)), S) else (if S.1 56 26 < 0 ∨ 60 ≤ (S.1 56 26).toNatClampNeg then none else (if S.1 56 26 < 0 ∨ 60 ≤ (S.1 56 26).toNatClampNeg then none else (if S.1 56 26 < 0 ∨ 60 ≤ (S.1 56 26).toNatClampNeg then none else (if S.1 56 26 < 0 ∨ 60 ≤ (S.1 56 26).toNatClampNeg then none else (if S.1 56 26 < 0 ∨ 60 ≤ (S.1 56 26).toNatClampNeg then none else (if S.1 56 26 < 0 ∨ 60 ≤ (S.1 56 26).toNatClampNeg then none else some (some (.int (((S.1 56 26) + 1) - 1)), (a_wi (a_wi (a_wi (a_wi (a_wi (a_wi (a_wi S 75 ((S.1 56 26).toNatClampNeg) (a1)) 76 ((S.1 56 26).toNatClampNeg) (a2)) 77 ((S.1 56 26).toNatClampNeg) (a3)) 78 ((S.1 56 26).toNatClampNeg) (a4)) 79 ((S.1 56 26).toNatClampNeg) (a5)) 80 ((S.1 56 26).toNatClampNeg) (a6)) 56 26 ((S.1 56 26) + 1))))))))))) :=
  (a_unf0 none t_X12_range c_X12_range k_X12_range 87 56 _ _ S).trans rfl
def k_X12_grammar : Nat → Bool := fun pc => bif Nat.beq pc 35 then true else bif Nat.beq pc 112 then true else false
noncomputable def g_X12_grammar : a_K := a_G none t_X12_grammar c_X12_grammar
set_option maxRecDepth 8000 in
theorem e_X12_grammar (a1 : Int32) (a2 : Int32) (a3 : Int32) (S : a_M) : x_X12_grammar [.ref 56, .int a1, .int a2, .int a3] S = ((x_X12_in [.int (a1), .int (1), .int (5)] S).bind fun q => g_X12_grammar 6 [.ref 56, .int (a1), .int (a2), .int (a3), .null, .null, .null] (q.1.toList ++ []) q.2) :=
  (show x_X12_grammar [.ref 56, .int a1, .int a2, .int a3] S = g_X12_grammar 0 [.ref 56, .int (a1), .int (a2), .int (a3), .null, .null, .null] [] S from rfl).trans ((a_unf0 none t_X12_grammar c_X12_grammar k_X12_grammar 120 0 _ _ S).trans rfl)
set_option maxRecDepth 8000 in
theorem b_X12_grammar_6 (a1 : Int32) (a2 : Int32) (a3 : Int32) (s0 : Int32) (S : a_M) : g_X12_grammar 6 [.ref 56, .int (a1), .int (a2), .int (a3), .null, .null, .null] [.int (s0)] S = (if s0 = 0 then some (some (.int (-2)), S) else (if a2 < 0 then some (some (.int (-2)), S) else ((x_X12_in [.int (a3), .int (0), .int ((1 <<< (a1 &&& 31)) - 1)] S).bind fun q => g_X12_grammar 23 [.ref 56, .int (a1), .int (a2), .int (a3), .null, .null, .null] (q.1.toList ++ []) q.2))) :=
  (a_unf0 none t_X12_grammar c_X12_grammar k_X12_grammar 120 6 _ _ S).trans rfl
set_option maxRecDepth 8000 in
theorem b_X12_grammar_23 (a1 : Int32) (a2 : Int32) (a3 : Int32) (s0 : Int32) (S : a_M) : g_X12_grammar 23 [.ref 56, .int (a1), .int (a2), .int (a3), .null, .null, .null] [.int (s0)] S = (if s0 = 0 then some (some (.int (-2)), S) else g_X12_grammar 35 [.ref 56, .int (a1), .int (a2), .int (a3), .int (0), .int (0), .null] [] S) :=
  (a_unf0 none t_X12_grammar c_X12_grammar k_X12_grammar 120 23 _ _ S).trans rfl
set_option maxRecDepth 8000 in
theorem b_X12_grammar_35 (a1 : Int32) (a2 : Int32) (a3 : Int32) (a4 : Int32) (a5 : Int32) (S : a_M) : g_X12_grammar 35 [.ref 56, .int (a1), .int (a2), .int (a3), .int (a4), .int (a5), .null] [] S = (if a5 < a1 then (if (4 : Int32) < (a2 >>> ((3 * a5) &&& 31)) &&& 7 then some (some (.int (-2)), S) else (if (a4 >>> (((a2 >>> ((3 * a5) &&& 31)) &&& 7) &&& 31)) &&& 1 = 1 then some (some (.int (-2)), S) else g_X12_grammar 35 [.ref 56, .int (a1), .int (a2), .int (a3), .int (a4 ||| (1 <<< (((a2 >>> ((3 * a5) &&& 31)) &&& 7) &&& 31))), .int (a5 + 1), .null] [] S)) else (if S.1 56 33 = 8 then some (some (.int (-8)), S) else (if S.1 56 33 < 0 ∨ 8 ≤ (S.1 56 33).toNatClampNeg then none else g_X12_grammar 112 [.ref 56, .int (a1), .int (a2), .int (a3), .null, .int (0), .null] [] (a_wi S 81 ((S.1 56 33).toNatClampNeg) (a1))))) :=
  (a_unf0 none t_X12_grammar c_X12_grammar k_X12_grammar 120 35 _ _ S).trans rfl
set_option maxRecDepth 8000 in
theorem b_X12_grammar_112 (a1 : Int32) (a2 : Int32) (a3 : Int32) (a5 : Int32) (S : a_M) : g_X12_grammar 112 [.ref 56, .int (a1), .int (a2), .int (a3), .null, .int (a5), .null] [] S = (if a5 < a1 then (if (5 * (S.1 56 33)) + a5 < 0 ∨ 40 ≤ ((5 * (S.1 56 33)) + a5).toNatClampNeg then none else (if (a3 >>> (a5 &&& 31)) &&& 1 = 1 then (if (5 * (S.1 56 33)) + a5 < 0 ∨ 40 ≤ ((5 * (S.1 56 33)) + a5).toNatClampNeg then none else g_X12_grammar 112 [.ref 56, .int (a1), .int (a2), .int (a3), .null, .int (a5 + 1), .null] [] (a_wi (a_wi S 82 (((5 * (S.1 56 33)) + a5).toNatClampNeg) ((a2 >>> ((3 * a5) &&& 31)) &&& 7)) 83 (((5 * (S.1 56 33)) + a5).toNatClampNeg) (1))) else (if (5 * (S.1 56 33)) + a5 < 0 ∨ 40 ≤ ((5 * (S.1 56 33)) + a5).toNatClampNeg then none else g_X12_grammar 112 [.ref 56, .int (a1), .int (a2), .int (a3), .null, .int (a5 + 1), .null] [] (a_wi (a_wi S 82 (((5 * (S.1 56 33)) + a5).toNatClampNeg) ((a2 >>> ((3 * a5) &&& 31)) &&& 7)) 83 (((5 * (S.1 56 33)) + a5).toNatClampNeg) (0))))) else some (some (.int (((S.1 56 33) + 1) - 1)), (a_wi S 56 33 ((S.1 56 33) + 1)))) :=
  (a_unf0 none t_X12_grammar c_X12_grammar k_X12_grammar 120 112 _ _ S).trans rfl
def k_X12_isSlip : Nat → Bool := fun pc => bif Nat.beq pc 53 then true else bif Nat.beq pc 104 then true else bif Nat.beq pc 168 then true else bif Nat.beq pc 182 then true else false
noncomputable def g_X12_isSlip : a_K := a_G none t_X12_isSlip c_X12_isSlip
set_option maxRecDepth 8000 in
theorem e_X12_isSlip (a1 : Int32) (a2 : Int32) (a3 : Int32) (S : a_M) : x_X12_isSlip [.ref 56, .int a1, .int a2, .int a3] S = (if a1 < 0 ∨ 14 ≤ a1.toNatClampNeg then none else (if (4 * a2) + a3 < 0 ∨ 240 ≤ ((4 * a2) + a3).toNatClampNeg then none else (if S.1 65 ((4 * a2) + a3).toNatClampNeg < 4 then some (some (.int (0)), S) else (if (S.1 65 ((4 * a2) + a3).toNatClampNeg) + 1 < S.1 61 a1.toNatClampNeg then some (some (.int (0)), S) else (if (S.1 61 a1.toNatClampNeg) + 1 < S.1 65 ((4 * a2) + a3).toNatClampNeg then some (some (.int (0)), S) else g_X12_isSlip 53 [.ref 56, .int (a1), .null, .null, .int ((4 * a2) + a3), .int (S.1 61 a1.toNatClampNeg), .int (S.1 65 ((4 * a2) + a3).toNatClampNeg), .int (0), .null, .null] [] S))))) :=
  (show x_X12_isSlip [.ref 56, .int a1, .int a2, .int a3] S = g_X12_isSlip 0 [.ref 56, .int (a1), .int (a2), .int (a3), .null, .null, .null, .null, .null, .null] [] S from rfl).trans ((a_unf0 none t_X12_isSlip c_X12_isSlip k_X12_isSlip 117 0 _ _ S).trans rfl)
set_option maxRecDepth 8000 in
theorem b_X12_isSlip_53 (a1 : Int32) (a4 : Int32) (a5 : Int32) (a6 : Int32) (a7 : Int32) (S : a_M) : g_X12_isSlip 53 [.ref 56, .int (a1), .null, .null, .int (a4), .int (a5), .int (a6), .int (a7), .null, .null] [] S = (if a7 < a5 then (if a7 < a6 then (if (16 * a1) + a7 < 0 ∨ 224 ≤ ((16 * a1) + a7).toNatClampNeg then none else (if (16 * a4) + a7 < 0 ∨ 3840 ≤ ((16 * a4) + a7).toNatClampNeg then none else (if S.1 62 ((16 * a1) + a7).toNatClampNeg = S.1 66 ((16 * a4) + a7).toNatClampNeg then g_X12_isSlip 53 [.ref 56, .int (a1), .null, .null, .int (a4), .int (a5), .int (a6), .int (a7 + 1), .null, .null] [] S else g_X12_isSlip 104 [.ref 56, .int (a1), .null, .null, .int (a4), .int (a5), .int (a6), .int (a7), .int (0), .null] [] S))) else g_X12_isSlip 104 [.ref 56, .int (a1), .null, .null, .int (a4), .int (a5), .int (a6), .int (a7), .int (0), .null] [] S) else g_X12_isSlip 104 [.ref 56, .int (a1), .null, .null, .int (a4), .int (a5), .int (a6), .int (a7), .int (0), .null] [] S) :=
  (a_unf0 none t_X12_isSlip c_X12_isSlip k_X12_isSlip 117 53 _ _ S).trans rfl
set_option maxRecDepth 8000 in
theorem b_X12_isSlip_104 (a1 : Int32) (a4 : Int32) (a5 : Int32) (a6 : Int32) (a7 : Int32) (a8 : Int32) (S : a_M) : g_X12_isSlip 104 [.ref 56, .int (a1), .null, .null, .int (a4), .int (a5), .int (a6), .int (a7), .int (a8), .null] [] S = (if a8 < a5 - a7 then (if a8 < a6 - a7 then (if (((16 * a1) + a5) - 1) - a8 < 0 ∨ 224 ≤ ((((16 * a1) + a5) - 1) - a8).toNatClampNeg then none else (if (((16 * a4) + a6) - 1) - a8 < 0 ∨ 3840 ≤ ((((16 * a4) + a6) - 1) - a8).toNatClampNeg then none else (if S.1 62 ((((16 * a1) + a5) - 1) - a8).toNatClampNeg = S.1 66 ((((16 * a4) + a6) - 1) - a8).toNatClampNeg then g_X12_isSlip 104 [.ref 56, .int (a1), .null, .null, .int (a4), .int (a5), .int (a6), .int (a7), .int (a8 + 1), .null] [] S else g_X12_isSlip 168 [.null, .null, .null, .null, .null, .int (a5), .int (a6), .int (a7), .int (a8), .null] [] S))) else g_X12_isSlip 168 [.null, .null, .null, .null, .null, .int (a5), .int (a6), .int (a7), .int (a8), .null] [] S) else g_X12_isSlip 168 [.null, .null, .null, .null, .null, .int (a5), .int (a6), .int (a7), .int (a8), .null] [] S) :=
  (a_unf0 none t_X12_isSlip c_X12_isSlip k_X12_isSlip 117 104 _ _ S).trans rfl
set_option maxRecDepth 8000 in
theorem b_X12_isSlip_168 (a5 : Int32) (a6 : Int32) (a7 : Int32) (a8 : Int32) (S : a_M) : g_X12_isSlip 168 [.null, .null, .null, .null, .null, .int (a5), .int (a6), .int (a7), .int (a8), .null] [] S = (if a6 < a5 then g_X12_isSlip 182 [.null, .null, .null, .null, .null, .null, .null, .int (a7), .int (a8), .null] [.int (a5)] S else g_X12_isSlip 182 [.null, .null, .null, .null, .null, .null, .null, .int (a7), .int (a8), .null] [.int (a6)] S) :=
  (a_unf0 none t_X12_isSlip c_X12_isSlip k_X12_isSlip 117 168 _ _ S).trans rfl
set_option maxRecDepth 8000 in
theorem b_X12_isSlip_182 (a7 : Int32) (a8 : Int32) (s0 : Int32) (S : a_M) : g_X12_isSlip 182 [.null, .null, .null, .null, .null, .null, .null, .int (a7), .int (a8), .null] [.int (s0)] S = (if a7 + a8 = s0 - 1 then some (some (.int (1)), S) else some (some (.int (0)), S)) :=
  (a_unf0 none t_X12_isSlip c_X12_isSlip k_X12_isSlip 117 182 _ _ S).trans rfl
def k_X12_standsFor : Nat → Bool := fun pc => bif Nat.beq pc 36 then true else bif Nat.beq pc 99 then true else bif Nat.beq pc 164 then true else false
noncomputable def g_X12_standsFor : a_K := a_G none t_X12_standsFor c_X12_standsFor
set_option maxRecDepth 8000 in
theorem e_X12_standsFor (a1 : Int32) (a2 : Int32) (a3 : Int32) (S : a_M) : x_X12_standsFor [.ref 56, .int a1, .int a2, .int a3] S = (if a1 < 0 ∨ 30 ≤ a1.toNatClampNeg then none else (if S.1 68 a1.toNatClampNeg < 0 ∨ 60 ≤ (S.1 68 a1.toNatClampNeg).toNatClampNeg then none else (if a2 < 0 ∨ 60 ≤ a2.toNatClampNeg then none else (if S.1 64 a2.toNatClampNeg < a3 + (S.1 64 (S.1 68 a1.toNatClampNeg).toNatClampNeg) then g_X12_standsFor 36 [.ref 56, .null, .int (a2), .int (a3), .int (S.1 68 a1.toNatClampNeg), .int (0), .int (0), .null, .null, .null] [] S else g_X12_standsFor 36 [.ref 56, .null, .int (a2), .int (a3), .int (S.1 68 a1.toNatClampNeg), .int (1), .int (0), .null, .null, .null] [] S)))) :=
  (show x_X12_standsFor [.ref 56, .int a1, .int a2, .int a3] S = g_X12_standsFor 0 [.ref 56, .int (a1), .int (a2), .int (a3), .null, .null, .null, .null, .null, .null] [] S from rfl).trans ((a_unf0 none t_X12_standsFor c_X12_standsFor k_X12_standsFor 103 0 _ _ S).trans rfl)
set_option maxRecDepth 8000 in
theorem b_X12_standsFor_36 (a2 : Int32) (a3 : Int32) (a4 : Int32) (a5 : Int32) (a6 : Int32) (S : a_M) : g_X12_standsFor 36 [.ref 56, .null, .int (a2), .int (a3), .int (a4), .int (a5), .int (a6), .null, .null, .null] [] S = (if a4 < 0 ∨ 60 ≤ a4.toNatClampNeg then none else (if a6 < S.1 64 a4.toNatClampNeg then (if a5 = 0 then g_X12_standsFor 164 [.ref 56, .null, .null, .null, .int (a4), .int (a5), .null, .null, .null, .null] [] S else (if (4 * a4) + a6 < 0 ∨ 240 ≤ ((4 * a4) + a6).toNatClampNeg then none else (if ((4 * a2) + a3) + a6 < 0 ∨ 240 ≤ (((4 * a2) + a3) + a6).toNatClampNeg then none else (if S.1 65 ((4 * a4) + a6).toNatClampNeg = S.1 65 (((4 * a2) + a3) + a6).toNatClampNeg then g_X12_standsFor 99 [.ref 56, .null, .int (a2), .int (a3), .int (a4), .int (1), .int (a6), .int ((4 * a4) + a6), .int (((4 * a2) + a3) + a6), .int (0)] [] S else g_X12_standsFor 99 [.ref 56, .null, .int (a2), .int (a3), .int (a4), .int (0), .int (a6), .int ((4 * a4) + a6), .int (((4 * a2) + a3) + a6), .int (0)] [] S)))) else g_X12_standsFor 164 [.ref 56, .null, .null, .null, .int (a4), .int (a5), .null, .null, .null, .null] [] S)) :=
  (a_unf0 none t_X12_standsFor c_X12_standsFor k_X12_standsFor 103 36 _ _ S).trans rfl
set_option maxRecDepth 8000 in
theorem b_X12_standsFor_99 (a2 : Int32) (a3 : Int32) (a4 : Int32) (a5 : Int32) (a6 : Int32) (a7 : Int32) (a8 : Int32) (a9 : Int32) (S : a_M) : g_X12_standsFor 99 [.ref 56, .null, .int (a2), .int (a3), .int (a4), .int (a5), .int (a6), .int (a7), .int (a8), .int (a9)] [] S = (if a7 < 0 ∨ 240 ≤ a7.toNatClampNeg then none else (if a9 < S.1 65 a7.toNatClampNeg then (if a5 = 0 then g_X12_standsFor 36 [.ref 56, .null, .int (a2), .int (a3), .int (a4), .int (a5), .int (a6 + 1), .null, .null, .null] [] S else (if (16 * a7) + a9 < 0 ∨ 3840 ≤ ((16 * a7) + a9).toNatClampNeg then none else (if (16 * a8) + a9 < 0 ∨ 3840 ≤ ((16 * a8) + a9).toNatClampNeg then none else (if S.1 66 ((16 * a7) + a9).toNatClampNeg = S.1 66 ((16 * a8) + a9).toNatClampNeg then g_X12_standsFor 99 [.ref 56, .null, .int (a2), .int (a3), .int (a4), .int (1), .int (a6), .int (a7), .int (a8), .int (a9 + 1)] [] S else g_X12_standsFor 99 [.ref 56, .null, .int (a2), .int (a3), .int (a4), .int (0), .int (a6), .int (a7), .int (a8), .int (a9 + 1)] [] S)))) else g_X12_standsFor 36 [.ref 56, .null, .int (a2), .int (a3), .int (a4), .int (a5), .int (a6 + 1), .null, .null, .null] [] S)) :=
  (a_unf0 none t_X12_standsFor c_X12_standsFor k_X12_standsFor 103 99 _ _ S).trans rfl
set_option maxRecDepth 8000 in
theorem b_X12_standsFor_164 (a4 : Int32) (a5 : Int32) (S : a_M) : g_X12_standsFor 164 [.ref 56, .null, .null, .null, .int (a4), .int (a5), .null, .null, .null, .null] [] S = (if a5 = 0 then some (some (.int (0)), S) else (if a4 < 0 ∨ 60 ≤ a4.toNatClampNeg then none else some (some (.int (S.1 64 a4.toNatClampNeg)), S))) :=
  (a_unf0 none t_X12_standsFor c_X12_standsFor k_X12_standsFor 103 164 _ _ S).trans rfl
def k_X12_stepAt : Nat → Bool := fun pc => bif Nat.beq pc 75 then true else bif Nat.beq pc 112 then true else bif Nat.beq pc 166 then true else false
noncomputable def g_X12_stepAt : a_K := a_G none t_X12_stepAt c_X12_stepAt
set_option maxRecDepth 8000 in
theorem e_X12_stepAt (a1 : Int32) (a2 : Int32) (a3 : Int32) (S : a_M) : x_X12_stepAt [.ref 56, .int a1, .int a2, .int a3] S = (if a3 < 0 ∨ 60 ≤ a3.toNatClampNeg then none else (if a2 < S.1 64 a3.toNatClampNeg then (if ((5 * (a1 + 1)) + a2) + 1 < 0 ∨ 75 ≤ (((5 * (a1 + 1)) + a2) + 1).toNatClampNeg then none else ((x_X12_isWordOf [.ref 56, .int (a1), .int (a3), .int (a2)] S).bind fun q => g_X12_stepAt 37 [.ref 56, .int (a1), .int (a2), .int (a3), .int (1000000), .int (S.1 95 (((5 * (a1 + 1)) + a2) + 1).toNatClampNeg), .null, .null] (q.1.toList ++ []) q.2)) else g_X12_stepAt 166 [.ref 56, .int (a1), .int (a2), .null, .int (1000000), .null, .null, .null] [] S)) :=
  (show x_X12_stepAt [.ref 56, .int a1, .int a2, .int a3] S = g_X12_stepAt 0 [.ref 56, .int (a1), .int (a2), .int (a3), .null, .null, .null, .null] [] S from rfl).trans ((a_unf0 none t_X12_stepAt c_X12_stepAt k_X12_stepAt 115 0 _ _ S).trans rfl)
set_option maxRecDepth 8000 in
theorem b_X12_stepAt_37 (a1 : Int32) (a2 : Int32) (a3 : Int32) (a4 : Int32) (a5 : Int32) (s0 : Int32) (S : a_M) : g_X12_stepAt 37 [.ref 56, .int (a1), .int (a2), .int (a3), .int (a4), .int (a5), .null, .null] [.int (s0)] S = (if s0 = 0 then ((x_X12_isSlip [.ref 56, .int (a1), .int (a3), .int (a2)] S).bind fun q => g_X12_stepAt 54 [.ref 56, .int (a1), .int (a2), .int (a3), .int (a4), .int (a5), .null, .null] (q.1.toList ++ []) q.2) else g_X12_stepAt 75 [.ref 56, .int (a1), .int (a2), .int (a3), .int (a5), .null, .int (0), .null] [] S) :=
  (a_unf0 none t_X12_stepAt c_X12_stepAt k_X12_stepAt 115 37 _ _ S).trans rfl
set_option maxRecDepth 8000 in
theorem b_X12_stepAt_54 (a1 : Int32) (a2 : Int32) (a3 : Int32) (a4 : Int32) (a5 : Int32) (s0 : Int32) (S : a_M) : g_X12_stepAt 54 [.ref 56, .int (a1), .int (a2), .int (a3), .int (a4), .int (a5), .null, .null] [.int (s0)] S = (if s0 = 0 then g_X12_stepAt 75 [.ref 56, .int (a1), .int (a2), .int (a3), .int (a4), .null, .int (0), .null] [] S else (if a5 + 3 < a4 then g_X12_stepAt 75 [.ref 56, .int (a1), .int (a2), .int (a3), .int (a5 + 3), .null, .int (0), .null] [] S else g_X12_stepAt 75 [.ref 56, .int (a1), .int (a2), .int (a3), .int (a4), .null, .int (0), .null] [] S)) :=
  (a_unf0 none t_X12_stepAt c_X12_stepAt k_X12_stepAt 115 54 _ _ S).trans rfl
set_option maxRecDepth 8000 in
theorem b_X12_stepAt_75 (a1 : Int32) (a2 : Int32) (a3 : Int32) (a4 : Int32) (a6 : Int32) (S : a_M) : g_X12_stepAt 75 [.ref 56, .int (a1), .int (a2), .int (a3), .int (a4), .null, .int (a6), .null] [] S = (if a6 < S.1 56 14 then (if a6 < 0 ∨ 30 ≤ a6.toNatClampNeg then none else ((x_X12_isWordOf [.ref 56, .int (a1), .int (S.1 67 a6.toNatClampNeg), .int (0)] S).bind fun q => g_X12_stepAt 97 [.ref 56, .int (a1), .int (a2), .int (a3), .int (a4), .null, .int (a6), .null] (q.1.toList ++ []) q.2)) else g_X12_stepAt 166 [.ref 56, .int (a1), .int (a2), .null, .int (a4), .null, .null, .null] [] S) :=
  (a_unf0 none t_X12_stepAt c_X12_stepAt k_X12_stepAt 115 75 _ _ S).trans rfl
set_option maxRecDepth 8000 in
theorem b_X12_stepAt_97 (a1 : Int32) (a2 : Int32) (a3 : Int32) (a4 : Int32) (a6 : Int32) (s0 : Int32) (S : a_M) : g_X12_stepAt 97 [.ref 56, .int (a1), .int (a2), .int (a3), .int (a4), .null, .int (a6), .null] [.int (s0)] S = (if s0 = 0 then g_X12_stepAt 112 [.ref 56, .int (a1), .int (a2), .int (a3), .int (a4), .null, .int (a6), .null] [.int (0)] S else ((x_X12_standsFor [.ref 56, .int (a6), .int (a3), .int (a2)] S).bind fun q => g_X12_stepAt 108 [.ref 56, .int (a1), .int (a2), .int (a3), .int (a4), .null, .int (a6), .null] (q.1.toList ++ []) q.2)) :=
  (a_unf0 none t_X12_stepAt c_X12_stepAt k_X12_stepAt 115 97 _ _ S).trans rfl
set_option maxRecDepth 8000 in
theorem b_X12_stepAt_108 (a1 : Int32) (a2 : Int32) (a3 : Int32) (a4 : Int32) (a6 : Int32) (s0 : Int32) (S : a_M) : g_X12_stepAt 108 [.ref 56, .int (a1), .int (a2), .int (a3), .int (a4), .null, .int (a6), .null] [.int (s0)] S = g_X12_stepAt 112 [.ref 56, .int (a1), .int (a2), .int (a3), .int (a4), .null, .int (a6), .null] [.int (s0)] S :=
  (a_unf0 none t_X12_stepAt c_X12_stepAt k_X12_stepAt 115 108 _ _ S).trans rfl
set_option maxRecDepth 8000 in
theorem b_X12_stepAt_112 (a1 : Int32) (a2 : Int32) (a3 : Int32) (a4 : Int32) (a6 : Int32) (s0 : Int32) (S : a_M) : g_X12_stepAt 112 [.ref 56, .int (a1), .int (a2), .int (a3), .int (a4), .null, .int (a6), .null] [.int (s0)] S = (if (0 : Int32) < s0 then (if ((5 * (a1 + 1)) + a2) + s0 < 0 ∨ 75 ≤ (((5 * (a1 + 1)) + a2) + s0).toNatClampNeg then none else (if (S.1 95 (((5 * (a1 + 1)) + a2) + s0).toNatClampNeg) + 1 < a4 then (if ((5 * (a1 + 1)) + a2) + s0 < 0 ∨ 75 ≤ (((5 * (a1 + 1)) + a2) + s0).toNatClampNeg then none else g_X12_stepAt 75 [.ref 56, .int (a1), .int (a2), .int (a3), .int ((S.1 95 (((5 * (a1 + 1)) + a2) + s0).toNatClampNeg) + 1), .null, .int (a6 + 1), .null] [] S) else g_X12_stepAt 75 [.ref 56, .int (a1), .int (a2), .int (a3), .int (a4), .null, .int (a6 + 1), .null] [] S)) else g_X12_stepAt 75 [.ref 56, .int (a1), .int (a2), .int (a3), .int (a4), .null, .int (a6 + 1), .null] [] S) :=
  (a_unf0 none t_X12_stepAt c_X12_stepAt k_X12_stepAt 115 112 _ _ S).trans rfl
set_option maxRecDepth 8000 in
theorem b_X12_stepAt_166 (a1 : Int32) (a2 : Int32) (a4 : Int32) (S : a_M) : g_X12_stepAt 166 [.ref 56, .int (a1), .int (a2), .null, .int (a4), .null, .null, .null] [] S = (if (5 * a1) + a2 < 0 ∨ 75 ≤ ((5 * a1) + a2).toNatClampNeg then none else some (none, (a_wi S 95 (((5 * a1) + a2).toNatClampNeg) (a4)))) :=
  (a_unf0 none t_X12_stepAt c_X12_stepAt k_X12_stepAt 115 166 _ _ S).trans rfl
def k_X12_nameCost : Nat → Bool := fun pc => bif Nat.beq pc 3 then true else bif Nat.beq pc 48 then true else bif Nat.beq pc 62 then true else false
noncomputable def g_X12_nameCost : a_K := a_G none t_X12_nameCost c_X12_nameCost
set_option maxRecDepth 8000 in
theorem e_X12_nameCost (a1 : Int32) (a2 : Int32) (a3 : Int32) (S : a_M) : x_X12_nameCost [.ref 56, .int a1, .int a2, .int a3] S = g_X12_nameCost 3 [.ref 56, .int (a1), .int (a2), .int (a3), .int (0), .null] [] S :=
  (show x_X12_nameCost [.ref 56, .int a1, .int a2, .int a3] S = g_X12_nameCost 0 [.ref 56, .int (a1), .int (a2), .int (a3), .null, .null] [] S from rfl).trans ((a_unf0 none t_X12_nameCost c_X12_nameCost k_X12_nameCost 56 0 _ _ S).trans rfl)
set_option maxRecDepth 8000 in
theorem b_X12_nameCost_3 (a1 : Int32) (a2 : Int32) (a3 : Int32) (a4 : Int32) (S : a_M) : g_X12_nameCost 3 [.ref 56, .int (a1), .int (a2), .int (a3), .int (a4), .null] [] S = (if (4 : Int32) < a4 then g_X12_nameCost 48 [.ref 56, .int (a1), .int (a2), .null, .int (a3 - 1), .null] [] S else (if a1 < 0 ∨ 60 ≤ a1.toNatClampNeg then none else (if a4 = S.1 64 a1.toNatClampNeg then (if (5 * a3) + a4 < 0 ∨ 75 ≤ ((5 * a3) + a4).toNatClampNeg then none else g_X12_nameCost 3 [.ref 56, .int (a1), .int (a2), .int (a3), .int (a4 + 1), .null] [] (a_wi S 95 (((5 * a3) + a4).toNatClampNeg) (0))) else (if (5 * a3) + a4 < 0 ∨ 75 ≤ ((5 * a3) + a4).toNatClampNeg then none else g_X12_nameCost 3 [.ref 56, .int (a1), .int (a2), .int (a3), .int (a4 + 1), .null] [] (a_wi S 95 (((5 * a3) + a4).toNatClampNeg) (1000000)))))) :=
  (a_unf0 none t_X12_nameCost c_X12_nameCost k_X12_nameCost 56 3 _ _ S).trans rfl
set_option maxRecDepth 8000 in
theorem b_X12_nameCost_48 (a1 : Int32) (a2 : Int32) (a4 : Int32) (S : a_M) : g_X12_nameCost 48 [.ref 56, .int (a1), .int (a2), .null, .int (a4), .null] [] S = (if a4 < a2 then (if 5 * a2 < 0 ∨ 75 ≤ (5 * a2).toNatClampNeg then none else some (some (.int (S.1 95 (5 * a2).toNatClampNeg)), S)) else (if a1 < 0 ∨ 60 ≤ a1.toNatClampNeg then none else g_X12_nameCost 62 [.ref 56, .int (a1), .int (a2), .null, .int (a4), .int (S.1 64 a1.toNatClampNeg)] [] S)) :=
  (a_unf0 none t_X12_nameCost c_X12_nameCost k_X12_nameCost 56 48 _ _ S).trans rfl
set_option maxRecDepth 8000 in
theorem b_X12_nameCost_62 (a1 : Int32) (a2 : Int32) (a4 : Int32) (a5 : Int32) (S : a_M) : g_X12_nameCost 62 [.ref 56, .int (a1), .int (a2), .null, .int (a4), .int (a5)] [] S = (if a5 < 0 then g_X12_nameCost 48 [.ref 56, .int (a1), .int (a2), .null, .int (a4 + (-1)), .null] [] S else ((x_X12_stepAt [.ref 56, .int (a4), .int (a5), .int (a1)] S).bind fun q => g_X12_nameCost 76 [.ref 56, .int (a1), .int (a2), .null, .int (a4), .int (a5)] (q.1.toList ++ []) q.2)) :=
  (a_unf0 none t_X12_nameCost c_X12_nameCost k_X12_nameCost 56 62 _ _ S).trans rfl
set_option maxRecDepth 8000 in
theorem b_X12_nameCost_76 (a1 : Int32) (a2 : Int32) (a4 : Int32) (a5 : Int32) (S : a_M) : g_X12_nameCost 76 [.ref 56, .int (a1), .int (a2), .null, .int (a4), .int (a5)] [] S = g_X12_nameCost 62 [.ref 56, .int (a1), .int (a2), .null, .int (a4), .int (a5 + (-1))] [] S :=
  (a_unf0 none t_X12_nameCost c_X12_nameCost k_X12_nameCost 56 76 _ _ S).trans rfl
def k_X12_fitCost : Nat → Bool := fun pc => bif Nat.beq pc 26 then true else false
noncomputable def g_X12_fitCost : a_K := a_G none t_X12_fitCost c_X12_fitCost
set_option maxRecDepth 8000 in
theorem e_X12_fitCost (a1 : Int32) (a2 : Int32) (a3 : Int32) (a4 : Int32) (S : a_M) : x_X12_fitCost [.ref 56, .int a1, .int a2, .int a3, .int a4] S = (if a1 = 1 then (if a2 < 0 ∨ 20 ≤ a2.toNatClampNeg then none else ((x_X12_nameCost [.ref 56, .int (S.1 71 a2.toNatClampNeg), .int (a3), .int (a4)] S).bind fun q => g_X12_fitCost 18 [.null, .null, .null, .null, .null, .null, .null, .null] (q.1.toList ++ []) q.2)) else g_X12_fitCost 26 [.ref 56, .null, .int (a2), .int (a3), .int (a4), .int (1000000), .int (0), .null] [] S) :=
  (show x_X12_fitCost [.ref 56, .int a1, .int a2, .int a3, .int a4] S = g_X12_fitCost 0 [.ref 56, .int (a1), .int (a2), .int (a3), .int (a4), .null, .null, .null] [] S from rfl).trans ((a_unf0 none t_X12_fitCost c_X12_fitCost k_X12_fitCost 48 0 _ _ S).trans rfl)
set_option maxRecDepth 8000 in
theorem b_X12_fitCost_18 (s0 : Int32) (S : a_M) : g_X12_fitCost 18 [.null, .null, .null, .null, .null, .null, .null, .null] [.int (s0)] S = some (some (.int (s0)), S) :=
  (a_unf0 none t_X12_fitCost c_X12_fitCost k_X12_fitCost 48 18 _ _ S).trans rfl
set_option maxRecDepth 8000 in
theorem b_X12_fitCost_26 (a2 : Int32) (a3 : Int32) (a4 : Int32) (a5 : Int32) (a6 : Int32) (S : a_M) : g_X12_fitCost 26 [.ref 56, .null, .int (a2), .int (a3), .int (a4), .int (a5), .int (a6), .null] [] S = (if a2 < 0 ∨ 30 ≤ a2.toNatClampNeg then none else (if a6 < S.1 69 a2.toNatClampNeg then (if (4 * a2) + a6 < 0 ∨ 120 ≤ ((4 * a2) + a6).toNatClampNeg then none else ((x_X12_nameCost [.ref 56, .int (S.1 70 ((4 * a2) + a6).toNatClampNeg), .int (a3), .int (a4)] S).bind fun q => g_X12_fitCost 55 [.ref 56, .null, .int (a2), .int (a3), .int (a4), .int (a5), .int (a6), .null] (q.1.toList ++ []) q.2)) else some (some (.int (a5)), S))) :=
  (a_unf0 none t_X12_fitCost c_X12_fitCost k_X12_fitCost 48 26 _ _ S).trans rfl
set_option maxRecDepth 8000 in
theorem b_X12_fitCost_55 (a2 : Int32) (a3 : Int32) (a4 : Int32) (a5 : Int32) (a6 : Int32) (s0 : Int32) (S : a_M) : g_X12_fitCost 55 [.ref 56, .null, .int (a2), .int (a3), .int (a4), .int (a5), .int (a6), .null] [.int (s0)] S = (if s0 < a5 then g_X12_fitCost 26 [.ref 56, .null, .int (a2), .int (a3), .int (a4), .int (s0), .int (a6 + 1), .null] [] S else g_X12_fitCost 26 [.ref 56, .null, .int (a2), .int (a3), .int (a4), .int (a5), .int (a6 + 1), .null] [] S) :=
  (a_unf0 none t_X12_fitCost c_X12_fitCost k_X12_fitCost 48 55 _ _ S).trans rfl
def k_X12_fits : Nat → Bool := fun pc => bif Nat.beq pc 26 then true else false
noncomputable def g_X12_fits : a_K := a_G none t_X12_fits c_X12_fits
set_option maxRecDepth 8000 in
theorem e_X12_fits (a1 : Int32) (a2 : Int32) (S : a_M) : x_X12_fits [.ref 56, .int a1, .int a2] S = ((x_X12_in [.int (a1), .int (0), .int (1)] S).bind fun q => g_X12_fits 6 [.ref 56, .int (a1), .int (a2), .null, .null] (q.1.toList ++ []) q.2) :=
  (show x_X12_fits [.ref 56, .int a1, .int a2] S = g_X12_fits 0 [.ref 56, .int (a1), .int (a2), .null, .null] [] S from rfl).trans ((a_unf0 none t_X12_fits c_X12_fits k_X12_fits 43 0 _ _ S).trans rfl)
set_option maxRecDepth 8000 in
theorem b_X12_fits_6 (a1 : Int32) (a2 : Int32) (s0 : Int32) (S : a_M) : g_X12_fits 6 [.ref 56, .int (a1), .int (a2), .null, .null] [.int (s0)] S = (if s0 = 0 then some (some (.int (-2)), S) else (if a1 = 0 then g_X12_fits 26 [.ref 56, .int (a1), .int (a2), .null, .null] [.int (S.1 56 17), .int (0), .int (a2)] S else g_X12_fits 26 [.ref 56, .int (a1), .int (a2), .null, .null] [.int (S.1 56 20), .int (0), .int (a2)] S)) :=
  (a_unf0 none t_X12_fits c_X12_fits k_X12_fits 43 6 _ _ S).trans rfl
set_option maxRecDepth 8000 in
theorem b_X12_fits_26 (a1 : Int32) (a2 : Int32) (s0 : Int32) (s1 : Int32) (s2 : Int32) (S : a_M) : g_X12_fits 26 [.ref 56, .int (a1), .int (a2), .null, .null] [.int (s2), .int (s1), .int (s0)] S = ((x_X12_in [.int (s0), .int (s1), .int (s2 - 1)] S).bind fun q => g_X12_fits 31 [.ref 56, .int (a1), .int (a2), .null, .null] (q.1.toList ++ []) q.2) :=
  (a_unf0 none t_X12_fits c_X12_fits k_X12_fits 43 26 _ _ S).trans rfl
set_option maxRecDepth 8000 in
theorem b_X12_fits_31 (a1 : Int32) (a2 : Int32) (s0 : Int32) (S : a_M) : g_X12_fits 31 [.ref 56, .int (a1), .int (a2), .null, .null] [.int (s0)] S = (if s0 = 0 then some (some (.int (-2)), S) else ((x_X12_taken [.ref 56] S).bind fun q => g_X12_fits 41 [.ref 56, .int (a1), .int (a2), .null, .null] (q.1.toList ++ []) q.2)) :=
  (a_unf0 none t_X12_fits c_X12_fits k_X12_fits 43 31 _ _ S).trans rfl
set_option maxRecDepth 8000 in
theorem b_X12_fits_41 (a1 : Int32) (a2 : Int32) (s0 : Int32) (S : a_M) : g_X12_fits 41 [.ref 56, .int (a1), .int (a2), .null, .null] [.int (s0)] S = (if s0 < 0 then some (some (.int (s0)), S) else ((x_X12_fitCost [.ref 56, .int (a1), .int (a2), .int (0), .int (s0)] S).bind fun q => g_X12_fits 56 [.null, .null, .null, .null, .null] (q.1.toList ++ []) q.2)) :=
  (a_unf0 none t_X12_fits c_X12_fits k_X12_fits 43 41 _ _ S).trans rfl
set_option maxRecDepth 8000 in
theorem b_X12_fits_56 (s0 : Int32) (S : a_M) : g_X12_fits 56 [.null, .null, .null, .null, .null] [.int (s0)] S = (if s0 < 1000000 then some (some (.int (s0)), S) else some (some (.int (-1)), S)) :=
  (a_unf0 none t_X12_fits c_X12_fits k_X12_fits 43 56 _ _ S).trans rfl
def k_X12_figures : Nat → Bool := fun pc => bif Nat.beq pc 2 then true else false
noncomputable def g_X12_figures : a_K := a_G none t_X12_figures c_X12_figures
set_option maxRecDepth 8000 in
theorem e_X12_figures (a1 : Int32) (S : a_M) : x_X12_figures [.ref 56, .int a1] S = g_X12_figures 2 [.ref 56, .int (a1), .int (0)] [] S :=
  (show x_X12_figures [.ref 56, .int a1] S = g_X12_figures 0 [.ref 56, .int (a1), .null] [] S from rfl).trans ((a_unf0 none t_X12_figures c_X12_figures k_X12_figures 26 0 _ _ S).trans rfl)
set_option maxRecDepth 8000 in
theorem b_X12_figures_2 (a1 : Int32) (a2 : Int32) (S : a_M) : g_X12_figures 2 [.ref 56, .int (a1), .int (a2)] [] S = (if a1 < 0 ∨ 14 ≤ a1.toNatClampNeg then none else (if a2 < S.1 61 a1.toNatClampNeg then (if (16 * a1) + a2 < 0 ∨ 224 ≤ ((16 * a1) + a2).toNatClampNeg then none else ((x_X12_in [.int (S.1 62 ((16 * a1) + a2).toNatClampNeg), .int (48), .int (57)] S).bind fun q => g_X12_figures 30 [.ref 56, .int (a1), .int (a2)] (q.1.toList ++ []) q.2)) else some (some (.int (a2)), S))) :=
  (a_unf0 none t_X12_figures c_X12_figures k_X12_figures 26 2 _ _ S).trans rfl
set_option maxRecDepth 8000 in
theorem b_X12_figures_30 (a1 : Int32) (a2 : Int32) (s0 : Int32) (S : a_M) : g_X12_figures 30 [.ref 56, .int (a1), .int (a2)] [.int (s0)] S = (if s0 = 0 then some (some (.int (a2)), S) else g_X12_figures 2 [.ref 56, .int (a1), .int (a2 + 1)] [] S) :=
  (a_unf0 none t_X12_figures c_X12_figures k_X12_figures 26 30 _ _ S).trans rfl
def k_X12_isNumber : Nat → Bool := fun pc => bif Nat.beq pc 49 then true else bif Nat.beq pc 53 then true else bif Nat.beq pc 54 then true else false
noncomputable def g_X12_isNumber : a_K := a_G none t_X12_isNumber c_X12_isNumber
set_option maxRecDepth 8000 in
theorem e_X12_isNumber (a1 : Int32) (S : a_M) : x_X12_isNumber [.ref 56, .int a1] S = ((x_X12_figures [.ref 56, .int (a1)] S).bind fun q => g_X12_isNumber 5 [.ref 56, .int (a1), .null, .null] (q.1.toList ++ []) q.2) :=
  (show x_X12_isNumber [.ref 56, .int a1] S = g_X12_isNumber 0 [.ref 56, .int (a1), .null, .null] [] S from rfl).trans ((a_unf0 none t_X12_isNumber c_X12_isNumber k_X12_isNumber 47 0 _ _ S).trans rfl)
set_option maxRecDepth 8000 in
theorem b_X12_isNumber_5 (a1 : Int32) (s0 : Int32) (S : a_M) : g_X12_isNumber 5 [.ref 56, .int (a1), .null, .null] [.int (s0)] S = (if a1 < 0 ∨ 14 ≤ a1.toNatClampNeg then none else (if S.1 61 a1.toNatClampNeg = s0 then g_X12_isNumber 49 [.null, .null, .int (s0), .null] [] S else (if a1 < 0 ∨ 14 ≤ a1.toNatClampNeg then none else (if S.1 61 a1.toNatClampNeg = s0 + 1 then (if (16 * a1) + s0 < 0 ∨ 224 ≤ ((16 * a1) + s0).toNatClampNeg then none else ((x_X12_in [.int (S.1 62 ((16 * a1) + s0).toNatClampNeg), .int (97), .int (122)] S).bind fun q => g_X12_isNumber 46 [.null, .null, .int (s0), .null] (q.1.toList ++ []) q.2)) else g_X12_isNumber 53 [.null, .null, .int (s0), .null] [] S)))) :=
  (a_unf0 none t_X12_isNumber c_X12_isNumber k_X12_isNumber 47 5 _ _ S).trans rfl
set_option maxRecDepth 8000 in
theorem b_X12_isNumber_46 (a2 : Int32) (s0 : Int32) (S : a_M) : g_X12_isNumber 46 [.null, .null, .int (a2), .null] [.int (s0)] S = (if s0 = 0 then g_X12_isNumber 53 [.null, .null, .int (a2), .null] [] S else g_X12_isNumber 49 [.null, .null, .int (a2), .null] [] S) :=
  (a_unf0 none t_X12_isNumber c_X12_isNumber k_X12_isNumber 47 46 _ _ S).trans rfl
set_option maxRecDepth 8000 in
theorem b_X12_isNumber_49 (a2 : Int32) (S : a_M) : g_X12_isNumber 49 [.null, .null, .int (a2), .null] [] S = g_X12_isNumber 54 [.null, .null, .int (a2), .null] [.int (1)] S :=
  (a_unf0 none t_X12_isNumber c_X12_isNumber k_X12_isNumber 47 49 _ _ S).trans rfl
set_option maxRecDepth 8000 in
theorem b_X12_isNumber_53 (a2 : Int32) (S : a_M) : g_X12_isNumber 53 [.null, .null, .int (a2), .null] [] S = g_X12_isNumber 54 [.null, .null, .int (a2), .null] [.int (0)] S :=
  (a_unf0 none t_X12_isNumber c_X12_isNumber k_X12_isNumber 47 53 _ _ S).trans rfl
set_option maxRecDepth 8000 in
theorem b_X12_isNumber_54 (a2 : Int32) (s0 : Int32) (S : a_M) : g_X12_isNumber 54 [.null, .null, .int (a2), .null] [.int (s0)] S = ((x_X12_in [.int (a2), .int (1), .int (5)] S).bind fun q => g_X12_isNumber 61 [.null, .null, .null, .int (s0)] (q.1.toList ++ []) q.2) :=
  (a_unf0 none t_X12_isNumber c_X12_isNumber k_X12_isNumber 47 54 _ _ S).trans rfl
set_option maxRecDepth 8000 in
theorem b_X12_isNumber_61 (a3 : Int32) (s0 : Int32) (S : a_M) : g_X12_isNumber 61 [.null, .null, .null, .int (a3)] [.int (s0)] S = (if s0 = 0 then some (some (.int (0)), S) else (if a3 = 0 then some (some (.int (0)), S) else some (some (.int (1)), S))) :=
  (a_unf0 none t_X12_isNumber c_X12_isNumber k_X12_isNumber 47 61 _ _ S).trans rfl
def k_X12_unitWordAt : Nat → Bool := fun pc => bif Nat.beq pc 4 then true else false
noncomputable def g_X12_unitWordAt : a_K := a_G none t_X12_unitWordAt c_X12_unitWordAt
set_option maxRecDepth 8000 in
theorem e_X12_unitWordAt (a1 : Int32) (S : a_M) : x_X12_unitWordAt [.ref 56, .int a1] S = g_X12_unitWordAt 4 [.ref 56, .int (a1), .int (-1), .int (0)] [] S :=
  (show x_X12_unitWordAt [.ref 56, .int a1] S = g_X12_unitWordAt 0 [.ref 56, .int (a1), .null, .null] [] S from rfl).trans ((a_unf0 none t_X12_unitWordAt c_X12_unitWordAt k_X12_unitWordAt 30 0 _ _ S).trans rfl)
set_option maxRecDepth 8000 in
theorem b_X12_unitWordAt_4 (a1 : Int32) (a2 : Int32) (a3 : Int32) (S : a_M) : g_X12_unitWordAt 4 [.ref 56, .int (a1), .int (a2), .int (a3)] [] S = (if a3 < S.1 56 24 then (if a3 < 0 ∨ 10 ≤ a3.toNatClampNeg then none else ((x_X12_isWordOf [.ref 56, .int (a1), .int (S.1 74 a3.toNatClampNeg), .int (0)] S).bind fun q => g_X12_unitWordAt 24 [.ref 56, .int (a1), .int (a2), .int (a3)] (q.1.toList ++ []) q.2)) else some (some (.int (a2)), S)) :=
  (a_unf0 none t_X12_unitWordAt c_X12_unitWordAt k_X12_unitWordAt 30 4 _ _ S).trans rfl
set_option maxRecDepth 8000 in
theorem b_X12_unitWordAt_24 (a1 : Int32) (a2 : Int32) (a3 : Int32) (s0 : Int32) (S : a_M) : g_X12_unitWordAt 24 [.ref 56, .int (a1), .int (a2), .int (a3)] [.int (s0)] S = (if s0 = 0 then g_X12_unitWordAt 4 [.ref 56, .int (a1), .int (a2), .int (a3 + 1)] [] S else (if a3 < 0 ∨ 10 ≤ a3.toNatClampNeg then none else g_X12_unitWordAt 4 [.ref 56, .int (a1), .int (S.1 74 a3.toNatClampNeg), .int (a3 + 1)] [] S)) :=
  (a_unf0 none t_X12_unitWordAt c_X12_unitWordAt k_X12_unitWordAt 30 24 _ _ S).trans rfl
def k_X12_rowCost : Nat → Bool := fun pc => bif Nat.beq pc 120 then true else bif Nat.beq pc 129 then true else bif Nat.beq pc 147 then true else bif Nat.beq pc 171 then true else false
noncomputable def g_X12_rowCost : a_K := a_G none t_X12_rowCost c_X12_rowCost
set_option maxRecDepth 8000 in
theorem e_X12_rowCost (a1 : Int32) (a2 : Int32) (a3 : Int32) (S : a_M) : x_X12_rowCost [.ref 56, .int a1, .int a2, .int a3] S = (if a1 = 0 then (if a3 - a2 = 1 then ((x_X12_isNumber [.ref 56, .int (a2)] (a_wi S 56 55 (-1))).bind fun q => g_X12_rowCost 25 [.null, .null, .null, .null, .null, .null, .null, .null, .null] (q.1.toList ++ []) q.2) else some (some (.int (1000000)), (a_wi S 56 55 (-1)))) else (if a1 = 2 then (if a3 - a2 = 2 then ((x_X12_unitWordAt [.ref 56, .int (a2)] (a_wi S 56 55 (-1))).bind fun q => g_X12_rowCost 51 [.ref 56, .null, .int (a2), .null, .null, .null, .null, .null, .null] (q.1.toList ++ []) q.2) else some (some (.int (1000000)), (a_wi S 56 55 (-1)))) else (if a1 = 4 then (if a3 - a2 = 1 then ((x_X12_figures [.ref 56, .int (a2)] (a_wi S 56 55 (-1))).bind fun q => g_X12_rowCost 89 [.ref 56, .null, .int (a2), .null, .null, .null, .null, .null, .null] (q.1.toList ++ []) q.2) else some (some (.int (1000000)), (a_wi S 56 55 (-1)))) else (if a1 = 1 then g_X12_rowCost 120 [.ref 56, .null, .int (a2), .int (a3), .int (a3 - a2), .null, .null, .null, .null] [.int (0)] (a_wi S 56 55 (-1)) else g_X12_rowCost 120 [.ref 56, .null, .int (a2), .int (a3), .int (a3 - a2), .null, .null, .null, .null] [.int (1)] (a_wi S 56 55 (-1)))))) :=
  (show x_X12_rowCost [.ref 56, .int a1, .int a2, .int a3] S = g_X12_rowCost 0 [.ref 56, .int (a1), .int (a2), .int (a3), .null, .null, .null, .null, .null] [] S from rfl).trans ((a_unf0 none t_X12_rowCost c_X12_rowCost k_X12_rowCost 109 0 _ _ S).trans rfl)
set_option maxRecDepth 8000 in
theorem b_X12_rowCost_25 (s0 : Int32) (S : a_M) : g_X12_rowCost 25 [.null, .null, .null, .null, .null, .null, .null, .null, .null] [.int (s0)] S = (if s0 = 0 then some (some (.int (1000000)), S) else some (some (.int (0)), S)) :=
  (a_unf0 none t_X12_rowCost c_X12_rowCost k_X12_rowCost 109 25 _ _ S).trans rfl
set_option maxRecDepth 8000 in
theorem b_X12_rowCost_51 (a2 : Int32) (s0 : Int32) (S : a_M) : g_X12_rowCost 51 [.ref 56, .null, .int (a2), .null, .null, .null, .null, .null, .null] [.int (s0)] S = (if s0 < 0 then some (some (.int (1000000)), S) else (if a2 + 1 < 0 ∨ 14 ≤ (a2 + 1).toNatClampNeg then none else (if (4 : Int32) < S.1 61 (a2 + 1).toNatClampNeg then some (some (.int (1000000)), S) else some (some (.int (0)), S)))) :=
  (a_unf0 none t_X12_rowCost c_X12_rowCost k_X12_rowCost 109 51 _ _ S).trans rfl
set_option maxRecDepth 8000 in
theorem b_X12_rowCost_89 (a2 : Int32) (s0 : Int32) (S : a_M) : g_X12_rowCost 89 [.ref 56, .null, .int (a2), .null, .null, .null, .null, .null, .null] [.int (s0)] S = (if s0 = 5 then (if a2 < 0 ∨ 14 ≤ a2.toNatClampNeg then none else (if S.1 61 a2.toNatClampNeg = 5 then some (some (.int (0)), S) else some (some (.int (1000000)), S))) else some (some (.int (1000000)), S)) :=
  (a_unf0 none t_X12_rowCost c_X12_rowCost k_X12_rowCost 109 89 _ _ S).trans rfl
set_option maxRecDepth 8000 in
theorem b_X12_rowCost_120 (a2 : Int32) (a3 : Int32) (a4 : Int32) (s0 : Int32) (S : a_M) : g_X12_rowCost 120 [.ref 56, .null, .int (a2), .int (a3), .int (a4), .null, .null, .null, .null] [.int (s0)] S = g_X12_rowCost 129 [.ref 56, .null, .int (a2), .int (a3), .int (a4), .int (s0), .int (1000000), .int (0), .null] [] S :=
  (a_unf0 none t_X12_rowCost c_X12_rowCost k_X12_rowCost 109 120 _ _ S).trans rfl
set_option maxRecDepth 8000 in
theorem b_X12_rowCost_129 (a2 : Int32) (a3 : Int32) (a4 : Int32) (a5 : Int32) (a6 : Int32) (a7 : Int32) (S : a_M) : g_X12_rowCost 129 [.ref 56, .null, .int (a2), .int (a3), .int (a4), .int (a5), .int (a6), .int (a7), .null] [] S = (if a5 = 0 then g_X12_rowCost 147 [.ref 56, .null, .int (a2), .int (a3), .int (a4), .int (a5), .int (a6), .int (a7), .null] [.int (S.1 56 17), .int (a7)] S else g_X12_rowCost 147 [.ref 56, .null, .int (a2), .int (a3), .int (a4), .int (a5), .int (a6), .int (a7), .null] [.int (S.1 56 20), .int (a7)] S) :=
  (a_unf0 none t_X12_rowCost c_X12_rowCost k_X12_rowCost 109 129 _ _ S).trans rfl
set_option maxRecDepth 8000 in
theorem b_X12_rowCost_147 (a2 : Int32) (a3 : Int32) (a4 : Int32) (a5 : Int32) (a6 : Int32) (a7 : Int32) (s0 : Int32) (s1 : Int32) (S : a_M) : g_X12_rowCost 147 [.ref 56, .null, .int (a2), .int (a3), .int (a4), .int (a5), .int (a6), .int (a7), .null] [.int (s1), .int (s0)] S = (if s0 < s1 then (if (4 : Int32) < a4 then g_X12_rowCost 171 [.ref 56, .null, .int (a2), .int (a3), .int (a4), .int (a5), .int (a6), .int (a7), .null] [.int (1000000)] S else ((x_X12_fitCost [.ref 56, .int (a5), .int (a7), .int (a2), .int (a3)] S).bind fun q => g_X12_rowCost 171 [.ref 56, .null, .int (a2), .int (a3), .int (a4), .int (a5), .int (a6), .int (a7), .null] (q.1.toList ++ []) q.2)) else some (some (.int (a6)), S)) :=
  (a_unf0 none t_X12_rowCost c_X12_rowCost k_X12_rowCost 109 147 _ _ S).trans rfl
set_option maxRecDepth 8000 in
theorem b_X12_rowCost_171 (a2 : Int32) (a3 : Int32) (a4 : Int32) (a5 : Int32) (a6 : Int32) (a7 : Int32) (s0 : Int32) (S : a_M) : g_X12_rowCost 171 [.ref 56, .null, .int (a2), .int (a3), .int (a4), .int (a5), .int (a6), .int (a7), .null] [.int (s0)] S = (if s0 < a6 then g_X12_rowCost 129 [.ref 56, .null, .int (a2), .int (a3), .int (a4), .int (a5), .int (s0), .int (a7 + 1), .null] [] (a_wi S 56 55 (a7)) else g_X12_rowCost 129 [.ref 56, .null, .int (a2), .int (a3), .int (a4), .int (a5), .int (a6), .int (a7 + 1), .null] [] S) :=
  (a_unf0 none t_X12_rowCost c_X12_rowCost k_X12_rowCost 109 171 _ _ S).trans rfl
def k_X12_offer : Nat → Bool := fun pc => bif Nat.beq pc 31 then true else bif Nat.beq pc 72 then true else bif Nat.beq pc 97 then true else bif Nat.beq pc 121 then true else false
noncomputable def g_X12_offer : a_K := a_G none t_X12_offer c_X12_offer
set_option maxRecDepth 8000 in
theorem e_X12_offer (a1 : Int32) (a2 : Int32) (a3 : Int32) (a4 : Int32) (a5 : Int32) (a6 : Int32) (a7 : Int32) (S : a_M) : x_X12_offer [.ref 56, .int a1, .int a2, .int a3, .int a4, .int a5, .int a6, .int a7] S = (if a1 < 0 ∨ 90 ≤ a1.toNatClampNeg then none else (if S.1 96 a1.toNatClampNeg < a3 then some (none, S) else (if a1 < 0 ∨ 90 ≤ a1.toNatClampNeg then none else (if a3 < S.1 96 a1.toNatClampNeg then g_X12_offer 31 [.ref 56, .int (a1), .int (a2), .int (a3), .int (a4), .int (a5), .int (a6), .int (a7), .int (-1), .int (a2), .null] [] S else g_X12_offer 31 [.ref 56, .int (a1), .int (a2), .int (a3), .int (a4), .int (a5), .int (a6), .int (a7), .int (0), .int (a2), .null] [] S)))) :=
  (show x_X12_offer [.ref 56, .int a1, .int a2, .int a3, .int a4, .int a5, .int a6, .int a7] S = g_X12_offer 0 [.ref 56, .int (a1), .int (a2), .int (a3), .int (a4), .int (a5), .int (a6), .int (a7), .null, .null, .null] [] S from rfl).trans ((a_unf0 none t_X12_offer c_X12_offer k_X12_offer 101 0 _ _ S).trans rfl)
set_option maxRecDepth 8000 in
theorem b_X12_offer_31 (a1 : Int32) (a2 : Int32) (a3 : Int32) (a4 : Int32) (a5 : Int32) (a6 : Int32) (a7 : Int32) (a8 : Int32) (a9 : Int32) (S : a_M) : g_X12_offer 31 [.ref 56, .int (a1), .int (a2), .int (a3), .int (a4), .int (a5), .int (a6), .int (a7), .int (a8), .int (a9), .null] [] S = (if a9 < S.1 56 6 then (if a8 = 0 then (if a9 < a2 + a5 then g_X12_offer 72 [.ref 56, .int (a1), .int (a2), .int (a3), .int (a4), .int (a5), .int (a6), .int (a7), .null, .int (a9), .null] [.int (a6)] S else (if (14 * a7) + a9 < 0 ∨ 1260 ≤ ((14 * a7) + a9).toNatClampNeg then none else g_X12_offer 72 [.ref 56, .int (a1), .int (a2), .int (a3), .int (a4), .int (a5), .int (a6), .int (a7), .null, .int (a9), .null] [.int (S.1 98 ((14 * a7) + a9).toNatClampNeg)] S)) else g_X12_offer 97 [.ref 56, .int (a1), .int (a2), .int (a3), .int (a4), .int (a5), .int (a6), .int (a7), .int (a8), .null, .null] [] S) else g_X12_offer 97 [.ref 56, .int (a1), .int (a2), .int (a3), .int (a4), .int (a5), .int (a6), .int (a7), .int (a8), .null, .null] [] S) :=
  (a_unf0 none t_X12_offer c_X12_offer k_X12_offer 101 31 _ _ S).trans rfl
set_option maxRecDepth 8000 in
theorem b_X12_offer_72 (a1 : Int32) (a2 : Int32) (a3 : Int32) (a4 : Int32) (a5 : Int32) (a6 : Int32) (a7 : Int32) (a9 : Int32) (s0 : Int32) (S : a_M) : g_X12_offer 72 [.ref 56, .int (a1), .int (a2), .int (a3), .int (a4), .int (a5), .int (a6), .int (a7), .null, .int (a9), .null] [.int (s0)] S = (if (14 * a1) + a9 < 0 ∨ 1260 ≤ ((14 * a1) + a9).toNatClampNeg then none else g_X12_offer 31 [.ref 56, .int (a1), .int (a2), .int (a3), .int (a4), .int (a5), .int (a6), .int (a7), .int (s0 - (S.1 98 ((14 * a1) + a9).toNatClampNeg)), .int (a9 + 1), .null] [] S) :=
  (a_unf0 none t_X12_offer c_X12_offer k_X12_offer 101 72 _ _ S).trans rfl
set_option maxRecDepth 8000 in
theorem b_X12_offer_97 (a1 : Int32) (a2 : Int32) (a3 : Int32) (a4 : Int32) (a5 : Int32) (a6 : Int32) (a7 : Int32) (a8 : Int32) (S : a_M) : g_X12_offer 97 [.ref 56, .int (a1), .int (a2), .int (a3), .int (a4), .int (a5), .int (a6), .int (a7), .int (a8), .null, .null] [] S = (if a8 < 0 then (if a1 < 0 ∨ 90 ≤ a1.toNatClampNeg then none else (if a1 < 0 ∨ 90 ≤ a1.toNatClampNeg then none else g_X12_offer 121 [.ref 56, .int (a1), .int (a2), .null, .null, .int (a5), .int (a6), .int (a7), .null, .int (a2), .null] [] (a_wi (a_wi S 96 (a1.toNatClampNeg) (a3)) 97 (a1.toNatClampNeg) (a4)))) else some (none, S)) :=
  (a_unf0 none t_X12_offer c_X12_offer k_X12_offer 101 97 _ _ S).trans rfl
set_option maxRecDepth 8000 in
theorem b_X12_offer_121 (a1 : Int32) (a2 : Int32) (a5 : Int32) (a6 : Int32) (a7 : Int32) (a9 : Int32) (S : a_M) : g_X12_offer 121 [.ref 56, .int (a1), .int (a2), .null, .null, .int (a5), .int (a6), .int (a7), .null, .int (a9), .null] [] S = (if a9 < S.1 56 6 then (if a9 < a2 + a5 then (if (14 * a1) + a9 < 0 ∨ 1260 ≤ ((14 * a1) + a9).toNatClampNeg then none else g_X12_offer 121 [.ref 56, .int (a1), .int (a2), .null, .null, .int (a5), .int (a6), .int (a7), .null, .int (a9 + 1), .null] [] (a_wi S 98 (((14 * a1) + a9).toNatClampNeg) (a6))) else (if (14 * a7) + a9 < 0 ∨ 1260 ≤ ((14 * a7) + a9).toNatClampNeg then none else (if (14 * a1) + a9 < 0 ∨ 1260 ≤ ((14 * a1) + a9).toNatClampNeg then none else g_X12_offer 121 [.ref 56, .int (a1), .int (a2), .null, .null, .int (a5), .int (a6), .int (a7), .null, .int (a9 + 1), .null] [] (a_wi S 98 (((14 * a1) + a9).toNatClampNeg) (S.1 98 ((14 * a7) + a9).toNatClampNeg))))) else some (none, S)) :=
  (a_unf0 none t_X12_offer c_X12_offer k_X12_offer 101 121 _ _ S).trans rfl
def k_X12_bestAt : Nat → Bool := fun pc => bif Nat.beq pc 52 then true else bif Nat.beq pc 87 then true else bif Nat.beq pc 136 then true else bif Nat.beq pc 142 then true else bif Nat.beq pc 185 then true else bif Nat.beq pc 186 then true else false
noncomputable def g_X12_bestAt : a_K := a_G none t_X12_bestAt c_X12_bestAt
set_option maxRecDepth 8000 in
theorem e_X12_bestAt (a1 : Int32) (a2 : Int32) (a3 : Int32) (S : a_M) : x_X12_bestAt [.ref 56, .int a1, .int a2, .int a3] S = (if (6 * a2) + a3 < 0 ∨ 90 ≤ ((6 * a2) + a3).toNatClampNeg then none else (if (6 * a2) + a3 < 0 ∨ 90 ≤ ((6 * a2) + a3).toNatClampNeg then none else (if a2 = S.1 56 6 then (if a1 < 0 ∨ 8 ≤ a1.toNatClampNeg then none else (if a3 = S.1 81 a1.toNatClampNeg then (if (6 * a2) + a3 < 0 ∨ 90 ≤ ((6 * a2) + a3).toNatClampNeg then none else some (none, (a_wi (a_wi (a_wi S 96 (((6 * a2) + a3).toNatClampNeg) (1000000)) 97 (((6 * a2) + a3).toNatClampNeg) (0)) 96 (((6 * a2) + a3).toNatClampNeg) (0)))) else g_X12_bestAt 52 [.ref 56, .int (a1), .int (a2), .int (a3), .int ((6 * a2) + a3), .null, .null, .null, .null] [] (a_wi (a_wi S 96 (((6 * a2) + a3).toNatClampNeg) (1000000)) 97 (((6 * a2) + a3).toNatClampNeg) (0)))) else g_X12_bestAt 52 [.ref 56, .int (a1), .int (a2), .int (a3), .int ((6 * a2) + a3), .null, .null, .null, .null] [] (a_wi (a_wi S 96 (((6 * a2) + a3).toNatClampNeg) (1000000)) 97 (((6 * a2) + a3).toNatClampNeg) (0))))) :=
  (show x_X12_bestAt [.ref 56, .int a1, .int a2, .int a3] S = g_X12_bestAt 0 [.ref 56, .int (a1), .int (a2), .int (a3), .null, .null, .null, .null, .null] [] S from rfl).trans ((a_unf0 none t_X12_bestAt c_X12_bestAt k_X12_bestAt 174 0 _ _ S).trans rfl)
set_option maxRecDepth 8000 in
theorem b_X12_bestAt_52 (a1 : Int32) (a2 : Int32) (a3 : Int32) (a4 : Int32) (S : a_M) : g_X12_bestAt 52 [.ref 56, .int (a1), .int (a2), .int (a3), .int (a4), .null, .null, .null, .null] [] S = (if a2 < S.1 56 6 then (if a4 + 6 < 0 ∨ 90 ≤ (a4 + 6).toNatClampNeg then none else ((x_X12_offer [.ref 56, .int (a4), .int (a2), .int (4 + (S.1 96 (a4 + 6).toNatClampNeg)), .int (-1), .int (1), .int (5), .int (a4 + 6)] S).bind fun q => g_X12_bestAt 87 [.ref 56, .int (a1), .int (a2), .int (a3), .int (a4), .null, .null, .null, .null] (q.1.toList ++ []) q.2)) else g_X12_bestAt 87 [.ref 56, .int (a1), .int (a2), .int (a3), .int (a4), .null, .null, .null, .null] [] S) :=
  (a_unf0 none t_X12_bestAt c_X12_bestAt k_X12_bestAt 174 52 _ _ S).trans rfl
set_option maxRecDepth 8000 in
theorem b_X12_bestAt_87 (a1 : Int32) (a2 : Int32) (a3 : Int32) (a4 : Int32) (S : a_M) : g_X12_bestAt 87 [.ref 56, .int (a1), .int (a2), .int (a3), .int (a4), .null, .null, .null, .null] [] S = (if a1 < 0 ∨ 8 ≤ a1.toNatClampNeg then none else (if a3 = S.1 81 a1.toNatClampNeg then some (none, S) else (if (5 * a1) + a3 < 0 ∨ 40 ≤ ((5 * a1) + a3).toNatClampNeg then none else (if S.1 83 ((5 * a1) + a3).toNatClampNeg = 0 then (if a4 + 1 < 0 ∨ 90 ≤ (a4 + 1).toNatClampNeg then none else ((x_X12_offer [.ref 56, .int (a4), .int (a2), .int (3 + (S.1 96 (a4 + 1).toNatClampNeg)), .int (0), .int (0), .int (0), .int (a4 + 1)] S).bind fun q => g_X12_bestAt 136 [.ref 56, .int (a1), .int (a2), .int (a3), .int (a4), .null, .null, .null, .null] (q.1.toList ++ []) q.2)) else g_X12_bestAt 136 [.ref 56, .int (a1), .int (a2), .int (a3), .int (a4), .null, .null, .null, .null] [] S)))) :=
  (a_unf0 none t_X12_bestAt c_X12_bestAt k_X12_bestAt 174 87 _ _ S).trans rfl
set_option maxRecDepth 8000 in
theorem b_X12_bestAt_136 (a1 : Int32) (a2 : Int32) (a3 : Int32) (a4 : Int32) (S : a_M) : g_X12_bestAt 136 [.ref 56, .int (a1), .int (a2), .int (a3), .int (a4), .null, .null, .null, .null] [] S = g_X12_bestAt 142 [.ref 56, .int (a1), .int (a2), .int (a3), .int (a4), .int (0), .int (1), .null, .null] [] S :=
  (a_unf0 none t_X12_bestAt c_X12_bestAt k_X12_bestAt 174 136 _ _ S).trans rfl
set_option maxRecDepth 8000 in
theorem b_X12_bestAt_142 (a1 : Int32) (a2 : Int32) (a3 : Int32) (a4 : Int32) (a5 : Int32) (a6 : Int32) (S : a_M) : g_X12_bestAt 142 [.ref 56, .int (a1), .int (a2), .int (a3), .int (a4), .int (a5), .int (a6), .null, .null] [] S = (if (4 : Int32) < a6 then some (none, S) else (if S.1 56 6 < a2 + a6 then some (none, S) else (if (1 : Int32) < a6 then (if (a2 + a6) - 1 < 0 ∨ 14 ≤ ((a2 + a6) - 1).toNatClampNeg then none else (if S.1 63 ((a2 + a6) - 1).toNatClampNeg = 0 then g_X12_bestAt 185 [.ref 56, .int (a1), .int (a2), .int (a3), .int (a4), .null, .int (a6), .null, .null] [.int (a5)] S else g_X12_bestAt 186 [.ref 56, .int (a1), .int (a2), .int (a3), .int (a4), .null, .int (a6), .null, .null] [.int (2), .int (a5)] S)) else g_X12_bestAt 185 [.ref 56, .int (a1), .int (a2), .int (a3), .int (a4), .null, .int (a6), .null, .null] [.int (a5)] S))) :=
  (a_unf0 none t_X12_bestAt c_X12_bestAt k_X12_bestAt 174 142 _ _ S).trans rfl
set_option maxRecDepth 8000 in
theorem b_X12_bestAt_185 (a1 : Int32) (a2 : Int32) (a3 : Int32) (a4 : Int32) (a6 : Int32) (s0 : Int32) (S : a_M) : g_X12_bestAt 185 [.ref 56, .int (a1), .int (a2), .int (a3), .int (a4), .null, .int (a6), .null, .null] [.int (s0)] S = g_X12_bestAt 186 [.ref 56, .int (a1), .int (a2), .int (a3), .int (a4), .null, .int (a6), .null, .null] [.int (0), .int (s0)] S :=
  (a_unf0 none t_X12_bestAt c_X12_bestAt k_X12_bestAt 174 185 _ _ S).trans rfl
set_option maxRecDepth 8000 in
theorem b_X12_bestAt_186 (a1 : Int32) (a2 : Int32) (a3 : Int32) (a4 : Int32) (a6 : Int32) (s0 : Int32) (s1 : Int32) (S : a_M) : g_X12_bestAt 186 [.ref 56, .int (a1), .int (a2), .int (a3), .int (a4), .null, .int (a6), .null, .null] [.int (s1), .int (s0)] S = (if (5 * a1) + a3 < 0 ∨ 40 ≤ ((5 * a1) + a3).toNatClampNeg then none else ((x_X12_rowCost [.ref 56, .int (S.1 82 ((5 * a1) + a3).toNatClampNeg), .int (a2), .int (a2 + a6)] S).bind fun q => g_X12_bestAt 221 [.ref 56, .int (a1), .int (a2), .int (a3), .int (a4), .int (s0 + s1), .int (a6), .int (((6 * (a2 + a6)) + a3) + 1), .null] (q.1.toList ++ []) q.2)) :=
  (a_unf0 none t_X12_bestAt c_X12_bestAt k_X12_bestAt 174 186 _ _ S).trans rfl
set_option maxRecDepth 8000 in
theorem b_X12_bestAt_221 (a1 : Int32) (a2 : Int32) (a3 : Int32) (a4 : Int32) (a5 : Int32) (a6 : Int32) (a7 : Int32) (s0 : Int32) (S : a_M) : g_X12_bestAt 221 [.ref 56, .int (a1), .int (a2), .int (a3), .int (a4), .int (a5), .int (a6), .int (a7), .null] [.int (s0)] S = (if s0 < 1000000 then (if a7 < 0 ∨ 90 ≤ a7.toNatClampNeg then none else (if S.1 96 a7.toNatClampNeg < 1000000 then (if a7 < 0 ∨ 90 ≤ a7.toNatClampNeg then none else ((x_X12_offer [.ref 56, .int (a4), .int (a2), .int ((s0 + a5) + (S.1 96 a7.toNatClampNeg)), .int (a6), .int (a6), .int (a3), .int (a7)] S).bind fun q => g_X12_bestAt 269 [.ref 56, .int (a1), .int (a2), .int (a3), .int (a4), .int (a5), .int (a6), .null, .null] (q.1.toList ++ []) q.2)) else g_X12_bestAt 142 [.ref 56, .int (a1), .int (a2), .int (a3), .int (a4), .int (a5), .int (a6 + 1), .null, .null] [] S)) else g_X12_bestAt 142 [.ref 56, .int (a1), .int (a2), .int (a3), .int (a4), .int (a5), .int (a6 + 1), .null, .null] [] S) :=
  (a_unf0 none t_X12_bestAt c_X12_bestAt k_X12_bestAt 174 221 _ _ S).trans rfl
set_option maxRecDepth 8000 in
theorem b_X12_bestAt_269 (a1 : Int32) (a2 : Int32) (a3 : Int32) (a4 : Int32) (a5 : Int32) (a6 : Int32) (S : a_M) : g_X12_bestAt 269 [.ref 56, .int (a1), .int (a2), .int (a3), .int (a4), .int (a5), .int (a6), .null, .null] [] S = g_X12_bestAt 142 [.ref 56, .int (a1), .int (a2), .int (a3), .int (a4), .int (a5), .int (a6 + 1), .null, .null] [] S :=
  (a_unf0 none t_X12_bestAt c_X12_bestAt k_X12_bestAt 174 269 _ _ S).trans rfl
def k_X12_blank : Nat → Bool := fun pc => bif Nat.beq pc 2 then true else false
noncomputable def g_X12_blank : a_K := a_G none t_X12_blank c_X12_blank
set_option maxRecDepth 8000 in
theorem e_X12_blank (a1 : Int32) (S : a_M) : x_X12_blank [.ref 56, .int a1] S = g_X12_blank 2 [.ref 56, .int (a1), .int (0)] [] S :=
  (show x_X12_blank [.ref 56, .int a1] S = g_X12_blank 0 [.ref 56, .int (a1), .null] [] S from rfl).trans ((a_unf0 none t_X12_blank c_X12_blank k_X12_blank 59 0 _ _ S).trans rfl)
set_option maxRecDepth 8000 in
theorem b_X12_blank_2 (a1 : Int32) (a2 : Int32) (S : a_M) : g_X12_blank 2 [.ref 56, .int (a1), .int (a2)] [] S = (if a2 < 5 then (if (5 * a1) + a2 < 0 ∨ 200 ≤ ((5 * a1) + a2).toNatClampNeg then none else g_X12_blank 2 [.ref 56, .int (a1), .int (a2 + 1)] [] (a_wi S 85 (((5 * a1) + a2).toNatClampNeg) (0))) else (if a1 < 0 ∨ 40 ≤ a1.toNatClampNeg then none else (if a1 < 0 ∨ 40 ≤ a1.toNatClampNeg then none else (if a1 < 0 ∨ 40 ≤ a1.toNatClampNeg then none else (if a1 < 0 ∨ 40 ≤ a1.toNatClampNeg then none else (if a1 < 0 ∨ 40 ≤ a1.toNatClampNeg then none else (if a1 < 0 ∨ 40 ≤ a1.toNatClampNeg then none else (if a1 < 0 ∨ 40 ≤ a1.toNatClampNeg then none else (if a1 < 0 ∨ 40 ≤ a1.toNatClampNeg then none else some (none, (a_wi (a_wi (a_wi (a_wi (a_wi (a_wi (a_wi (a_wi S 86 (a1.toNatClampNeg) (-1)) 87 (a1.toNatClampNeg) (-1)) 88 (a1.toNatClampNeg) (-1)) 89 (a1.toNatClampNeg) (-1)) 90 (a1.toNatClampNeg) (-1)) 92 (a1.toNatClampNeg) (-1)) 93 (a1.toNatClampNeg) (-1)) 94 (a1.toNatClampNeg) (0)))))))))))) :=
  (a_unf0 none t_X12_blank c_X12_blank k_X12_blank 59 2 _ _ S).trans rfl
def k_X12_valueOf : Nat → Bool := fun pc => bif Nat.beq pc 4 then true else false
noncomputable def g_X12_valueOf : a_K := a_G none t_X12_valueOf c_X12_valueOf
set_option maxRecDepth 8000 in
theorem e_X12_valueOf (a1 : Int32) (S : a_M) : x_X12_valueOf [.ref 56, .int a1] S = g_X12_valueOf 4 [.ref 56, .int (a1), .int (0), .int (0)] [] S :=
  (show x_X12_valueOf [.ref 56, .int a1] S = g_X12_valueOf 0 [.ref 56, .int (a1), .null, .null] [] S from rfl).trans ((a_unf0 none t_X12_valueOf c_X12_valueOf k_X12_valueOf 30 0 _ _ S).trans rfl)
set_option maxRecDepth 8000 in
theorem b_X12_valueOf_4 (a1 : Int32) (a2 : Int32) (a3 : Int32) (S : a_M) : g_X12_valueOf 4 [.ref 56, .int (a1), .int (a2), .int (a3)] [] S = ((x_X12_figures [.ref 56, .int (a1)] S).bind fun q => g_X12_valueOf 10 [.ref 56, .int (a1), .int (a2), .int (a3)] (q.1.toList ++ [.int (a3)]) q.2) :=
  (a_unf0 none t_X12_valueOf c_X12_valueOf k_X12_valueOf 30 4 _ _ S).trans rfl
set_option maxRecDepth 8000 in
theorem b_X12_valueOf_10 (a1 : Int32) (a2 : Int32) (a3 : Int32) (s0 : Int32) (s1 : Int32) (S : a_M) : g_X12_valueOf 10 [.ref 56, .int (a1), .int (a2), .int (a3)] [.int (s1), .int (s0)] S = (if s0 < s1 then (if (16 * a1) + a3 < 0 ∨ 224 ≤ ((16 * a1) + a3).toNatClampNeg then none else g_X12_valueOf 4 [.ref 56, .int (a1), .int (((10 * a2) + (S.1 62 ((16 * a1) + a3).toNatClampNeg)) - 48), .int (a3 + 1)] [] S) else some (some (.int (a2)), S)) :=
  (a_unf0 none t_X12_valueOf c_X12_valueOf k_X12_valueOf 30 10 _ _ S).trans rfl
def k_X12_lay : Nat → Bool := fun pc => bif Nat.beq pc 129 then true else false
noncomputable def g_X12_lay : a_K := a_G none t_X12_lay c_X12_lay
set_option maxRecDepth 8000 in
theorem e_X12_lay (a1 : Int32) (a2 : Int32) (a3 : Int32) (a4 : Int32) (S : a_M) : x_X12_lay [.ref 56, .int a1, .int a2, .int a3, .int a4] S = (if (5 * a1) + a2 < 0 ∨ 200 ≤ ((5 * a1) + a2).toNatClampNeg then none else (if a2 = 0 then ((x_X12_figures [.ref 56, .int (a3)] (a_wi S 85 (((5 * a1) + a2).toNatClampNeg) (1))).bind fun q => g_X12_lay 20 [.ref 56, .int (a1), .null, .int (a3), .null, .null] (q.1.toList ++ []) q.2) else (if a2 = 1 then ((x_X12_rowCost [.ref 56, .int (1), .int (a3), .int (a4)] (a_wi S 85 (((5 * a1) + a2).toNatClampNeg) (1))).bind fun q => g_X12_lay 82 [.ref 56, .int (a1), .null, .null, .null, .null] (q.1.toList ++ []) q.2) else (if a2 = 2 then ((x_X12_unitWordAt [.ref 56, .int (a3)] (a_wi S 85 (((5 * a1) + a2).toNatClampNeg) (1))).bind fun q => g_X12_lay 111 [.ref 56, .int (a1), .null, .int (a3), .null, .null] (q.1.toList ++ [.int (a1), .ref 89]) q.2) else (if a2 = 3 then ((x_X12_rowCost [.ref 56, .int (3), .int (a3), .int (a4)] (a_wi S 85 (((5 * a1) + a2).toNatClampNeg) (1))).bind fun q => g_X12_lay 187 [.ref 56, .int (a1), .null, .null, .null, .null] (q.1.toList ++ []) q.2) else ((x_X12_valueOf [.ref 56, .int (a3)] (a_wi S 85 (((5 * a1) + a2).toNatClampNeg) (1))).bind fun q => g_X12_lay 211 [.null, .null, .null, .null, .null, .null] (q.1.toList ++ [.int (a1), .ref 93]) q.2)))))) :=
  (show x_X12_lay [.ref 56, .int a1, .int a2, .int a3, .int a4] S = g_X12_lay 0 [.ref 56, .int (a1), .int (a2), .int (a3), .int (a4), .null] [] S from rfl).trans ((a_unf0 none t_X12_lay c_X12_lay k_X12_lay 134 0 _ _ S).trans rfl)
set_option maxRecDepth 8000 in
theorem b_X12_lay_20 (a1 : Int32) (a3 : Int32) (s0 : Int32) (S : a_M) : g_X12_lay 20 [.ref 56, .int (a1), .null, .int (a3), .null, .null] [.int (s0)] S = ((x_X12_valueOf [.ref 56, .int (a3)] S).bind fun q => g_X12_lay 32 [.ref 56, .int (a1), .null, .int (a3), .null, .int (s0)] (q.1.toList ++ [.int (a1), .ref 86]) q.2) :=
  (a_unf0 none t_X12_lay c_X12_lay k_X12_lay 134 20 _ _ S).trans rfl
set_option maxRecDepth 8000 in
theorem b_X12_lay_32 (a1 : Int32) (a3 : Int32) (a5 : Int32) (s1 : Int32) (s2 : Int32) (S : a_M) : g_X12_lay 32 [.ref 56, .int (a1), .null, .int (a3), .null, .int (a5)] [.int (s2), .int (s1), .ref 86] S = (if s1 < 0 ∨ 40 ≤ s1.toNatClampNeg then none else (if a3 < 0 ∨ 14 ≤ a3.toNatClampNeg then none else (if a5 < S.1 61 a3.toNatClampNeg then (if (16 * a3) + a5 < 0 ∨ 224 ≤ ((16 * a3) + a5).toNatClampNeg then none else (if a1 < 0 ∨ 40 ≤ a1.toNatClampNeg then none else some (none, (a_wi (a_wi S 86 (s1.toNatClampNeg) (s2)) 87 (a1.toNatClampNeg) (S.1 62 ((16 * a3) + a5).toNatClampNeg))))) else (if a1 < 0 ∨ 40 ≤ a1.toNatClampNeg then none else some (none, (a_wi (a_wi S 86 (s1.toNatClampNeg) (s2)) 87 (a1.toNatClampNeg) (0))))))) :=
  (a_unf0 none t_X12_lay c_X12_lay k_X12_lay 134 32 _ _ S).trans rfl
set_option maxRecDepth 8000 in
theorem b_X12_lay_82 (a1 : Int32) (s0 : Int32) (S : a_M) : g_X12_lay 82 [.ref 56, .int (a1), .null, .null, .null, .null] [.int (s0)] S = (if a1 < 0 ∨ 40 ≤ a1.toNatClampNeg then none else some (none, (a_wi S 88 (a1.toNatClampNeg) (S.1 56 55)))) :=
  (a_unf0 none t_X12_lay c_X12_lay k_X12_lay 134 82 _ _ S).trans rfl
set_option maxRecDepth 8000 in
theorem b_X12_lay_111 (a1 : Int32) (a3 : Int32) (s1 : Int32) (s2 : Int32) (S : a_M) : g_X12_lay 111 [.ref 56, .int (a1), .null, .int (a3), .null, .null] [.int (s2), .int (s1), .ref 89] S = (if s1 < 0 ∨ 40 ≤ s1.toNatClampNeg then none else (if a3 + 1 < 0 ∨ 14 ≤ (a3 + 1).toNatClampNeg then none else (if a1 < 0 ∨ 40 ≤ a1.toNatClampNeg then none else g_X12_lay 129 [.ref 56, .int (a1), .null, .int (a3), .null, .int (0)] [] (a_wi (a_wi S 89 (s1.toNatClampNeg) (s2)) 90 (a1.toNatClampNeg) (S.1 61 (a3 + 1).toNatClampNeg))))) :=
  (a_unf0 none t_X12_lay c_X12_lay k_X12_lay 134 111 _ _ S).trans rfl
set_option maxRecDepth 8000 in
theorem b_X12_lay_129 (a1 : Int32) (a3 : Int32) (a5 : Int32) (S : a_M) : g_X12_lay 129 [.ref 56, .int (a1), .null, .int (a3), .null, .int (a5)] [] S = (if a1 < 0 ∨ 40 ≤ a1.toNatClampNeg then none else (if a5 < S.1 90 a1.toNatClampNeg then (if (16 * (a3 + 1)) + a5 < 0 ∨ 224 ≤ ((16 * (a3 + 1)) + a5).toNatClampNeg then none else (if (4 * a1) + a5 < 0 ∨ 160 ≤ ((4 * a1) + a5).toNatClampNeg then none else g_X12_lay 129 [.ref 56, .int (a1), .null, .int (a3), .null, .int (a5 + 1)] [] (a_wi S 91 (((4 * a1) + a5).toNatClampNeg) (S.1 62 ((16 * (a3 + 1)) + a5).toNatClampNeg)))) else some (none, S))) :=
  (a_unf0 none t_X12_lay c_X12_lay k_X12_lay 134 129 _ _ S).trans rfl
set_option maxRecDepth 8000 in
theorem b_X12_lay_187 (a1 : Int32) (s0 : Int32) (S : a_M) : g_X12_lay 187 [.ref 56, .int (a1), .null, .null, .null, .null] [.int (s0)] S = (if a1 < 0 ∨ 40 ≤ a1.toNatClampNeg then none else some (none, (a_wi S 92 (a1.toNatClampNeg) (S.1 56 55)))) :=
  (a_unf0 none t_X12_lay c_X12_lay k_X12_lay 134 187 _ _ S).trans rfl
set_option maxRecDepth 8000 in
theorem b_X12_lay_211 (s1 : Int32) (s2 : Int32) (S : a_M) : g_X12_lay 211 [.null, .null, .null, .null, .null, .null] [.int (s2), .int (s1), .ref 93] S = (if s1 < 0 ∨ 40 ≤ s1.toNatClampNeg then none else some (none, (a_wi S 93 (s1.toNatClampNeg) (s2)))) :=
  (a_unf0 none t_X12_lay c_X12_lay k_X12_lay 134 211 _ _ S).trans rfl
def k_X12_isAlike : Nat → Bool := fun pc => bif Nat.beq pc 109 then true else bif Nat.beq pc 114 then true else false
noncomputable def g_X12_isAlike : a_K := a_G none t_X12_isAlike c_X12_isAlike
set_option maxRecDepth 8000 in
theorem e_X12_isAlike (a1 : Int32) (a2 : Int32) (S : a_M) : x_X12_isAlike [.ref 56, .int a1, .int a2] S = (if a1 < 0 ∨ 40 ≤ a1.toNatClampNeg then none else (if a2 < 0 ∨ 40 ≤ a2.toNatClampNeg then none else (if S.1 86 a1.toNatClampNeg = S.1 86 a2.toNatClampNeg then (if a1 < 0 ∨ 40 ≤ a1.toNatClampNeg then none else (if a2 < 0 ∨ 40 ≤ a2.toNatClampNeg then none else (if S.1 87 a1.toNatClampNeg = S.1 87 a2.toNatClampNeg then (if a1 < 0 ∨ 40 ≤ a1.toNatClampNeg then none else (if a2 < 0 ∨ 40 ≤ a2.toNatClampNeg then none else (if S.1 88 a1.toNatClampNeg = S.1 88 a2.toNatClampNeg then (if a1 < 0 ∨ 40 ≤ a1.toNatClampNeg then none else (if a2 < 0 ∨ 40 ≤ a2.toNatClampNeg then none else (if S.1 89 a1.toNatClampNeg = S.1 89 a2.toNatClampNeg then (if a1 < 0 ∨ 40 ≤ a1.toNatClampNeg then none else (if a2 < 0 ∨ 40 ≤ a2.toNatClampNeg then none else (if S.1 90 a1.toNatClampNeg = S.1 90 a2.toNatClampNeg then (if a1 < 0 ∨ 40 ≤ a1.toNatClampNeg then none else (if a2 < 0 ∨ 40 ≤ a2.toNatClampNeg then none else (if S.1 92 a1.toNatClampNeg = S.1 92 a2.toNatClampNeg then (if a1 < 0 ∨ 40 ≤ a1.toNatClampNeg then none else (if a2 < 0 ∨ 40 ≤ a2.toNatClampNeg then none else (if S.1 93 a1.toNatClampNeg = S.1 93 a2.toNatClampNeg then g_X12_isAlike 114 [.ref 56, .int (a1), .int (a2), .int (1), .int (0)] [] S else g_X12_isAlike 109 [.ref 56, .int (a1), .int (a2), .null, .null] [] S))) else g_X12_isAlike 109 [.ref 56, .int (a1), .int (a2), .null, .null] [] S))) else g_X12_isAlike 109 [.ref 56, .int (a1), .int (a2), .null, .null] [] S))) else g_X12_isAlike 109 [.ref 56, .int (a1), .int (a2), .null, .null] [] S))) else g_X12_isAlike 109 [.ref 56, .int (a1), .int (a2), .null, .null] [] S))) else g_X12_isAlike 109 [.ref 56, .int (a1), .int (a2), .null, .null] [] S))) else g_X12_isAlike 109 [.ref 56, .int (a1), .int (a2), .null, .null] [] S))) :=
  (show x_X12_isAlike [.ref 56, .int a1, .int a2] S = g_X12_isAlike 0 [.ref 56, .int (a1), .int (a2), .null, .null] [] S from rfl).trans ((a_unf0 none t_X12_isAlike c_X12_isAlike k_X12_isAlike 104 0 _ _ S).trans rfl)
set_option maxRecDepth 8000 in
theorem b_X12_isAlike_109 (a1 : Int32) (a2 : Int32) (S : a_M) : g_X12_isAlike 109 [.ref 56, .int (a1), .int (a2), .null, .null] [] S = g_X12_isAlike 114 [.ref 56, .int (a1), .int (a2), .int (0), .int (0)] [] S :=
  (a_unf0 none t_X12_isAlike c_X12_isAlike k_X12_isAlike 104 109 _ _ S).trans rfl
set_option maxRecDepth 8000 in
theorem b_X12_isAlike_114 (a1 : Int32) (a2 : Int32) (a3 : Int32) (a4 : Int32) (S : a_M) : g_X12_isAlike 114 [.ref 56, .int (a1), .int (a2), .int (a3), .int (a4)] [] S = (if a1 < 0 ∨ 40 ≤ a1.toNatClampNeg then none else (if a4 < S.1 90 a1.toNatClampNeg then (if a3 = 0 then (Option.map (fun r => (r, S)) (if a3 = 0 ∨ a3 = 1 then some (some (.int (a3))) else none)) else (if (4 * a1) + a4 < 0 ∨ 160 ≤ ((4 * a1) + a4).toNatClampNeg then none else (if (4 * a2) + a4 < 0 ∨ 160 ≤ ((4 * a2) + a4).toNatClampNeg then none else (if S.1 91 ((4 * a1) + a4).toNatClampNeg = S.1 91 ((4 * a2) + a4).toNatClampNeg then g_X12_isAlike 114 [.ref 56, .int (a1), .int (a2), .int (1), .int (a4 + 1)] [] S else g_X12_isAlike 114 [.ref 56, .int (a1), .int (a2), .int (0), .int (a4 + 1)] [] S)))) else (Option.map (fun r => (r, S)) (if a3 = 0 ∨ a3 = 1 then some (some (.int (a3))) else none)))) :=
  (a_unf0 none t_X12_isAlike c_X12_isAlike k_X12_isAlike 104 114 _ _ S).trans rfl
def k_X12_keepNewest : Nat → Bool := fun pc => bif Nat.beq pc 87 then true else bif Nat.beq pc 116 then true else false
noncomputable def g_X12_keepNewest : a_K := a_G none t_X12_keepNewest c_X12_keepNewest
set_option maxRecDepth 8000 in
theorem e_X12_keepNewest (a1 : Int32) (S : a_M) : x_X12_keepNewest [.ref 56, .int a1] S = (if a1 < 0 ∨ 40 ≤ a1.toNatClampNeg then none else (if a1 < 0 ∨ 40 ≤ a1.toNatClampNeg then none else (if a1 < 0 ∨ 40 ≤ a1.toNatClampNeg then none else (if a1 < 0 ∨ 40 ≤ a1.toNatClampNeg then none else (if a1 < 0 ∨ 40 ≤ a1.toNatClampNeg then none else (if a1 < 0 ∨ 40 ≤ a1.toNatClampNeg then none else (if a1 < 0 ∨ 40 ≤ a1.toNatClampNeg then none else g_X12_keepNewest 87 [.ref 56, .int (a1), .int (0)] [] (a_wi (a_wi (a_wi (a_wi (a_wi (a_wi (a_wi S 101 0 (S.1 86 a1.toNatClampNeg)) 101 1 (S.1 87 a1.toNatClampNeg)) 101 2 (S.1 88 a1.toNatClampNeg)) 101 3 (S.1 89 a1.toNatClampNeg)) 101 4 (S.1 90 a1.toNatClampNeg)) 101 5 (S.1 92 a1.toNatClampNeg)) 101 6 (S.1 93 a1.toNatClampNeg))))))))) :=
  (show x_X12_keepNewest [.ref 56, .int a1] S = g_X12_keepNewest 0 [.ref 56, .int (a1), .null] [] S from rfl).trans ((a_unf0 none t_X12_keepNewest c_X12_keepNewest k_X12_keepNewest 97 0 _ _ S).trans rfl)
set_option maxRecDepth 8000 in
theorem b_X12_keepNewest_87 (a1 : Int32) (a2 : Int32) (S : a_M) : g_X12_keepNewest 87 [.ref 56, .int (a1), .int (a2)] [] S = (if a2 < 5 then (if (5 * a1) + a2 < 0 ∨ 200 ≤ ((5 * a1) + a2).toNatClampNeg then none else (if a2 < 0 ∨ 5 ≤ a2.toNatClampNeg then none else g_X12_keepNewest 87 [.ref 56, .int (a1), .int (a2 + 1)] [] (a_wi S 100 (a2.toNatClampNeg) (vp_nar .boolean (S.1 85 ((5 * a1) + a2).toNatClampNeg))))) else g_X12_keepNewest 116 [.ref 56, .int (a1), .int (0)] [] S) :=
  (a_unf0 none t_X12_keepNewest c_X12_keepNewest k_X12_keepNewest 97 87 _ _ S).trans rfl
set_option maxRecDepth 8000 in
theorem b_X12_keepNewest_116 (a1 : Int32) (a2 : Int32) (S : a_M) : g_X12_keepNewest 116 [.ref 56, .int (a1), .int (a2)] [] S = (if a2 < 4 then (if (4 * a1) + a2 < 0 ∨ 160 ≤ ((4 * a1) + a2).toNatClampNeg then none else (if a2 < 0 ∨ 4 ≤ a2.toNatClampNeg then none else g_X12_keepNewest 116 [.ref 56, .int (a1), .int (a2 + 1)] [] (a_wi S 99 (a2.toNatClampNeg) (S.1 91 ((4 * a1) + a2).toNatClampNeg)))) else some (none, S)) :=
  (a_unf0 none t_X12_keepNewest c_X12_keepNewest k_X12_keepNewest 97 116 _ _ S).trans rfl
def k_X12_layRows : Nat → Bool := fun pc => bif Nat.beq pc 10 then true else bif Nat.beq pc 29 then true else bif Nat.beq pc 80 then true else false
noncomputable def g_X12_layRows : a_K := a_G none t_X12_layRows c_X12_layRows
set_option maxRecDepth 8000 in
theorem e_X12_layRows (a1 : Int32) (a2 : Int32) (S : a_M) : x_X12_layRows [.ref 56, .int a1, .int a2] S = ((x_X12_blank [.ref 56, .int (a2)] S).bind fun q => g_X12_layRows 5 [.ref 56, .int (a1), .int (a2), .null, .null, .null] (q.1.toList ++ []) q.2) :=
  (show x_X12_layRows [.ref 56, .int a1, .int a2] S = g_X12_layRows 0 [.ref 56, .int (a1), .int (a2), .null, .null, .null] [] S from rfl).trans ((a_unf0 none t_X12_layRows c_X12_layRows k_X12_layRows 56 0 _ _ S).trans rfl)
set_option maxRecDepth 8000 in
theorem b_X12_layRows_5 (a1 : Int32) (a2 : Int32) (S : a_M) : g_X12_layRows 5 [.ref 56, .int (a1), .int (a2), .null, .null, .null] [] S = g_X12_layRows 10 [.ref 56, .int (a1), .int (a2), .int (0), .int (0), .null] [] S :=
  (a_unf0 none t_X12_layRows c_X12_layRows k_X12_layRows 56 5 _ _ S).trans rfl
set_option maxRecDepth 8000 in
theorem b_X12_layRows_10 (a1 : Int32) (a2 : Int32) (a3 : Int32) (a4 : Int32) (S : a_M) : g_X12_layRows 10 [.ref 56, .int (a1), .int (a2), .int (a3), .int (a4), .null] [] S = (if a3 < S.1 56 6 then g_X12_layRows 29 [.ref 56, .int (a1), .int (a2), .int (a3), .int (a4), .null] [] S else (if a1 < 0 ∨ 8 ≤ a1.toNatClampNeg then none else (if a4 < S.1 81 a1.toNatClampNeg then g_X12_layRows 29 [.ref 56, .int (a1), .int (a2), .int (a3), .int (a4), .null] [] S else some (none, S)))) :=
  (a_unf0 none t_X12_layRows c_X12_layRows k_X12_layRows 56 10 _ _ S).trans rfl
set_option maxRecDepth 8000 in
theorem b_X12_layRows_29 (a1 : Int32) (a2 : Int32) (a3 : Int32) (a4 : Int32) (S : a_M) : g_X12_layRows 29 [.ref 56, .int (a1), .int (a2), .int (a3), .int (a4), .null] [] S = (if (6 * a3) + a4 < 0 ∨ 90 ≤ ((6 * a3) + a4).toNatClampNeg then none else (if S.1 97 ((6 * a3) + a4).toNatClampNeg < 0 then g_X12_layRows 10 [.ref 56, .int (a1), .int (a2), .int (a3 + 1), .int (a4), .null] [] S else (if (0 : Int32) < S.1 97 ((6 * a3) + a4).toNatClampNeg then (if (5 * a1) + a4 < 0 ∨ 40 ≤ ((5 * a1) + a4).toNatClampNeg then none else ((x_X12_lay [.ref 56, .int (a2), .int (S.1 82 ((5 * a1) + a4).toNatClampNeg), .int (a3), .int (a3 + (S.1 97 ((6 * a3) + a4).toNatClampNeg))] S).bind fun q => g_X12_layRows 80 [.ref 56, .int (a1), .int (a2), .int (a3), .int (a4), .int (S.1 97 ((6 * a3) + a4).toNatClampNeg)] (q.1.toList ++ []) q.2)) else g_X12_layRows 80 [.ref 56, .int (a1), .int (a2), .int (a3), .int (a4), .int (S.1 97 ((6 * a3) + a4).toNatClampNeg)] [] S))) :=
  (a_unf0 none t_X12_layRows c_X12_layRows k_X12_layRows 56 29 _ _ S).trans rfl
set_option maxRecDepth 8000 in
theorem b_X12_layRows_80 (a1 : Int32) (a2 : Int32) (a3 : Int32) (a4 : Int32) (a5 : Int32) (S : a_M) : g_X12_layRows 80 [.ref 56, .int (a1), .int (a2), .int (a3), .int (a4), .int (a5)] [] S = g_X12_layRows 10 [.ref 56, .int (a1), .int (a2), .int (a3 + a5), .int (a4 + 1), .null] [] S :=
  (a_unf0 none t_X12_layRows c_X12_layRows k_X12_layRows 56 80 _ _ S).trans rfl
def k_X12_isAlikeNewest : Nat → Bool := fun pc => bif Nat.beq pc 110 then true else bif Nat.beq pc 114 then true else false
noncomputable def g_X12_isAlikeNewest : a_K := a_G none t_X12_isAlikeNewest c_X12_isAlikeNewest
set_option maxRecDepth 8000 in
theorem e_X12_isAlikeNewest (a1 : Int32) (S : a_M) : x_X12_isAlikeNewest [.ref 56, .int a1] S = (if a1 < 0 ∨ 40 ≤ a1.toNatClampNeg then none else (if S.1 86 a1.toNatClampNeg = S.1 101 0 then (if a1 < 0 ∨ 40 ≤ a1.toNatClampNeg then none else (if S.1 87 a1.toNatClampNeg = S.1 101 1 then (if a1 < 0 ∨ 40 ≤ a1.toNatClampNeg then none else (if S.1 88 a1.toNatClampNeg = S.1 101 2 then (if a1 < 0 ∨ 40 ≤ a1.toNatClampNeg then none else (if S.1 89 a1.toNatClampNeg = S.1 101 3 then (if a1 < 0 ∨ 40 ≤ a1.toNatClampNeg then none else (if S.1 90 a1.toNatClampNeg = S.1 101 4 then (if a1 < 0 ∨ 40 ≤ a1.toNatClampNeg then none else (if S.1 92 a1.toNatClampNeg = S.1 101 5 then (if a1 < 0 ∨ 40 ≤ a1.toNatClampNeg then none else (if S.1 93 a1.toNatClampNeg = S.1 101 6 then g_X12_isAlikeNewest 114 [.ref 56, .int (a1), .int (1), .int (0)] [] S else g_X12_isAlikeNewest 110 [.ref 56, .int (a1), .null, .null] [] S)) else g_X12_isAlikeNewest 110 [.ref 56, .int (a1), .null, .null] [] S)) else g_X12_isAlikeNewest 110 [.ref 56, .int (a1), .null, .null] [] S)) else g_X12_isAlikeNewest 110 [.ref 56, .int (a1), .null, .null] [] S)) else g_X12_isAlikeNewest 110 [.ref 56, .int (a1), .null, .null] [] S)) else g_X12_isAlikeNewest 110 [.ref 56, .int (a1), .null, .null] [] S)) else g_X12_isAlikeNewest 110 [.ref 56, .int (a1), .null, .null] [] S)) :=
  (show x_X12_isAlikeNewest [.ref 56, .int a1] S = g_X12_isAlikeNewest 0 [.ref 56, .int (a1), .null, .null] [] S from rfl).trans ((a_unf0 none t_X12_isAlikeNewest c_X12_isAlikeNewest k_X12_isAlikeNewest 100 0 _ _ S).trans rfl)
set_option maxRecDepth 8000 in
theorem b_X12_isAlikeNewest_110 (a1 : Int32) (S : a_M) : g_X12_isAlikeNewest 110 [.ref 56, .int (a1), .null, .null] [] S = g_X12_isAlikeNewest 114 [.ref 56, .int (a1), .int (0), .int (0)] [] S :=
  (a_unf0 none t_X12_isAlikeNewest c_X12_isAlikeNewest k_X12_isAlikeNewest 100 110 _ _ S).trans rfl
set_option maxRecDepth 8000 in
theorem b_X12_isAlikeNewest_114 (a1 : Int32) (a2 : Int32) (a3 : Int32) (S : a_M) : g_X12_isAlikeNewest 114 [.ref 56, .int (a1), .int (a2), .int (a3)] [] S = (if a1 < 0 ∨ 40 ≤ a1.toNatClampNeg then none else (if a3 < S.1 90 a1.toNatClampNeg then (if a2 = 0 then (Option.map (fun r => (r, S)) (if a2 = 0 ∨ a2 = 1 then some (some (.int (a2))) else none)) else (if (4 * a1) + a3 < 0 ∨ 160 ≤ ((4 * a1) + a3).toNatClampNeg then none else (if a3 < 0 ∨ 4 ≤ a3.toNatClampNeg then none else (if S.1 91 ((4 * a1) + a3).toNatClampNeg = S.1 99 a3.toNatClampNeg then g_X12_isAlikeNewest 114 [.ref 56, .int (a1), .int (1), .int (a3 + 1)] [] S else g_X12_isAlikeNewest 114 [.ref 56, .int (a1), .int (0), .int (a3 + 1)] [] S)))) else (Option.map (fun r => (r, S)) (if a2 = 0 ∨ a2 = 1 then some (some (.int (a2))) else none)))) :=
  (a_unf0 none t_X12_isAlikeNewest c_X12_isAlikeNewest k_X12_isAlikeNewest 100 114 _ _ S).trans rfl
def k_X12_putBack : Nat → Bool := fun pc => bif Nat.beq pc 87 then true else bif Nat.beq pc 116 then true else false
noncomputable def g_X12_putBack : a_K := a_G none t_X12_putBack c_X12_putBack
set_option maxRecDepth 8000 in
theorem e_X12_putBack (a1 : Int32) (a2 : Int32) (S : a_M) : x_X12_putBack [.ref 56, .int a1, .int a2] S = (if a1 < 0 ∨ 40 ≤ a1.toNatClampNeg then none else (if a1 < 0 ∨ 40 ≤ a1.toNatClampNeg then none else (if a1 < 0 ∨ 40 ≤ a1.toNatClampNeg then none else (if a1 < 0 ∨ 40 ≤ a1.toNatClampNeg then none else (if a1 < 0 ∨ 40 ≤ a1.toNatClampNeg then none else (if a1 < 0 ∨ 40 ≤ a1.toNatClampNeg then none else (if a1 < 0 ∨ 40 ≤ a1.toNatClampNeg then none else g_X12_putBack 87 [.ref 56, .int (a1), .int (a2), .int (0)] [] (a_wi (a_wi (a_wi (a_wi (a_wi (a_wi (a_wi S 86 (a1.toNatClampNeg) (S.1 101 0)) 87 (a1.toNatClampNeg) (S.1 101 1)) 88 (a1.toNatClampNeg) (S.1 101 2)) 89 (a1.toNatClampNeg) (S.1 101 3)) 90 (a1.toNatClampNeg) (S.1 101 4)) 92 (a1.toNatClampNeg) (S.1 101 5)) 93 (a1.toNatClampNeg) (S.1 101 6))))))))) :=
  (show x_X12_putBack [.ref 56, .int a1, .int a2] S = g_X12_putBack 0 [.ref 56, .int (a1), .int (a2), .null] [] S from rfl).trans ((a_unf0 none t_X12_putBack c_X12_putBack k_X12_putBack 102 0 _ _ S).trans rfl)
set_option maxRecDepth 8000 in
theorem b_X12_putBack_87 (a1 : Int32) (a2 : Int32) (a3 : Int32) (S : a_M) : g_X12_putBack 87 [.ref 56, .int (a1), .int (a2), .int (a3)] [] S = (if a3 < 5 then (if a3 < 0 ∨ 5 ≤ a3.toNatClampNeg then none else (if (5 * a1) + a3 < 0 ∨ 200 ≤ ((5 * a1) + a3).toNatClampNeg then none else g_X12_putBack 87 [.ref 56, .int (a1), .int (a2), .int (a3 + 1)] [] (a_wi S 85 (((5 * a1) + a3).toNatClampNeg) (vp_nar .boolean (S.1 100 a3.toNatClampNeg))))) else g_X12_putBack 116 [.ref 56, .int (a1), .int (a2), .int (0)] [] S) :=
  (a_unf0 none t_X12_putBack c_X12_putBack k_X12_putBack 102 87 _ _ S).trans rfl
set_option maxRecDepth 8000 in
theorem b_X12_putBack_116 (a1 : Int32) (a2 : Int32) (a3 : Int32) (S : a_M) : g_X12_putBack 116 [.ref 56, .int (a1), .int (a2), .int (a3)] [] S = (if a3 < 4 then (if a3 < 0 ∨ 4 ≤ a3.toNatClampNeg then none else (if (4 * a1) + a3 < 0 ∨ 160 ≤ ((4 * a1) + a3).toNatClampNeg then none else g_X12_putBack 116 [.ref 56, .int (a1), .int (a2), .int (a3 + 1)] [] (a_wi S 91 (((4 * a1) + a3).toNatClampNeg) (S.1 99 a3.toNatClampNeg)))) else (if a1 < 0 ∨ 40 ≤ a1.toNatClampNeg then none else some (none, (a_wi S 94 (a1.toNatClampNeg) (a2))))) :=
  (a_unf0 none t_X12_putBack c_X12_putBack k_X12_putBack 102 116 _ _ S).trans rfl
def k_X12_layAll : Nat → Bool := fun pc => bif Nat.beq pc 14 then true else bif Nat.beq pc 28 then true else bif Nat.beq pc 47 then true else bif Nat.beq pc 59 then true else bif Nat.beq pc 74 then true else bif Nat.beq pc 97 then true else false
noncomputable def g_X12_layAll : a_K := a_G none t_X12_layAll c_X12_layAll
set_option maxRecDepth 8000 in
theorem e_X12_layAll (a1 : Int32) (S : a_M) : x_X12_layAll [.ref 56, .int a1] S = (if S.1 56 40 = 40 then g_X12_layAll 14 [.ref 56, .int (a1), .null, .null, .null, .null, .null] [.int (1)] S else g_X12_layAll 14 [.ref 56, .int (a1), .null, .null, .null, .null, .null] [.int (0)] S) :=
  (show x_X12_layAll [.ref 56, .int a1] S = g_X12_layAll 0 [.ref 56, .int (a1), .null, .null, .null, .null, .null] [] S from rfl).trans ((a_unf0 none t_X12_layAll c_X12_layAll k_X12_layAll 88 0 _ _ S).trans rfl)
set_option maxRecDepth 8000 in
theorem b_X12_layAll_14 (a1 : Int32) (s0 : Int32) (S : a_M) : g_X12_layAll 14 [.ref 56, .int (a1), .null, .null, .null, .null, .null] [.int (s0)] S = (if s0 = 0 then g_X12_layAll 28 [.ref 56, .int (a1), .int (s0), .null, .null, .null, .null] [.int (S.1 56 40)] S else g_X12_layAll 28 [.ref 56, .int (a1), .int (s0), .null, .null, .null, .null] [.int (39)] S) :=
  (a_unf0 none t_X12_layAll c_X12_layAll k_X12_layAll 88 14 _ _ S).trans rfl
set_option maxRecDepth 8000 in
theorem b_X12_layAll_28 (a1 : Int32) (a2 : Int32) (s0 : Int32) (S : a_M) : g_X12_layAll 28 [.ref 56, .int (a1), .int (a2), .null, .null, .null, .null] [.int (s0)] S = (if a2 = 0 then g_X12_layAll 47 [.ref 56, .int (a1), .int (a2), .int (s0), .int (S.1 94 39), .null, .null] [] S else ((x_X12_keepNewest [.ref 56, .int (s0)] S).bind fun q => g_X12_layAll 47 [.ref 56, .int (a1), .int (a2), .int (s0), .int (S.1 94 39), .null, .null] (q.1.toList ++ []) q.2)) :=
  (a_unf0 none t_X12_layAll c_X12_layAll k_X12_layAll 88 28 _ _ S).trans rfl
set_option maxRecDepth 8000 in
theorem b_X12_layAll_47 (a1 : Int32) (a2 : Int32) (a3 : Int32) (a4 : Int32) (S : a_M) : g_X12_layAll 47 [.ref 56, .int (a1), .int (a2), .int (a3), .int (a4), .null, .null] [] S = ((x_X12_layRows [.ref 56, .int (a1), .int (a3)] S).bind fun q => g_X12_layAll 53 [.ref 56, .null, .int (a2), .int (a3), .int (a4), .null, .null] (q.1.toList ++ []) q.2) :=
  (a_unf0 none t_X12_layAll c_X12_layAll k_X12_layAll 88 47 _ _ S).trans rfl
set_option maxRecDepth 8000 in
theorem b_X12_layAll_53 (a2 : Int32) (a3 : Int32) (a4 : Int32) (S : a_M) : g_X12_layAll 53 [.ref 56, .null, .int (a2), .int (a3), .int (a4), .null, .null] [] S = g_X12_layAll 59 [.ref 56, .null, .int (a2), .int (a3), .int (a4), .int (-1), .int (0)] [] S :=
  (a_unf0 none t_X12_layAll c_X12_layAll k_X12_layAll 88 53 _ _ S).trans rfl
set_option maxRecDepth 8000 in
theorem b_X12_layAll_59 (a2 : Int32) (a3 : Int32) (a4 : Int32) (a5 : Int32) (a6 : Int32) (S : a_M) : g_X12_layAll 59 [.ref 56, .null, .int (a2), .int (a3), .int (a4), .int (a5), .int (a6)] [] S = (if a2 = 0 then g_X12_layAll 74 [.ref 56, .null, .int (a2), .int (a3), .int (a4), .int (a5), .int (a6)] [.int (S.1 56 40), .int (a6)] S else g_X12_layAll 74 [.ref 56, .null, .int (a2), .int (a3), .int (a4), .int (a5), .int (a6)] [.int (39), .int (a6)] S) :=
  (a_unf0 none t_X12_layAll c_X12_layAll k_X12_layAll 88 59 _ _ S).trans rfl
set_option maxRecDepth 8000 in
theorem b_X12_layAll_74 (a2 : Int32) (a3 : Int32) (a4 : Int32) (a5 : Int32) (a6 : Int32) (s0 : Int32) (s1 : Int32) (S : a_M) : g_X12_layAll 74 [.ref 56, .null, .int (a2), .int (a3), .int (a4), .int (a5), .int (a6)] [.int (s1), .int (s0)] S = (if s0 < s1 then (if a5 < 0 then ((x_X12_isAlike [.ref 56, .int (a3), .int (a6)] S).bind fun q => g_X12_layAll 89 [.ref 56, .null, .int (a2), .int (a3), .int (a4), .int (a5), .int (a6)] (q.1.toList ++ []) q.2) else g_X12_layAll 97 [.ref 56, .null, .int (a2), .int (a3), .int (a4), .int (a5), .int (a6)] [] S) else (if a2 = 0 then (if a5 < 0 then some (some (.int (a3)), (a_wi S 56 40 ((S.1 56 40) + 1))) else some (some (.int (a5)), S)) else ((x_X12_isAlikeNewest [.ref 56, .int (a3)] S).bind fun q => g_X12_layAll 116 [.ref 56, .null, .null, .int (a3), .int (a4), .int (a5), .null] (q.1.toList ++ []) q.2))) :=
  (a_unf0 none t_X12_layAll c_X12_layAll k_X12_layAll 88 74 _ _ S).trans rfl
set_option maxRecDepth 8000 in
theorem b_X12_layAll_89 (a2 : Int32) (a3 : Int32) (a4 : Int32) (a5 : Int32) (a6 : Int32) (s0 : Int32) (S : a_M) : g_X12_layAll 89 [.ref 56, .null, .int (a2), .int (a3), .int (a4), .int (a5), .int (a6)] [.int (s0)] S = (if s0 = 0 then g_X12_layAll 97 [.ref 56, .null, .int (a2), .int (a3), .int (a4), .int (a5), .int (a6)] [] S else g_X12_layAll 59 [.ref 56, .null, .int (a2), .int (a3), .int (a4), .int (a6), .int (a6 + 1)] [] S) :=
  (a_unf0 none t_X12_layAll c_X12_layAll k_X12_layAll 88 89 _ _ S).trans rfl
set_option maxRecDepth 8000 in
theorem b_X12_layAll_97 (a2 : Int32) (a3 : Int32) (a4 : Int32) (a5 : Int32) (a6 : Int32) (S : a_M) : g_X12_layAll 97 [.ref 56, .null, .int (a2), .int (a3), .int (a4), .int (a5), .int (a6)] [] S = g_X12_layAll 59 [.ref 56, .null, .int (a2), .int (a3), .int (a4), .int (a5), .int (a6 + 1)] [] S :=
  (a_unf0 none t_X12_layAll c_X12_layAll k_X12_layAll 88 97 _ _ S).trans rfl
set_option maxRecDepth 8000 in
theorem b_X12_layAll_116 (a3 : Int32) (a4 : Int32) (a5 : Int32) (s0 : Int32) (S : a_M) : g_X12_layAll 116 [.ref 56, .null, .null, .int (a3), .int (a4), .int (a5), .null] [.int (s0)] S = ((x_X12_putBack [.ref 56, .int (a3), .int (a4)] S).bind fun q => g_X12_layAll 125 [.null, .null, .null, .null, .null, .int (a5), .int (s0)] (q.1.toList ++ []) q.2) :=
  (a_unf0 none t_X12_layAll c_X12_layAll k_X12_layAll 88 116 _ _ S).trans rfl
set_option maxRecDepth 8000 in
theorem b_X12_layAll_125 (a5 : Int32) (a6 : Int32) (S : a_M) : g_X12_layAll 125 [.null, .null, .null, .null, .null, .int (a5), .int (a6)] [] S = (if a5 < 0 then (if a6 = 0 then some (some (.int (-1)), S) else some (some (.int (39)), S)) else some (some (.int (a5)), S)) :=
  (a_unf0 none t_X12_layAll c_X12_layAll k_X12_layAll 88 125 _ _ S).trans rfl
def k_X12_deliver : Nat → Bool := fun pc => bif Nat.beq pc 33 then true else false
noncomputable def g_X12_deliver : a_K := a_G none t_X12_deliver c_X12_deliver
set_option maxRecDepth 8000 in
theorem e_X12_deliver (a1 : Int32) (S : a_M) : x_X12_deliver [.ref 56, .int a1] S = ((x_X12_layAll [.ref 56, .int (a1)] S).bind fun q => g_X12_deliver 5 [.ref 56, .null, .null, .null] (q.1.toList ++ []) q.2) :=
  (show x_X12_deliver [.ref 56, .int a1] S = g_X12_deliver 0 [.ref 56, .int (a1), .null, .null] [] S from rfl).trans ((a_unf0 none t_X12_deliver c_X12_deliver k_X12_deliver 46 0 _ _ S).trans rfl)
set_option maxRecDepth 8000 in
theorem b_X12_deliver_5 (s0 : Int32) (S : a_M) : g_X12_deliver 5 [.ref 56, .null, .null, .null] [.int (s0)] S = (if s0 < 0 then some (some (.int (-8)), S) else g_X12_deliver 33 [.ref 56, .null, .int (s0), .int (0)] [] (a_wi (a_wi S 56 37 (S.1 96 0)) 56 38 (S.1 56 6))) :=
  (a_unf0 none t_X12_deliver c_X12_deliver k_X12_deliver 46 5 _ _ S).trans rfl
set_option maxRecDepth 8000 in
theorem b_X12_deliver_33 (a2 : Int32) (a3 : Int32) (S : a_M) : g_X12_deliver 33 [.ref 56, .null, .int (a2), .int (a3)] [] S = (if a3 < S.1 56 6 then (if a3 < 0 ∨ 1260 ≤ a3.toNatClampNeg then none else (if a3 < 0 ∨ 14 ≤ a3.toNatClampNeg then none else g_X12_deliver 33 [.ref 56, .null, .int (a2), .int (a3 + 1)] [] (a_wi S 84 (a3.toNatClampNeg) (S.1 98 a3.toNatClampNeg)))) else (if a2 < 0 ∨ 40 ≤ a2.toNatClampNeg then none else (if a2 < 0 ∨ 40 ≤ a2.toNatClampNeg then none else some (some (.int (a2)), (a_wi S 94 (a2.toNatClampNeg) ((S.1 94 a2.toNatClampNeg) + 1)))))) :=
  (a_unf0 none t_X12_deliver c_X12_deliver k_X12_deliver 46 33 _ _ S).trans rfl
def k_X12_read : Nat → Bool := fun pc => bif Nat.beq pc 30 then true else bif Nat.beq pc 42 then true else false
noncomputable def g_X12_read : a_K := a_G none t_X12_read c_X12_read
set_option maxRecDepth 8000 in
theorem e_X12_read (a1 : Int32) (S : a_M) : x_X12_read [.ref 56, .int a1] S = ((x_X12_in [.int (a1), .int (0), .int ((S.1 56 33) - 1)] S).bind fun q => g_X12_read 11 [.ref 56, .int (a1), .null, .null, .null] (q.1.toList ++ []) q.2) :=
  (show x_X12_read [.ref 56, .int a1] S = g_X12_read 0 [.ref 56, .int (a1), .null, .null, .null] [] S from rfl).trans ((a_unf0 none t_X12_read c_X12_read k_X12_read 51 0 _ _ S).trans rfl)
set_option maxRecDepth 8000 in
theorem b_X12_read_11 (a1 : Int32) (s0 : Int32) (S : a_M) : g_X12_read 11 [.ref 56, .int (a1), .null, .null, .null] [.int (s0)] S = (if s0 = 0 then some (some (.int (-2)), S) else ((x_X12_taken [.ref 56] S).bind fun q => g_X12_read 21 [.ref 56, .int (a1), .null, .null, .null] (q.1.toList ++ []) q.2)) :=
  (a_unf0 none t_X12_read c_X12_read k_X12_read 51 11 _ _ S).trans rfl
set_option maxRecDepth 8000 in
theorem b_X12_read_21 (a1 : Int32) (s0 : Int32) (S : a_M) : g_X12_read 21 [.ref 56, .int (a1), .null, .null, .null] [.int (s0)] S = (if s0 < 0 then some (some (.int (s0)), S) else g_X12_read 30 [.ref 56, .int (a1), .null, .int (s0), .null] [] S) :=
  (a_unf0 none t_X12_read c_X12_read k_X12_read 51 21 _ _ S).trans rfl
set_option maxRecDepth 8000 in
theorem b_X12_read_30 (a1 : Int32) (a3 : Int32) (S : a_M) : g_X12_read 30 [.ref 56, .int (a1), .null, .int (a3), .null] [] S = (if a3 < 0 then (if S.1 96 0 < 1000000 then ((x_X12_deliver [.ref 56, .int (a1)] S).bind fun q => g_X12_read 85 [.null, .null, .null, .null, .null] (q.1.toList ++ []) q.2) else some (some (.int (-1)), S)) else (if a1 < 0 ∨ 8 ≤ a1.toNatClampNeg then none else g_X12_read 42 [.ref 56, .int (a1), .null, .int (a3), .int (S.1 81 a1.toNatClampNeg)] [] S)) :=
  (a_unf0 none t_X12_read c_X12_read k_X12_read 51 30 _ _ S).trans rfl
set_option maxRecDepth 8000 in
theorem b_X12_read_42 (a1 : Int32) (a3 : Int32) (a4 : Int32) (S : a_M) : g_X12_read 42 [.ref 56, .int (a1), .null, .int (a3), .int (a4)] [] S = (if a4 < 0 then g_X12_read 30 [.ref 56, .int (a1), .null, .int (a3 + (-1)), .null] [] S else ((x_X12_bestAt [.ref 56, .int (a1), .int (a3), .int (a4)] S).bind fun q => g_X12_read 55 [.ref 56, .int (a1), .null, .int (a3), .int (a4)] (q.1.toList ++ []) q.2)) :=
  (a_unf0 none t_X12_read c_X12_read k_X12_read 51 42 _ _ S).trans rfl
set_option maxRecDepth 8000 in
theorem b_X12_read_55 (a1 : Int32) (a3 : Int32) (a4 : Int32) (S : a_M) : g_X12_read 55 [.ref 56, .int (a1), .null, .int (a3), .int (a4)] [] S = g_X12_read 42 [.ref 56, .int (a1), .null, .int (a3), .int (a4 + (-1))] [] S :=
  (a_unf0 none t_X12_read c_X12_read k_X12_read 51 55 _ _ S).trans rfl
set_option maxRecDepth 8000 in
theorem b_X12_read_85 (s0 : Int32) (S : a_M) : g_X12_read 85 [.null, .null, .null, .null, .null] [.int (s0)] S = some (some (.int (s0)), S) :=
  (a_unf0 none t_X12_read c_X12_read k_X12_read 51 85 _ _ S).trans rfl
def k_X12_cost : Nat → Bool := fun pc => false
noncomputable def g_X12_cost : a_K := a_G none t_X12_cost c_X12_cost
set_option maxRecDepth 8000 in
theorem e_X12_cost (S : a_M) : x_X12_cost [.ref 56] S = some (some (.int (S.1 56 37)), S) :=
  (show x_X12_cost [.ref 56] S = g_X12_cost 0 [.ref 56] [] S from rfl).trans ((a_unf0 none t_X12_cost c_X12_cost k_X12_cost 5 0 _ _ S).trans rfl)
def k_X12_mark : Nat → Bool := fun pc => false
noncomputable def g_X12_mark : a_K := a_G none t_X12_mark c_X12_mark
set_option maxRecDepth 8000 in
theorem e_X12_mark (a1 : Int32) (S : a_M) : x_X12_mark [.ref 56, .int a1] S = ((x_X12_in [.int (a1), .int (0), .int ((S.1 56 38) - 1)] S).bind fun q => g_X12_mark 11 [.ref 56, .int (a1)] (q.1.toList ++ []) q.2) :=
  (show x_X12_mark [.ref 56, .int a1] S = g_X12_mark 0 [.ref 56, .int (a1)] [] S from rfl).trans ((a_unf0 none t_X12_mark c_X12_mark k_X12_mark 17 0 _ _ S).trans rfl)
set_option maxRecDepth 8000 in
theorem b_X12_mark_11 (a1 : Int32) (s0 : Int32) (S : a_M) : g_X12_mark 11 [.ref 56, .int (a1)] [.int (s0)] S = (if s0 = 0 then some (some (.int (-1)), S) else (if a1 < 0 ∨ 14 ≤ a1.toNatClampNeg then none else some (some (.int (S.1 84 a1.toNatClampNeg)), S))) :=
  (a_unf0 none t_X12_mark c_X12_mark k_X12_mark 17 11 _ _ S).trans rfl
def k_X12_isDelivery : Nat → Bool := fun pc => false
noncomputable def g_X12_isDelivery : a_K := a_G none t_X12_isDelivery c_X12_isDelivery
set_option maxRecDepth 8000 in
theorem e_X12_isDelivery (a1 : Int32) (S : a_M) : x_X12_isDelivery [.ref 56, .int a1] S = ((x_X12_in [.int (a1), .int (0), .int ((S.1 56 40) - 1)] S).bind fun q => g_X12_isDelivery 11 [.null, .null] (q.1.toList ++ []) q.2) :=
  (show x_X12_isDelivery [.ref 56, .int a1] S = g_X12_isDelivery 0 [.ref 56, .int (a1)] [] S from rfl).trans ((a_unf0 none t_X12_isDelivery c_X12_isDelivery k_X12_isDelivery 10 0 _ _ S).trans rfl)
set_option maxRecDepth 8000 in
theorem b_X12_isDelivery_11 (s0 : Int32) (S : a_M) : g_X12_isDelivery 11 [.null, .null] [.int (s0)] S = (Option.map (fun r => (r, S)) (if s0 = 0 ∨ s0 = 1 then some (some (.int (s0))) else none)) :=
  (a_unf0 none t_X12_isDelivery c_X12_isDelivery k_X12_isDelivery 10 11 _ _ S).trans rfl
def k_X12_of : Nat → Bool := fun pc => false
noncomputable def g_X12_of : a_K := a_G none t_X12_of c_X12_of
set_option maxRecDepth 8000 in
theorem e_X12_of (a1 : Int32) (a2 : Int32) (S : a_M) : x_X12_of [.ref 56, .int a1, .int a2] S = ((x_X12_isDelivery [.ref 56, .int (a1)] S).bind fun q => g_X12_of 5 [.ref 56, .int (a1), .int (a2)] (q.1.toList ++ []) q.2) :=
  (show x_X12_of [.ref 56, .int a1, .int a2] S = g_X12_of 0 [.ref 56, .int (a1), .int (a2)] [] S from rfl).trans ((a_unf0 none t_X12_of c_X12_of k_X12_of 71 0 _ _ S).trans rfl)
set_option maxRecDepth 8000 in
theorem b_X12_of_5 (a1 : Int32) (a2 : Int32) (s0 : Int32) (S : a_M) : g_X12_of 5 [.ref 56, .int (a1), .int (a2)] [.int (s0)] S = (if s0 = 0 then some (some (.int (-2)), S) else ((x_X12_in [.int (a2), .int (0), .int (12)] S).bind fun q => g_X12_of 15 [.ref 56, .int (a1), .int (a2)] (q.1.toList ++ []) q.2)) :=
  (a_unf0 none t_X12_of c_X12_of k_X12_of 71 5 _ _ S).trans rfl
set_option maxRecDepth 8000 in
theorem b_X12_of_15 (a1 : Int32) (a2 : Int32) (s0 : Int32) (S : a_M) : g_X12_of 15 [.ref 56, .int (a1), .int (a2)] [.int (s0)] S = (if s0 = 0 then some (some (.int (-2)), S) else (if a2 < 5 then (if (5 * a1) + a2 < 0 ∨ 200 ≤ ((5 * a1) + a2).toNatClampNeg then none else (if S.1 85 ((5 * a1) + a2).toNatClampNeg = 0 then some (some (.int (0)), S) else some (some (.int (1)), S))) else (if a2 = 5 then (if a1 < 0 ∨ 40 ≤ a1.toNatClampNeg then none else some (some (.int (S.1 86 a1.toNatClampNeg)), S)) else (if a2 = 6 then (if a1 < 0 ∨ 40 ≤ a1.toNatClampNeg then none else some (some (.int (S.1 87 a1.toNatClampNeg)), S)) else (if a2 = 7 then (if a1 < 0 ∨ 40 ≤ a1.toNatClampNeg then none else some (some (.int (S.1 88 a1.toNatClampNeg)), S)) else (if a2 = 8 then (if a1 < 0 ∨ 40 ≤ a1.toNatClampNeg then none else some (some (.int (S.1 89 a1.toNatClampNeg)), S)) else (if a2 = 9 then (if a1 < 0 ∨ 40 ≤ a1.toNatClampNeg then none else some (some (.int (S.1 90 a1.toNatClampNeg)), S)) else (if a2 = 10 then (if a1 < 0 ∨ 40 ≤ a1.toNatClampNeg then none else some (some (.int (S.1 92 a1.toNatClampNeg)), S)) else (if a2 = 11 then (if a1 < 0 ∨ 40 ≤ a1.toNatClampNeg then none else some (some (.int (S.1 93 a1.toNatClampNeg)), S)) else (if a1 < 0 ∨ 40 ≤ a1.toNatClampNeg then none else some (some (.int (S.1 94 a1.toNatClampNeg)), S))))))))))) :=
  (a_unf0 none t_X12_of c_X12_of k_X12_of 71 15 _ _ S).trans rfl
def k_X12_unitSign : Nat → Bool := fun pc => false
noncomputable def g_X12_unitSign : a_K := a_G none t_X12_unitSign c_X12_unitSign
set_option maxRecDepth 8000 in
theorem e_X12_unitSign (a1 : Int32) (a2 : Int32) (S : a_M) : x_X12_unitSign [.ref 56, .int a1, .int a2] S = ((x_X12_isDelivery [.ref 56, .int (a1)] S).bind fun q => g_X12_unitSign 5 [.ref 56, .int (a1), .int (a2)] (q.1.toList ++ []) q.2) :=
  (show x_X12_unitSign [.ref 56, .int a1, .int a2] S = g_X12_unitSign 0 [.ref 56, .int (a1), .int (a2)] [] S from rfl).trans ((a_unf0 none t_X12_unitSign c_X12_unitSign k_X12_unitSign 27 0 _ _ S).trans rfl)
set_option maxRecDepth 8000 in
theorem b_X12_unitSign_5 (a1 : Int32) (a2 : Int32) (s0 : Int32) (S : a_M) : g_X12_unitSign 5 [.ref 56, .int (a1), .int (a2)] [.int (s0)] S = (if s0 = 0 then some (some (.int (-1)), S) else (if a1 < 0 ∨ 40 ≤ a1.toNatClampNeg then none else ((x_X12_in [.int (a2), .int (0), .int ((S.1 90 a1.toNatClampNeg) - 1)] S).bind fun q => g_X12_unitSign 21 [.ref 56, .int (a1), .int (a2)] (q.1.toList ++ []) q.2))) :=
  (a_unf0 none t_X12_unitSign c_X12_unitSign k_X12_unitSign 27 5 _ _ S).trans rfl
set_option maxRecDepth 8000 in
theorem b_X12_unitSign_21 (a1 : Int32) (a2 : Int32) (s0 : Int32) (S : a_M) : g_X12_unitSign 21 [.ref 56, .int (a1), .int (a2)] [.int (s0)] S = (if s0 = 0 then some (some (.int (-1)), S) else (if (4 * a1) + a2 < 0 ∨ 160 ≤ ((4 * a1) + a2).toNatClampNeg then none else some (some (.int (S.1 91 ((4 * a1) + a2).toNatClampNeg)), S))) :=
  (a_unf0 none t_X12_unitSign c_X12_unitSign k_X12_unitSign 27 21 _ _ S).trans rfl
def k_X12_serves : Nat → Bool := fun pc => bif Nat.beq pc 34 then true else bif Nat.beq pc 37 then true else bif Nat.beq pc 42 then true else bif Nat.beq pc 72 then true else bif Nat.beq pc 107 then true else bif Nat.beq pc 111 then true else bif Nat.beq pc 112 then true else false
noncomputable def g_X12_serves : a_K := a_G none t_X12_serves c_X12_serves
set_option maxRecDepth 8000 in
theorem e_X12_serves (a1 : Int32) (a2 : Int32) (S : a_M) : x_X12_serves [.ref 56, .int a1, .int a2] S = (if a2 < 0 ∨ 40 ≤ a2.toNatClampNeg then none else (if a1 < 0 ∨ 60 ≤ a1.toNatClampNeg then none else (if S.1 78 a1.toNatClampNeg = 0 then g_X12_serves 37 [.ref 56, .int (a1), .int (a2), .int (S.1 86 a2.toNatClampNeg), .null, .null, .null] [] S else (if a1 < 0 ∨ 60 ≤ a1.toNatClampNeg then none else (if S.1 78 a1.toNatClampNeg = 1 then g_X12_serves 34 [.ref 56, .int (a1), .int (a2), .int (S.1 86 a2.toNatClampNeg), .null, .null, .null] [.int (1), .int ((S.1 86 a2.toNatClampNeg) - (S.1 86 a2.toNatClampNeg) / 2 * 2)] S else g_X12_serves 34 [.ref 56, .int (a1), .int (a2), .int (S.1 86 a2.toNatClampNeg), .null, .null, .null] [.int (0), .int ((S.1 86 a2.toNatClampNeg) - (S.1 86 a2.toNatClampNeg) / 2 * 2)] S))))) :=
  (show x_X12_serves [.ref 56, .int a1, .int a2] S = g_X12_serves 0 [.ref 56, .int (a1), .int (a2), .null, .null, .null, .null] [] S from rfl).trans ((a_unf0 none t_X12_serves c_X12_serves k_X12_serves 96 0 _ _ S).trans rfl)
set_option maxRecDepth 8000 in
theorem b_X12_serves_34 (a1 : Int32) (a2 : Int32) (a3 : Int32) (s0 : Int32) (s1 : Int32) (S : a_M) : g_X12_serves 34 [.ref 56, .int (a1), .int (a2), .int (a3), .null, .null, .null] [.int (s1), .int (s0)] S = (if s0 = s1 then g_X12_serves 37 [.ref 56, .int (a1), .int (a2), .int (a3), .null, .null, .null] [] S else g_X12_serves 42 [.ref 56, .int (a1), .int (a2), .int (a3), .null, .null, .null] [.int (0)] S) :=
  (a_unf0 none t_X12_serves c_X12_serves k_X12_serves 96 34 _ _ S).trans rfl
set_option maxRecDepth 8000 in
theorem b_X12_serves_37 (a1 : Int32) (a2 : Int32) (a3 : Int32) (S : a_M) : g_X12_serves 37 [.ref 56, .int (a1), .int (a2), .int (a3), .null, .null, .null] [] S = g_X12_serves 42 [.ref 56, .int (a1), .int (a2), .int (a3), .null, .null, .null] [.int (1)] S :=
  (a_unf0 none t_X12_serves c_X12_serves k_X12_serves 96 37 _ _ S).trans rfl
set_option maxRecDepth 8000 in
theorem b_X12_serves_42 (a1 : Int32) (a2 : Int32) (a3 : Int32) (s0 : Int32) (S : a_M) : g_X12_serves 42 [.ref 56, .int (a1), .int (a2), .int (a3), .null, .null, .null] [.int (s0)] S = (if a1 < 0 ∨ 60 ≤ a1.toNatClampNeg then none else (if a2 < 0 ∨ 40 ≤ a2.toNatClampNeg then none else (if S.1 92 a2.toNatClampNeg < 0 then g_X12_serves 72 [.ref 56, .int (a1), .int (a2), .int (a3), .int (s0), .int (S.1 79 a1.toNatClampNeg), .null] [] S else (if a2 < 0 ∨ 40 ≤ a2.toNatClampNeg then none else (if S.1 92 a2.toNatClampNeg = S.1 79 a1.toNatClampNeg then g_X12_serves 72 [.ref 56, .int (a1), .int (a2), .int (a3), .int (s0), .int (S.1 79 a1.toNatClampNeg), .null] [] S else g_X12_serves 111 [.ref 56, .int (a1), .int (a2), .int (a3), .int (s0), .null, .null] [] S))))) :=
  (a_unf0 none t_X12_serves c_X12_serves k_X12_serves 96 42 _ _ S).trans rfl
set_option maxRecDepth 8000 in
theorem b_X12_serves_72 (a1 : Int32) (a2 : Int32) (a3 : Int32) (a4 : Int32) (a5 : Int32) (S : a_M) : g_X12_serves 72 [.ref 56, .int (a1), .int (a2), .int (a3), .int (a4), .int (a5), .null] [] S = (if a2 < 0 ∨ 40 ≤ a2.toNatClampNeg then none else (if S.1 93 a2.toNatClampNeg < 0 then g_X12_serves 107 [.ref 56, .int (a1), .int (a2), .int (a3), .int (a4), .null, .null] [] S else (if a2 < 0 ∨ 40 ≤ a2.toNatClampNeg then none else (if a5 < 0 ∨ 20 ≤ a5.toNatClampNeg then none else (if a5 < 0 ∨ 20 ≤ a5.toNatClampNeg then none else ((x_X12_in [.int (S.1 93 a2.toNatClampNeg), .int (S.1 72 a5.toNatClampNeg), .int (S.1 73 a5.toNatClampNeg)] S).bind fun q => g_X12_serves 104 [.ref 56, .int (a1), .int (a2), .int (a3), .int (a4), .null, .null] (q.1.toList ++ []) q.2)))))) :=
  (a_unf0 none t_X12_serves c_X12_serves k_X12_serves 96 72 _ _ S).trans rfl
set_option maxRecDepth 8000 in
theorem b_X12_serves_104 (a1 : Int32) (a2 : Int32) (a3 : Int32) (a4 : Int32) (s0 : Int32) (S : a_M) : g_X12_serves 104 [.ref 56, .int (a1), .int (a2), .int (a3), .int (a4), .null, .null] [.int (s0)] S = (if s0 = 0 then g_X12_serves 111 [.ref 56, .int (a1), .int (a2), .int (a3), .int (a4), .null, .null] [] S else g_X12_serves 107 [.ref 56, .int (a1), .int (a2), .int (a3), .int (a4), .null, .null] [] S) :=
  (a_unf0 none t_X12_serves c_X12_serves k_X12_serves 96 104 _ _ S).trans rfl
set_option maxRecDepth 8000 in
theorem b_X12_serves_107 (a1 : Int32) (a2 : Int32) (a3 : Int32) (a4 : Int32) (S : a_M) : g_X12_serves 107 [.ref 56, .int (a1), .int (a2), .int (a3), .int (a4), .null, .null] [] S = g_X12_serves 112 [.ref 56, .int (a1), .int (a2), .int (a3), .int (a4), .null, .null] [.int (1)] S :=
  (a_unf0 none t_X12_serves c_X12_serves k_X12_serves 96 107 _ _ S).trans rfl
set_option maxRecDepth 8000 in
theorem b_X12_serves_111 (a1 : Int32) (a2 : Int32) (a3 : Int32) (a4 : Int32) (S : a_M) : g_X12_serves 111 [.ref 56, .int (a1), .int (a2), .int (a3), .int (a4), .null, .null] [] S = g_X12_serves 112 [.ref 56, .int (a1), .int (a2), .int (a3), .int (a4), .null, .null] [.int (0)] S :=
  (a_unf0 none t_X12_serves c_X12_serves k_X12_serves 96 111 _ _ S).trans rfl
set_option maxRecDepth 8000 in
theorem b_X12_serves_112 (a1 : Int32) (a2 : Int32) (a3 : Int32) (a4 : Int32) (s0 : Int32) (S : a_M) : g_X12_serves 112 [.ref 56, .int (a1), .int (a2), .int (a3), .int (a4), .null, .null] [.int (s0)] S = (if a1 < 0 ∨ 60 ≤ a1.toNatClampNeg then none else (if a2 < 0 ∨ 40 ≤ a2.toNatClampNeg then none else (if S.1 75 a1.toNatClampNeg = S.1 88 a2.toNatClampNeg then (if a1 < 0 ∨ 60 ≤ a1.toNatClampNeg then none else (if a1 < 0 ∨ 60 ≤ a1.toNatClampNeg then none else ((x_X12_in [.int (a3), .int (S.1 76 a1.toNatClampNeg), .int (S.1 77 a1.toNatClampNeg)] S).bind fun q => g_X12_serves 145 [.null, .null, .null, .null, .int (a4), .null, .int (s0)] (q.1.toList ++ []) q.2))) else some (some (.int (0)), S)))) :=
  (a_unf0 none t_X12_serves c_X12_serves k_X12_serves 96 112 _ _ S).trans rfl
set_option maxRecDepth 8000 in
theorem b_X12_serves_145 (a4 : Int32) (a6 : Int32) (s0 : Int32) (S : a_M) : g_X12_serves 145 [.null, .null, .null, .null, .int (a4), .null, .int (a6)] [.int (s0)] S = (if s0 = 0 then some (some (.int (0)), S) else (if a4 = 0 then some (some (.int (0)), S) else (if a6 = 0 then some (some (.int (0)), S) else some (some (.int (1)), S)))) :=
  (a_unf0 none t_X12_serves c_X12_serves k_X12_serves 96 145 _ _ S).trans rfl
def k_X12_carrier : Nat → Bool := fun pc => bif Nat.beq pc 13 then true else false
noncomputable def g_X12_carrier : a_K := a_G none t_X12_carrier c_X12_carrier
set_option maxRecDepth 8000 in
theorem e_X12_carrier (a1 : Int32) (S : a_M) : x_X12_carrier [.ref 56, .int a1] S = ((x_X12_isDelivery [.ref 56, .int (a1)] S).bind fun q => g_X12_carrier 5 [.ref 56, .int (a1), .null] (q.1.toList ++ []) q.2) :=
  (show x_X12_carrier [.ref 56, .int a1] S = g_X12_carrier 0 [.ref 56, .int (a1), .null] [] S from rfl).trans ((a_unf0 none t_X12_carrier c_X12_carrier k_X12_carrier 38 0 _ _ S).trans rfl)
set_option maxRecDepth 8000 in
theorem b_X12_carrier_5 (a1 : Int32) (s0 : Int32) (S : a_M) : g_X12_carrier 5 [.ref 56, .int (a1), .null] [.int (s0)] S = (if s0 = 0 then some (some (.int (-2)), S) else g_X12_carrier 13 [.ref 56, .int (a1), .int (0)] [] S) :=
  (a_unf0 none t_X12_carrier c_X12_carrier k_X12_carrier 38 5 _ _ S).trans rfl
set_option maxRecDepth 8000 in
theorem b_X12_carrier_13 (a1 : Int32) (a2 : Int32) (S : a_M) : g_X12_carrier 13 [.ref 56, .int (a1), .int (a2)] [] S = (if a2 < S.1 56 26 then (if a1 < 0 ∨ 40 ≤ a1.toNatClampNeg then none else (if S.1 88 a1.toNatClampNeg < 0 then some (some (.int (-1)), S) else (if a1 < 0 ∨ 40 ≤ a1.toNatClampNeg then none else (if S.1 86 a1.toNatClampNeg < 0 then some (some (.int (-1)), S) else ((x_X12_serves [.ref 56, .int (a2), .int (a1)] S).bind fun q => g_X12_carrier 45 [.ref 56, .int (a1), .int (a2)] (q.1.toList ++ []) q.2))))) else some (some (.int (-1)), S)) :=
  (a_unf0 none t_X12_carrier c_X12_carrier k_X12_carrier 38 13 _ _ S).trans rfl
set_option maxRecDepth 8000 in
theorem b_X12_carrier_45 (a1 : Int32) (a2 : Int32) (s0 : Int32) (S : a_M) : g_X12_carrier 45 [.ref 56, .int (a1), .int (a2)] [.int (s0)] S = (if s0 = 0 then g_X12_carrier 13 [.ref 56, .int (a1), .int (a2 + 1)] [] S else (if a2 < 0 ∨ 60 ≤ a2.toNatClampNeg then none else some (some (.int (S.1 80 a2.toNatClampNeg)), S))) :=
  (a_unf0 none t_X12_carrier c_X12_carrier k_X12_carrier 38 45 _ _ S).trans rfl
def k_X12_write : Nat → Bool := fun pc => false
noncomputable def g_X12_write : a_K := a_G none t_X12_write c_X12_write
set_option maxRecDepth 8000 in
theorem e_X12_write (a1 : Int32) (S : a_M) : x_X12_write [.ref 56, .int a1] S = (if (65535 : Int32) < a1 then (if S.1 56 63 < 0 ∨ 400 ≤ (S.1 56 63).toNatClampNeg then none else (if (S.1 56 63) + 1 < 0 ∨ 400 ≤ ((S.1 56 63) + 1).toNatClampNeg then none else some (none, (a_wi (a_wi (a_wi S 102 ((S.1 56 63).toNatClampNeg) (55296 + ((a1 - 65536) / 1024))) 102 (((S.1 56 63) + 1).toNatClampNeg) (56320 + ((a1 - 65536) - (a1 - 65536) / 1024 * 1024))) 56 63 ((S.1 56 63) + 2))))) else (if S.1 56 63 < 0 ∨ 400 ≤ (S.1 56 63).toNatClampNeg then none else some (none, (a_wi (a_wi S 102 ((S.1 56 63).toNatClampNeg) (a1)) 56 63 ((S.1 56 63) + 1))))) :=
  (show x_X12_write [.ref 56, .int a1] S = g_X12_write 0 [.ref 56, .int (a1)] [] S from rfl).trans ((a_unf0 none t_X12_write c_X12_write k_X12_write 51 0 _ _ S).trans rfl)
def k_X12_writeFigures : Nat → Bool := fun pc => bif Nat.beq pc 2 then true else false
noncomputable def g_X12_writeFigures : a_K := a_G none t_X12_writeFigures c_X12_writeFigures
set_option maxRecDepth 8000 in
theorem e_X12_writeFigures (a1 : Int32) (a2 : Int32) (S : a_M) : x_X12_writeFigures [.ref 56, .int a1, .int a2] S = g_X12_writeFigures 2 [.ref 56, .int (a1), .null, .int (a2)] [] S :=
  (show x_X12_writeFigures [.ref 56, .int a1, .int a2] S = g_X12_writeFigures 0 [.ref 56, .int (a1), .int (a2), .null] [] S from rfl).trans ((a_unf0 none t_X12_writeFigures c_X12_writeFigures k_X12_writeFigures 21 0 _ _ S).trans rfl)
set_option maxRecDepth 8000 in
theorem b_X12_writeFigures_2 (a1 : Int32) (a3 : Int32) (S : a_M) : g_X12_writeFigures 2 [.ref 56, .int (a1), .null, .int (a3)] [] S = (if (0 : Int32) < a3 then (if a3 = 0 then none else ((x_X12_write [.ref 56, .int (48 + ((a1 / a3) - (a1 / a3) / 10 * 10))] S).bind fun q => g_X12_writeFigures 19 [.ref 56, .int (a1), .null, .int (a3)] (q.1.toList ++ []) q.2)) else some (none, S)) :=
  (a_unf0 none t_X12_writeFigures c_X12_writeFigures k_X12_writeFigures 21 2 _ _ S).trans rfl
set_option maxRecDepth 8000 in
theorem b_X12_writeFigures_19 (a1 : Int32) (a3 : Int32) (S : a_M) : g_X12_writeFigures 19 [.ref 56, .int (a1), .null, .int (a3)] [] S = g_X12_writeFigures 2 [.ref 56, .int (a1), .null, .int (a3 / 10)] [] S :=
  (a_unf0 none t_X12_writeFigures c_X12_writeFigures k_X12_writeFigures 21 19 _ _ S).trans rfl
def k_X12_writeName : Nat → Bool := fun pc => bif Nat.beq pc 2 then true else bif Nat.beq pc 22 then true else bif Nat.beq pc 49 then true else bif Nat.beq pc 94 then true else bif Nat.beq pc 96 then true else false
noncomputable def g_X12_writeName : a_K := a_G none t_X12_writeName c_X12_writeName
set_option maxRecDepth 8000 in
theorem e_X12_writeName (a1 : Int32) (a2 : Int32) (S : a_M) : x_X12_writeName [.ref 56, .int a1, .int a2] S = g_X12_writeName 2 [.ref 56, .int (a1), .int (a2), .int (0), .null, .null, .null] [] S :=
  (show x_X12_writeName [.ref 56, .int a1, .int a2] S = g_X12_writeName 0 [.ref 56, .int (a1), .int (a2), .null, .null, .null, .null] [] S from rfl).trans ((a_unf0 none t_X12_writeName c_X12_writeName k_X12_writeName 61 0 _ _ S).trans rfl)
set_option maxRecDepth 8000 in
theorem b_X12_writeName_2 (a1 : Int32) (a2 : Int32) (a3 : Int32) (S : a_M) : g_X12_writeName 2 [.ref 56, .int (a1), .int (a2), .int (a3), .null, .null, .null] [] S = (if a1 < 0 ∨ 60 ≤ a1.toNatClampNeg then none else (if a3 < S.1 64 a1.toNatClampNeg then g_X12_writeName 22 [.ref 56, .int (a1), .int (a2), .int (a3), .int ((4 * a1) + a3), .int (0), .null] [] S else some (none, S))) :=
  (a_unf0 none t_X12_writeName c_X12_writeName k_X12_writeName 61 2 _ _ S).trans rfl
set_option maxRecDepth 8000 in
theorem b_X12_writeName_22 (a1 : Int32) (a2 : Int32) (a3 : Int32) (a4 : Int32) (a5 : Int32) (S : a_M) : g_X12_writeName 22 [.ref 56, .int (a1), .int (a2), .int (a3), .int (a4), .int (a5), .null] [] S = (if a4 < 0 ∨ 240 ≤ a4.toNatClampNeg then none else (if a5 < S.1 65 a4.toNatClampNeg then (if (0 : Int32) < a3 then (if a5 = 0 then ((x_X12_write [.ref 56, .int (32)] S).bind fun q => g_X12_writeName 49 [.ref 56, .int (a1), .int (a2), .int (a3), .int (a4), .int (a5), .null] (q.1.toList ++ []) q.2) else g_X12_writeName 49 [.ref 56, .int (a1), .int (a2), .int (a3), .int (a4), .int (a5), .null] [] S) else g_X12_writeName 49 [.ref 56, .int (a1), .int (a2), .int (a3), .int (a4), .int (a5), .null] [] S) else g_X12_writeName 2 [.ref 56, .int (a1), .int (a2), .int (a3 + 1), .null, .null, .null] [] S)) :=
  (a_unf0 none t_X12_writeName c_X12_writeName k_X12_writeName 61 22 _ _ S).trans rfl
set_option maxRecDepth 8000 in
theorem b_X12_writeName_49 (a1 : Int32) (a2 : Int32) (a3 : Int32) (a4 : Int32) (a5 : Int32) (S : a_M) : g_X12_writeName 49 [.ref 56, .int (a1), .int (a2), .int (a3), .int (a4), .int (a5), .null] [] S = (if (16 * a4) + a5 < 0 ∨ 3840 ≤ ((16 * a4) + a5).toNatClampNeg then none else (if a2 = 0 then g_X12_writeName 94 [.ref 56, .int (a1), .int (a2), .int (a3), .int (a4), .int (a5), .int (S.1 66 ((16 * a4) + a5).toNatClampNeg)] [.ref 56] S else (if a5 = 0 then ((x_X12_in [.int (S.1 66 ((16 * a4) + a5).toNatClampNeg), .int (97), .int (122)] S).bind fun q => g_X12_writeName 83 [.ref 56, .int (a1), .int (a2), .int (a3), .int (a4), .int (a5), .int (S.1 66 ((16 * a4) + a5).toNatClampNeg)] (q.1.toList ++ [.ref 56]) q.2) else g_X12_writeName 94 [.ref 56, .int (a1), .int (a2), .int (a3), .int (a4), .int (a5), .int (S.1 66 ((16 * a4) + a5).toNatClampNeg)] [.ref 56] S))) :=
  (a_unf0 none t_X12_writeName c_X12_writeName k_X12_writeName 61 49 _ _ S).trans rfl
set_option maxRecDepth 8000 in
theorem b_X12_writeName_83 (a1 : Int32) (a2 : Int32) (a3 : Int32) (a4 : Int32) (a5 : Int32) (a6 : Int32) (s1 : Int32) (S : a_M) : g_X12_writeName 83 [.ref 56, .int (a1), .int (a2), .int (a3), .int (a4), .int (a5), .int (a6)] [.int (s1), .ref 56] S = (if s1 = 0 then g_X12_writeName 94 [.ref 56, .int (a1), .int (a2), .int (a3), .int (a4), .int (a5), .int (a6)] [.ref 56] S else g_X12_writeName 96 [.ref 56, .int (a1), .int (a2), .int (a3), .int (a4), .int (a5), .null] [.int (a6 - 32), .ref 56] S) :=
  (a_unf0 none t_X12_writeName c_X12_writeName k_X12_writeName 61 83 _ _ S).trans rfl
set_option maxRecDepth 8000 in
theorem b_X12_writeName_94 (a1 : Int32) (a2 : Int32) (a3 : Int32) (a4 : Int32) (a5 : Int32) (a6 : Int32) (S : a_M) : g_X12_writeName 94 [.ref 56, .int (a1), .int (a2), .int (a3), .int (a4), .int (a5), .int (a6)] [.ref 56] S = g_X12_writeName 96 [.ref 56, .int (a1), .int (a2), .int (a3), .int (a4), .int (a5), .null] [.int (a6), .ref 56] S :=
  (a_unf0 none t_X12_writeName c_X12_writeName k_X12_writeName 61 94 _ _ S).trans rfl
set_option maxRecDepth 8000 in
theorem b_X12_writeName_96 (a1 : Int32) (a2 : Int32) (a3 : Int32) (a4 : Int32) (a5 : Int32) (s1 : Int32) (S : a_M) : g_X12_writeName 96 [.ref 56, .int (a1), .int (a2), .int (a3), .int (a4), .int (a5), .null] [.int (s1), .ref 56] S = ((x_X12_write [.ref 56, .int (s1)] S).bind fun q => g_X12_writeName 99 [.ref 56, .int (a1), .int (a2), .int (a3), .int (a4), .int (a5), .null] (q.1.toList ++ []) q.2) :=
  (a_unf0 none t_X12_writeName c_X12_writeName k_X12_writeName 61 96 _ _ S).trans rfl
set_option maxRecDepth 8000 in
theorem b_X12_writeName_99 (a1 : Int32) (a2 : Int32) (a3 : Int32) (a4 : Int32) (a5 : Int32) (S : a_M) : g_X12_writeName 99 [.ref 56, .int (a1), .int (a2), .int (a3), .int (a4), .int (a5), .null] [] S = g_X12_writeName 22 [.ref 56, .int (a1), .int (a2), .int (a3), .int (a4), .int (a5 + 1), .null] [] S :=
  (a_unf0 none t_X12_writeName c_X12_writeName k_X12_writeName 61 99 _ _ S).trans rfl
def k_X12_writePart : Nat → Bool := fun pc => bif Nat.beq pc 62 then true else bif Nat.beq pc 137 then true else false
noncomputable def g_X12_writePart : a_K := a_G none t_X12_writePart c_X12_writePart
set_option maxRecDepth 8000 in
theorem e_X12_writePart (a1 : Int32) (a2 : Int32) (S : a_M) : x_X12_writePart [.ref 56, .int a1, .int a2] S = (if a2 = 0 then (if a1 < 0 ∨ 40 ≤ a1.toNatClampNeg then none else (if (9999 : Int32) < S.1 86 a1.toNatClampNeg then g_X12_writePart 62 [.ref 56, .int (a1), .null, .null] [.int (10000), .int (S.1 86 a1.toNatClampNeg), .ref 56] S else (if (999 : Int32) < S.1 86 a1.toNatClampNeg then g_X12_writePart 62 [.ref 56, .int (a1), .null, .null] [.int (1000), .int (S.1 86 a1.toNatClampNeg), .ref 56] S else (if (99 : Int32) < S.1 86 a1.toNatClampNeg then g_X12_writePart 62 [.ref 56, .int (a1), .null, .null] [.int (100), .int (S.1 86 a1.toNatClampNeg), .ref 56] S else (if (9 : Int32) < S.1 86 a1.toNatClampNeg then g_X12_writePart 62 [.ref 56, .int (a1), .null, .null] [.int (10), .int (S.1 86 a1.toNatClampNeg), .ref 56] S else g_X12_writePart 62 [.ref 56, .int (a1), .null, .null] [.int (1), .int (S.1 86 a1.toNatClampNeg), .ref 56] S))))) else (if a2 = 1 then (if a1 < 0 ∨ 40 ≤ a1.toNatClampNeg then none else (if 4 * (S.1 88 a1.toNatClampNeg) < 0 ∨ 120 ≤ (4 * (S.1 88 a1.toNatClampNeg)).toNatClampNeg then none else ((x_X12_writeName [.ref 56, .int (S.1 70 (4 * (S.1 88 a1.toNatClampNeg)).toNatClampNeg), .int (1)] S).bind fun q => g_X12_writePart 110 [.null, .null, .null, .null] (q.1.toList ++ []) q.2))) else (if a2 = 2 then (if a1 < 0 ∨ 40 ≤ a1.toNatClampNeg then none else ((x_X12_writeName [.ref 56, .int (S.1 89 a1.toNatClampNeg), .int (0)] S).bind fun q => g_X12_writePart 129 [.ref 56, .int (a1), .null, .null] (q.1.toList ++ []) q.2)) else (if a2 = 3 then (if a1 < 0 ∨ 40 ≤ a1.toNatClampNeg then none else (if S.1 92 a1.toNatClampNeg < 0 ∨ 20 ≤ (S.1 92 a1.toNatClampNeg).toNatClampNeg then none else ((x_X12_writeName [.ref 56, .int (S.1 71 (S.1 92 a1.toNatClampNeg).toNatClampNeg), .int (1)] S).bind fun q => g_X12_writePart 191 [.null, .null, .null, .null] (q.1.toList ++ []) q.2))) else (if a1 < 0 ∨ 40 ≤ a1.toNatClampNeg then none else ((x_X12_writeFigures [.ref 56, .int (S.1 93 a1.toNatClampNeg), .int (10000)] S).bind fun q => g_X12_writePart 207 [.null, .null, .null, .null] (q.1.toList ++ []) q.2)))))) :=
  (show x_X12_writePart [.ref 56, .int a1, .int a2] S = g_X12_writePart 0 [.ref 56, .int (a1), .int (a2), .null] [] S from rfl).trans ((a_unf0 none t_X12_writePart c_X12_writePart k_X12_writePart 117 0 _ _ S).trans rfl)
set_option maxRecDepth 8000 in
theorem b_X12_writePart_62 (a1 : Int32) (s1 : Int32) (s2 : Int32) (S : a_M) : g_X12_writePart 62 [.ref 56, .int (a1), .null, .null] [.int (s2), .int (s1), .ref 56] S = ((x_X12_writeFigures [.ref 56, .int (s1), .int (s2)] S).bind fun q => g_X12_writePart 65 [.ref 56, .int (a1), .null, .null] (q.1.toList ++ []) q.2) :=
  (a_unf0 none t_X12_writePart c_X12_writePart k_X12_writePart 117 62 _ _ S).trans rfl
set_option maxRecDepth 8000 in
theorem b_X12_writePart_65 (a1 : Int32) (S : a_M) : g_X12_writePart 65 [.ref 56, .int (a1), .null, .null] [] S = (if a1 < 0 ∨ 40 ≤ a1.toNatClampNeg then none else (if (0 : Int32) < S.1 87 a1.toNatClampNeg then (if a1 < 0 ∨ 40 ≤ a1.toNatClampNeg then none else ((x_X12_write [.ref 56, .int (S.1 87 a1.toNatClampNeg)] S).bind fun q => g_X12_writePart 84 [.null, .null, .null, .null] (q.1.toList ++ []) q.2)) else some (none, S))) :=
  (a_unf0 none t_X12_writePart c_X12_writePart k_X12_writePart 117 65 _ _ S).trans rfl
set_option maxRecDepth 8000 in
theorem b_X12_writePart_84 (S : a_M) : g_X12_writePart 84 [.null, .null, .null, .null] [] S = some (none, S) :=
  (a_unf0 none t_X12_writePart c_X12_writePart k_X12_writePart 117 84 _ _ S).trans rfl
set_option maxRecDepth 8000 in
theorem b_X12_writePart_110 (S : a_M) : g_X12_writePart 110 [.null, .null, .null, .null] [] S = some (none, S) :=
  (a_unf0 none t_X12_writePart c_X12_writePart k_X12_writePart 117 110 _ _ S).trans rfl
set_option maxRecDepth 8000 in
theorem b_X12_writePart_129 (a1 : Int32) (S : a_M) : g_X12_writePart 129 [.ref 56, .int (a1), .null, .null] [] S = ((x_X12_write [.ref 56, .int (32)] S).bind fun q => g_X12_writePart 135 [.ref 56, .int (a1), .null, .null] (q.1.toList ++ []) q.2) :=
  (a_unf0 none t_X12_writePart c_X12_writePart k_X12_writePart 117 129 _ _ S).trans rfl
set_option maxRecDepth 8000 in
theorem b_X12_writePart_135 (a1 : Int32) (S : a_M) : g_X12_writePart 135 [.ref 56, .int (a1), .null, .null] [] S = g_X12_writePart 137 [.ref 56, .int (a1), .null, .int (0)] [] S :=
  (a_unf0 none t_X12_writePart c_X12_writePart k_X12_writePart 117 135 _ _ S).trans rfl
set_option maxRecDepth 8000 in
theorem b_X12_writePart_137 (a1 : Int32) (a3 : Int32) (S : a_M) : g_X12_writePart 137 [.ref 56, .int (a1), .null, .int (a3)] [] S = (if a1 < 0 ∨ 40 ≤ a1.toNatClampNeg then none else (if a3 < S.1 90 a1.toNatClampNeg then (if (4 * a1) + a3 < 0 ∨ 160 ≤ ((4 * a1) + a3).toNatClampNeg then none else ((x_X12_write [.ref 56, .int (S.1 91 ((4 * a1) + a3).toNatClampNeg)] S).bind fun q => g_X12_writePart 161 [.ref 56, .int (a1), .null, .int (a3)] (q.1.toList ++ []) q.2)) else some (none, S))) :=
  (a_unf0 none t_X12_writePart c_X12_writePart k_X12_writePart 117 137 _ _ S).trans rfl
set_option maxRecDepth 8000 in
theorem b_X12_writePart_161 (a1 : Int32) (a3 : Int32) (S : a_M) : g_X12_writePart 161 [.ref 56, .int (a1), .null, .int (a3)] [] S = g_X12_writePart 137 [.ref 56, .int (a1), .null, .int (a3 + 1)] [] S :=
  (a_unf0 none t_X12_writePart c_X12_writePart k_X12_writePart 117 161 _ _ S).trans rfl
set_option maxRecDepth 8000 in
theorem b_X12_writePart_191 (S : a_M) : g_X12_writePart 191 [.null, .null, .null, .null] [] S = some (none, S) :=
  (a_unf0 none t_X12_writePart c_X12_writePart k_X12_writePart 117 191 _ _ S).trans rfl
set_option maxRecDepth 8000 in
theorem b_X12_writePart_207 (S : a_M) : g_X12_writePart 207 [.null, .null, .null, .null] [] S = some (none, S) :=
  (a_unf0 none t_X12_writePart c_X12_writePart k_X12_writePart 117 207 _ _ S).trans rfl
def k_X12_canonical : Nat → Bool := fun pc => bif Nat.beq pc 18 then true else bif Nat.beq pc 49 then true else bif Nat.beq pc 75 then true else false
noncomputable def g_X12_canonical : a_K := a_G none t_X12_canonical c_X12_canonical
set_option maxRecDepth 8000 in
theorem e_X12_canonical (a1 : Int32) (S : a_M) : x_X12_canonical [.ref 56, .int a1] S = ((x_X12_isDelivery [.ref 56, .int (a1)] S).bind fun q => g_X12_canonical 5 [.ref 56, .int (a1), .null] (q.1.toList ++ []) q.2) :=
  (show x_X12_canonical [.ref 56, .int a1] S = g_X12_canonical 0 [.ref 56, .int (a1), .null] [] S from rfl).trans ((a_unf0 none t_X12_canonical c_X12_canonical k_X12_canonical 66 0 _ _ S).trans rfl)
set_option maxRecDepth 8000 in
theorem b_X12_canonical_5 (a1 : Int32) (s0 : Int32) (S : a_M) : g_X12_canonical 5 [.ref 56, .int (a1), .null] [.int (s0)] S = (if s0 = 0 then some (some (.int (-2)), S) else g_X12_canonical 18 [.ref 56, .int (a1), .int (0)] [] (a_wi S 56 63 (0))) :=
  (a_unf0 none t_X12_canonical c_X12_canonical k_X12_canonical 66 5 _ _ S).trans rfl
set_option maxRecDepth 8000 in
theorem b_X12_canonical_18 (a1 : Int32) (a2 : Int32) (S : a_M) : g_X12_canonical 18 [.ref 56, .int (a1), .int (a2)] [] S = (if a2 < 5 then (if (5 * a1) + a2 < 0 ∨ 200 ≤ ((5 * a1) + a2).toNatClampNeg then none else (if S.1 85 ((5 * a1) + a2).toNatClampNeg = 0 then g_X12_canonical 18 [.ref 56, .int (a1), .int (a2 + 1)] [] S else (if (0 : Int32) < S.1 56 63 then ((x_X12_write [.ref 56, .int (32)] S).bind fun q => g_X12_canonical 49 [.ref 56, .int (a1), .int (a2)] (q.1.toList ++ []) q.2) else g_X12_canonical 49 [.ref 56, .int (a1), .int (a2)] [] S))) else (if (120 : Int32) < S.1 56 63 then some (some (.int (-8)), S) else g_X12_canonical 75 [.ref 56, .null, .int (0)] [] S)) :=
  (a_unf0 none t_X12_canonical c_X12_canonical k_X12_canonical 66 18 _ _ S).trans rfl
set_option maxRecDepth 8000 in
theorem b_X12_canonical_49 (a1 : Int32) (a2 : Int32) (S : a_M) : g_X12_canonical 49 [.ref 56, .int (a1), .int (a2)] [] S = ((x_X12_writePart [.ref 56, .int (a1), .int (a2)] S).bind fun q => g_X12_canonical 55 [.ref 56, .int (a1), .int (a2)] (q.1.toList ++ []) q.2) :=
  (a_unf0 none t_X12_canonical c_X12_canonical k_X12_canonical 66 49 _ _ S).trans rfl
set_option maxRecDepth 8000 in
theorem b_X12_canonical_55 (a1 : Int32) (a2 : Int32) (S : a_M) : g_X12_canonical 55 [.ref 56, .int (a1), .int (a2)] [] S = g_X12_canonical 18 [.ref 56, .int (a1), .int (a2 + 1)] [] S :=
  (a_unf0 none t_X12_canonical c_X12_canonical k_X12_canonical 66 55 _ _ S).trans rfl
set_option maxRecDepth 8000 in
theorem b_X12_canonical_75 (a2 : Int32) (S : a_M) : g_X12_canonical 75 [.ref 56, .null, .int (a2)] [] S = (if a2 < S.1 56 63 then (if a2 < 0 ∨ 400 ≤ a2.toNatClampNeg then none else (if a2 < 0 ∨ 120 ≤ a2.toNatClampNeg then none else g_X12_canonical 75 [.ref 56, .null, .int (a2 + 1)] [] (a_wi S 57 (a2.toNatClampNeg) (S.1 102 a2.toNatClampNeg)))) else some (some (.int (S.1 56 63)), (a_wi S 56 1 (S.1 56 63)))) :=
  (a_unf0 none t_X12_canonical c_X12_canonical k_X12_canonical 66 75 _ _ S).trans rfl
def k_X12_unitAt : Nat → Bool := fun pc => false
noncomputable def g_X12_unitAt : a_K := a_G none t_X12_unitAt c_X12_unitAt
set_option maxRecDepth 8000 in
theorem e_X12_unitAt (a1 : Int32) (S : a_M) : x_X12_unitAt [.ref 56, .int a1] S = ((x_X12_in [.int (a1), .int (0), .int ((S.1 56 1) - 1)] S).bind fun q => g_X12_unitAt 11 [.ref 56, .int (a1)] (q.1.toList ++ []) q.2) :=
  (show x_X12_unitAt [.ref 56, .int a1] S = g_X12_unitAt 0 [.ref 56, .int (a1)] [] S from rfl).trans ((a_unf0 none t_X12_unitAt c_X12_unitAt k_X12_unitAt 17 0 _ _ S).trans rfl)
set_option maxRecDepth 8000 in
theorem b_X12_unitAt_11 (a1 : Int32) (s0 : Int32) (S : a_M) : g_X12_unitAt 11 [.ref 56, .int (a1)] [.int (s0)] S = (if s0 = 0 then some (some (.int (-1)), S) else (if a1 < 0 ∨ 120 ≤ a1.toNatClampNeg then none else some (some (.int (S.1 57 a1.toNatClampNeg)), S))) :=
  (a_unf0 none t_X12_unitAt c_X12_unitAt k_X12_unitAt 17 11 _ _ S).trans rfl
def k_X12_count : Nat → Bool := fun pc => false
noncomputable def g_X12_count : a_K := a_G none t_X12_count c_X12_count
set_option maxRecDepth 8000 in
theorem e_X12_count (a1 : Int32) (S : a_M) : x_X12_count [.ref 56, .int a1] S = (if a1 = 0 then some (some (.int (S.1 56 1)), S) else (if a1 = 1 then some (some (.int (S.1 56 10)), S) else (if a1 = 2 then some (some (.int (S.1 56 14)), S) else (if a1 = 3 then some (some (.int (S.1 56 17)), S) else (if a1 = 4 then some (some (.int (S.1 56 20)), S) else (if a1 = 5 then some (some (.int (S.1 56 24)), S) else (if a1 = 6 then some (some (.int (S.1 56 26)), S) else (if a1 = 7 then some (some (.int (S.1 56 33)), S) else (if a1 = 8 then some (some (.int (S.1 56 40)), S) else (if a1 = 9 then some (some (.int (S.1 56 5)), S) else some (some (.int (-2)), S))))))))))) :=
  (show x_X12_count [.ref 56, .int a1] S = g_X12_count 0 [.ref 56, .int (a1)] [] S from rfl).trans ((a_unf0 none t_X12_count c_X12_count k_X12_count 36 0 _ _ S).trans rfl)
