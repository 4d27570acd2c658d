/-! ===== MATHEMATICS: words for memory and numbers ===== -/
def b2i (p : Prop) [Decidable p] : Int32 := if p then 1 else 0
theorem b2i_z (p : Prop) [Decidable p] : (b2i p = 0) = ¬ p := by
  unfold b2i
  by_cases h : p <;> simp [h]
theorem b2i_t {p : Prop} [Decidable p] (h : p) : b2i p = 1 := if_pos h
theorem b2i_f {p : Prop} [Decidable p] (h : ¬ p) : b2i p = 0 := if_neg h
theorem b2i_01 (p : Prop) [Decidable p] : b2i p = 0 ∨ b2i p = 1 := by
  unfold b2i
  by_cases h : p <;> simp [h]
def av (S : a_M) (k n : Nat) (i : Int32) : Int32 := if i < 0 ∨ n ≤ i.toNatClampNeg then -1 else S.1 k i.toNatClampNeg
def pv (S : a_M) (k n : Nat) (i v : Int32) : a_M := if i < 0 ∨ n ≤ i.toNatClampNeg then S else a_wi S k i.toNatClampNeg v
def fv (S : a_M) (k n : Nat) (v : Int32) : a_M := (fun a => if a = k then (fun j => if j < n then v else S.1 k j) else S.1 a, S.2)
theorem i32_cl {i : Int32} (h : ¬ i < 0) : (i.toNatClampNeg : Int) = i.toInt := by
  have h1 : ¬ i.toInt < 0 := fun q => h (Int32.lt_iff_toInt_lt.mpr q)
  show ((i.toInt.toNat : Nat) : Int) = _
  omega
theorem i32_ltn {i N : Int32} {n : Nat} (hn : n < 2 ^ 31) (hN : N = nI n) (h : ¬ i < 0) : i < N ↔ ¬ n ≤ i.toNatClampNeg := by
  have h1 := i32_cl h
  rw [Int32.lt_iff_toInt_lt, hN, nI_toInt hn]
  omega
theorem at_aux {S : a_M} {k n : Nat} {N a1 : Int32} (hn : n < 2 ^ 31) (hN : N = nI n) : (if a1 < 0 then some (some (Value.int (-1)), S) else (if a1 < N then (if a1 < 0 ∨ n ≤ a1.toNatClampNeg then none else some (some (.int (S.1 k a1.toNatClampNeg)), S)) else some (some (.int (-1)), S))) = some (some (.int (av S k n a1)), S) := by
  unfold av
  by_cases h : a1 < 0
  · rw [if_pos h, if_pos (Or.inl h)]
  · rw [if_neg h]
    by_cases h2 : n ≤ a1.toNatClampNeg
    · rw [if_neg (fun q => (i32_ltn hn hN h).mp q h2), if_pos (Or.inr h2)]
    · have h3 : ¬ (a1 < 0 ∨ n ≤ a1.toNatClampNeg) := fun q => q.elim h h2
      rw [if_pos ((i32_ltn hn hN h).mpr h2), if_neg h3, if_neg h3]
theorem put_aux {S : a_M} {k n : Nat} {N a1 a2 : Int32} (hn : n < 2 ^ 31) (hN : N = nI n) : (if a1 < 0 then some ((none : Option Value), S) else (if a1 < N then (if a1 < 0 ∨ n ≤ a1.toNatClampNeg then none else some (none, (a_wi S k (a1.toNatClampNeg) (a2)))) else some (none, S))) = some (none, pv S k n a1 a2) := by
  unfold pv
  by_cases h : a1 < 0
  · rw [if_pos h, if_pos (Or.inl h)]
  · rw [if_neg h]
    by_cases h2 : n ≤ a1.toNatClampNeg
    · rw [if_neg (fun q => (i32_ltn hn hN h).mp q h2), if_pos (Or.inr h2)]
    · have h3 : ¬ (a1 < 0 ∨ n ≤ a1.toNatClampNeg) := fun q => q.elim h h2
      rw [if_pos ((i32_ltn hn hN h).mpr h2), if_neg h3, if_neg h3]
/-! reads behind writes -/
theorem wi_e (S : a_M) (k i : Nat) (v : Int32) : (a_wi S k i v).1 k = upd (S.1 k) i v := if_pos rfl
theorem wi_n {S : a_M} {k i : Nat} {v : Int32} {a : Nat} (h : a ≠ k) : (a_wi S k i v).1 a = S.1 a := if_neg h
theorem wi_2 (S : a_M) (k i : Nat) (v : Int32) : (a_wi S k i v).2 = S.2 := rfl
theorem wl_1 (S : a_M) (k i : Nat) (v : Int64) : (a_wl S k i v).1 = S.1 := rfl
theorem wl_e (S : a_M) (k i : Nat) (v : Int64) : (a_wl S k i v).2 k = vp_updL (S.2 k) i v := if_pos rfl
theorem wl_n {S : a_M} {k i : Nat} {v : Int64} {a : Nat} (h : a ≠ k) : (a_wl S k i v).2 a = S.2 a := if_neg h
theorem up_e (f : Nat → Int32) (k : Nat) (v : Int32) : upd f k v k = v := if_pos rfl
theorem up_n {f : Nat → Int32} {k j : Nat} {v : Int32} (h : j ≠ k) : upd f k v j = f j := if_neg h
theorem wi_s {S : a_M} {k i j : Nat} {v : Int32} (h : j ≠ i) : (a_wi S k i v).1 k j = S.1 k j := by rw [wi_e, up_n h]
theorem wi_v (S : a_M) (k i : Nat) (v : Int32) : (a_wi S k i v).1 k i = v := by rw [wi_e, up_e]
theorem fv_e (S : a_M) (k n : Nat) (v : Int32) : (fv S k n v).1 k = fun j => if j < n then v else S.1 k j := if_pos rfl
theorem fv_n {S : a_M} {k n : Nat} {v : Int32} {a : Nat} (h : a ≠ k) : (fv S k n v).1 a = S.1 a := if_neg h
theorem fv_2 (S : a_M) (k n : Nat) (v : Int32) : (fv S k n v).2 = S.2 := rfl
theorem pv_n {S : a_M} {k n : Nat} {i v : Int32} {a : Nat} (h : a ≠ k) : (pv S k n i v).1 a = S.1 a := by
  unfold pv
  split
  · rfl
  · exact wi_n h
theorem pv_2 (S : a_M) (k n : Nat) (i v : Int32) : (pv S k n i v).2 = S.2 := by
  unfold pv
  split <;> rfl
theorem nI_out {i n : Nat} (h : i < n) (hn : n < 2 ^ 31) : ¬ (nI i < 0 ∨ n ≤ (nI i).toNatClampNeg) := by
  rintro (h1 | h1)
  · exact nI_pos (by omega) h1
  · rw [nI_clamp (by omega)] at h1; omega
theorem av_nI {S : a_M} {k n i : Nat} (h : i < n) (hn : n < 2 ^ 31) : av S k n (nI i) = S.1 k i := by
  unfold av
  rw [if_neg (nI_out h hn), nI_clamp (by omega)]
theorem pv_nI {S : a_M} {k n i : Nat} {v : Int32} (h : i < n) (hn : n < 2 ^ 31) : pv S k n (nI i) v = a_wi S k i v := by
  unfold pv
  rw [if_neg (nI_out h hn), nI_clamp (by omega)]
theorem av_hi {S : a_M} {k n i : Nat} (h : n ≤ i) (hi : i < 2 ^ 31) : av S k n (nI i) = -1 := by
  unfold av
  rw [if_pos (Or.inr (by rw [nI_clamp hi]; exact h))]
theorem av_neg {S : a_M} {k n : Nat} {i : Int32} (h : i < 0) : av S k n i = -1 := if_pos (Or.inl h)
noncomputable def g_X11_at : a_K := a_G none t_X11_at c_X11_at
noncomputable def g_X11_put : a_K := a_G none t_X11_put c_X11_put
noncomputable def g_J7_fill_53178 : a_K := a_G none t_J7_fill_53178 c_J7_fill_53178
def k_X11_at : Nat → Bool := fun _ => false
def k_J7_fill : Nat → Bool := fun pc => Nat.beq pc 5
theorem fill_aux {n k : Nat} {N v : Int32} (hn : n < 2 ^ 31) (hN : N = nI n) (hb : ∀ (a2 : Int32) (S : a_M), g_J7_fill_53178 5 [.ref k, .int v, .int a2, .int N] [] S = (if a2 < N then (if a2 < 0 ∨ n ≤ a2.toNatClampNeg then none else g_J7_fill_53178 5 [.ref k, .int v, .int (a2 + 1), .int N] [] (a_wi S k (a2.toNatClampNeg) v)) else some (none, S))) (S : a_M) :
    g_J7_fill_53178 5 [.ref k, .int v, .int 0, .int N] [] S = some (none, fv S k n v) := by
  have key : ∀ (d i : Nat) (T : a_M), i + d = n → g_J7_fill_53178 5 [.ref k, .int v, .int (nI i), .int N] [] T = some (none, (fun a => if a = k then (fun j => if i ≤ j ∧ j < n then v else T.1 k j) else T.1 a, T.2)) := by
    intro d
    induction d with
    | zero =>
      intro i T hi
      rw [hb, if_neg (by rw [hN]; exact nI_nlt (by omega) (by omega))]
      congr 2
      apply Prod.ext
      · funext a
        by_cases ha : a = k
        · subst ha
          dsimp only
          rw [if_pos rfl]
          funext j
          rw [if_neg (by omega)]
        · dsimp only
          rw [if_neg ha]
      · rfl
    | succ d ih =>
      intro i T hi
      rw [hb, if_pos (by rw [hN]; exact nI_lt (by omega) hn), if_neg (nI_out (by omega) hn), nI_clamp (by omega), nI_1, ih (i + 1) _ (by omega)]
      congr 2
      apply Prod.ext
      · funext a
        by_cases ha : a = k
        · subst ha
          dsimp only
          rw [if_pos rfl, if_pos rfl]
          funext j
          by_cases hj : j = i
          · subst hj
            rw [if_neg (by omega), if_pos (by omega), wi_v]
          · rw [wi_s hj]
            by_cases hj2 : i + 1 ≤ j ∧ j < n
            · rw [if_pos hj2, if_pos (by omega)]
            · rw [if_neg hj2, if_neg (by omega)]
        · dsimp only
          rw [if_neg ha, if_neg ha, wi_n ha]
      · rfl
  have h0 := key n 0 S (by omega)
  rw [nI_0] at h0
  rw [h0]
  congr 2
  apply Prod.ext
  · funext a
    by_cases ha : a = k
    · subst ha
      dsimp only [fv]
      rw [if_pos rfl, if_pos rfl]
      funext j
      by_cases hj : j < n
      · rw [if_pos (by omega), if_pos hj]
      · rw [if_neg (by omega), if_neg hj]
    · dsimp only [fv]
      rw [if_neg ha, if_neg ha]
  · rfl
theorem e_at_2 (a1 : Int32) (S : a_M) : x_X11_at [.ref 2, .int a1] S = (if a1 < 0 then some (some (.int (-1)), S) else (if a1 < 120 then (if a1 < 0 ∨ 120 ≤ a1.toNatClampNeg then none else some (some (.int (S.1 2 a1.toNatClampNeg)), S)) else some (some (.int (-1)), S))) :=
  (show x_X11_at [.ref 2, .int a1] S = g_X11_at 0 [.ref 2, .int a1] [] S from rfl).trans ((a_unf0 none t_X11_at c_X11_at k_X11_at 20 0 _ _ S).trans rfl)
theorem at_2 (i : Int32) (S : a_M) : x_X11_at [.ref 2, .int i] S = some (some (.int (av S 2 120 i)), S) := (e_at_2 i S).trans (at_aux (by decide) (by decide))
theorem e_put_2 (a1 a2 : Int32) (S : a_M) : x_X11_put [.ref 2, .int a1, .int a2] S = (if a1 < 0 then some (none, S) else (if a1 < 120 then (if a1 < 0 ∨ 120 ≤ a1.toNatClampNeg then none else some (none, (a_wi S 2 (a1.toNatClampNeg) (a2)))) else some (none, S))) :=
  (show x_X11_put [.ref 2, .int a1, .int a2] S = g_X11_put 0 [.ref 2, .int a1, .int a2] [] S from rfl).trans ((a_unf0 none t_X11_put c_X11_put k_X11_at 20 0 _ _ S).trans rfl)
theorem put_2 (i v : Int32) (S : a_M) : x_X11_put [.ref 2, .int i, .int v] S = some (none, pv S 2 120 i v) := (e_put_2 i v S).trans (put_aux (by decide) (by decide))
theorem e_at_4 (a1 : Int32) (S : a_M) : x_X11_at [.ref 4, .int a1] S = (if a1 < 0 then some (some (.int (-1)), S) else (if a1 < 30 then (if a1 < 0 ∨ 30 ≤ a1.toNatClampNeg then none else some (some (.int (S.1 4 a1.toNatClampNeg)), S)) else some (some (.int (-1)), S))) :=
  (show x_X11_at [.ref 4, .int a1] S = g_X11_at 0 [.ref 4, .int a1] [] S from rfl).trans ((a_unf0 none t_X11_at c_X11_at k_X11_at 20 0 _ _ S).trans rfl)
theorem at_4 (i : Int32) (S : a_M) : x_X11_at [.ref 4, .int i] S = some (some (.int (av S 4 30 i)), S) := (e_at_4 i S).trans (at_aux (by decide) (by decide))
theorem e_put_4 (a1 a2 : Int32) (S : a_M) : x_X11_put [.ref 4, .int a1, .int a2] S = (if a1 < 0 then some (none, S) else (if a1 < 30 then (if a1 < 0 ∨ 30 ≤ a1.toNatClampNeg then none else some (none, (a_wi S 4 (a1.toNatClampNeg) (a2)))) else some (none, S))) :=
  (show x_X11_put [.ref 4, .int a1, .int a2] S = g_X11_put 0 [.ref 4, .int a1, .int a2] [] S from rfl).trans ((a_unf0 none t_X11_put c_X11_put k_X11_at 20 0 _ _ S).trans rfl)
theorem put_4 (i v : Int32) (S : a_M) : x_X11_put [.ref 4, .int i, .int v] S = some (none, pv S 4 30 i v) := (e_put_4 i v S).trans (put_aux (by decide) (by decide))
theorem e_at_5 (a1 : Int32) (S : a_M) : x_X11_at [.ref 5, .int a1] S = (if a1 < 0 then some (some (.int (-1)), S) else (if a1 < 30 then (if a1 < 0 ∨ 30 ≤ a1.toNatClampNeg then none else some (some (.int (S.1 5 a1.toNatClampNeg)), S)) else some (some (.int (-1)), S))) :=
  (show x_X11_at [.ref 5, .int a1] S = g_X11_at 0 [.ref 5, .int a1] [] S from rfl).trans ((a_unf0 none t_X11_at c_X11_at k_X11_at 20 0 _ _ S).trans rfl)
theorem at_5 (i : Int32) (S : a_M) : x_X11_at [.ref 5, .int i] S = some (some (.int (av S 5 30 i)), S) := (e_at_5 i S).trans (at_aux (by decide) (by decide))
theorem e_put_5 (a1 a2 : Int32) (S : a_M) : x_X11_put [.ref 5, .int a1, .int a2] S = (if a1 < 0 then some (none, S) else (if a1 < 30 then (if a1 < 0 ∨ 30 ≤ a1.toNatClampNeg then none else some (none, (a_wi S 5 (a1.toNatClampNeg) (a2)))) else some (none, S))) :=
  (show x_X11_put [.ref 5, .int a1, .int a2] S = g_X11_put 0 [.ref 5, .int a1, .int a2] [] S from rfl).trans ((a_unf0 none t_X11_put c_X11_put k_X11_at 20 0 _ _ S).trans rfl)
theorem put_5 (i v : Int32) (S : a_M) : x_X11_put [.ref 5, .int i, .int v] S = some (none, pv S 5 30 i v) := (e_put_5 i v S).trans (put_aux (by decide) (by decide))
theorem e_at_6 (a1 : Int32) (S : a_M) : x_X11_at [.ref 6, .int a1] S = (if a1 < 0 then some (some (.int (-1)), S) else (if a1 < 30 then (if a1 < 0 ∨ 30 ≤ a1.toNatClampNeg then none else some (some (.int (S.1 6 a1.toNatClampNeg)), S)) else some (some (.int (-1)), S))) :=
  (show x_X11_at [.ref 6, .int a1] S = g_X11_at 0 [.ref 6, .int a1] [] S from rfl).trans ((a_unf0 none t_X11_at c_X11_at k_X11_at 20 0 _ _ S).trans rfl)
theorem at_6 (i : Int32) (S : a_M) : x_X11_at [.ref 6, .int i] S = some (some (.int (av S 6 30 i)), S) := (e_at_6 i S).trans (at_aux (by decide) (by decide))
theorem e_put_6 (a1 a2 : Int32) (S : a_M) : x_X11_put [.ref 6, .int a1, .int a2] S = (if a1 < 0 then some (none, S) else (if a1 < 30 then (if a1 < 0 ∨ 30 ≤ a1.toNatClampNeg then none else some (none, (a_wi S 6 (a1.toNatClampNeg) (a2)))) else some (none, S))) :=
  (show x_X11_put [.ref 6, .int a1, .int a2] S = g_X11_put 0 [.ref 6, .int a1, .int a2] [] S from rfl).trans ((a_unf0 none t_X11_put c_X11_put k_X11_at 20 0 _ _ S).trans rfl)
theorem put_6 (i v : Int32) (S : a_M) : x_X11_put [.ref 6, .int i, .int v] S = some (none, pv S 6 30 i v) := (e_put_6 i v S).trans (put_aux (by decide) (by decide))
theorem e_at_8 (a1 : Int32) (S : a_M) : x_X11_at [.ref 8, .int a1] S = (if a1 < 0 then some (some (.int (-1)), S) else (if a1 < 224 then (if a1 < 0 ∨ 224 ≤ a1.toNatClampNeg then none else some (some (.int (S.1 8 a1.toNatClampNeg)), S)) else some (some (.int (-1)), S))) :=
  (show x_X11_at [.ref 8, .int a1] S = g_X11_at 0 [.ref 8, .int a1] [] S from rfl).trans ((a_unf0 none t_X11_at c_X11_at k_X11_at 20 0 _ _ S).trans rfl)
theorem at_8 (i : Int32) (S : a_M) : x_X11_at [.ref 8, .int i] S = some (some (.int (av S 8 224 i)), S) := (e_at_8 i S).trans (at_aux (by decide) (by decide))
theorem e_put_8 (a1 a2 : Int32) (S : a_M) : x_X11_put [.ref 8, .int a1, .int a2] S = (if a1 < 0 then some (none, S) else (if a1 < 224 then (if a1 < 0 ∨ 224 ≤ a1.toNatClampNeg then none else some (none, (a_wi S 8 (a1.toNatClampNeg) (a2)))) else some (none, S))) :=
  (show x_X11_put [.ref 8, .int a1, .int a2] S = g_X11_put 0 [.ref 8, .int a1, .int a2] [] S from rfl).trans ((a_unf0 none t_X11_put c_X11_put k_X11_at 20 0 _ _ S).trans rfl)
theorem put_8 (i v : Int32) (S : a_M) : x_X11_put [.ref 8, .int i, .int v] S = some (none, pv S 8 224 i v) := (e_put_8 i v S).trans (put_aux (by decide) (by decide))
theorem e_at_9 (a1 : Int32) (S : a_M) : x_X11_at [.ref 9, .int a1] S = (if a1 < 0 then some (some (.int (-1)), S) else (if a1 < 14 then (if a1 < 0 ∨ 14 ≤ a1.toNatClampNeg then none else some (some (.int (S.1 9 a1.toNatClampNeg)), S)) else some (some (.int (-1)), S))) :=
  (show x_X11_at [.ref 9, .int a1] S = g_X11_at 0 [.ref 9, .int a1] [] S from rfl).trans ((a_unf0 none t_X11_at c_X11_at k_X11_at 20 0 _ _ S).trans rfl)
theorem at_9 (i : Int32) (S : a_M) : x_X11_at [.ref 9, .int i] S = some (some (.int (av S 9 14 i)), S) := (e_at_9 i S).trans (at_aux (by decide) (by decide))
theorem e_put_9 (a1 a2 : Int32) (S : a_M) : x_X11_put [.ref 9, .int a1, .int a2] S = (if a1 < 0 then some (none, S) else (if a1 < 14 then (if a1 < 0 ∨ 14 ≤ a1.toNatClampNeg then none else some (none, (a_wi S 9 (a1.toNatClampNeg) (a2)))) else some (none, S))) :=
  (show x_X11_put [.ref 9, .int a1, .int a2] S = g_X11_put 0 [.ref 9, .int a1, .int a2] [] S from rfl).trans ((a_unf0 none t_X11_put c_X11_put k_X11_at 20 0 _ _ S).trans rfl)
theorem put_9 (i v : Int32) (S : a_M) : x_X11_put [.ref 9, .int i, .int v] S = some (none, pv S 9 14 i v) := (e_put_9 i v S).trans (put_aux (by decide) (by decide))
theorem e_at_10 (a1 : Int32) (S : a_M) : x_X11_at [.ref 10, .int a1] S = (if a1 < 0 then some (some (.int (-1)), S) else (if a1 < 14 then (if a1 < 0 ∨ 14 ≤ a1.toNatClampNeg then none else some (some (.int (S.1 10 a1.toNatClampNeg)), S)) else some (some (.int (-1)), S))) :=
  (show x_X11_at [.ref 10, .int a1] S = g_X11_at 0 [.ref 10, .int a1] [] S from rfl).trans ((a_unf0 none t_X11_at c_X11_at k_X11_at 20 0 _ _ S).trans rfl)
theorem at_10 (i : Int32) (S : a_M) : x_X11_at [.ref 10, .int i] S = some (some (.int (av S 10 14 i)), S) := (e_at_10 i S).trans (at_aux (by decide) (by decide))
theorem e_put_10 (a1 a2 : Int32) (S : a_M) : x_X11_put [.ref 10, .int a1, .int a2] S = (if a1 < 0 then some (none, S) else (if a1 < 14 then (if a1 < 0 ∨ 14 ≤ a1.toNatClampNeg then none else some (none, (a_wi S 10 (a1.toNatClampNeg) (a2)))) else some (none, S))) :=
  (show x_X11_put [.ref 10, .int a1, .int a2] S = g_X11_put 0 [.ref 10, .int a1, .int a2] [] S from rfl).trans ((a_unf0 none t_X11_put c_X11_put k_X11_at 20 0 _ _ S).trans rfl)
theorem put_10 (i v : Int32) (S : a_M) : x_X11_put [.ref 10, .int i, .int v] S = some (none, pv S 10 14 i v) := (e_put_10 i v S).trans (put_aux (by decide) (by decide))
theorem e_at_11 (a1 : Int32) (S : a_M) : x_X11_at [.ref 11, .int a1] S = (if a1 < 0 then some (some (.int (-1)), S) else (if a1 < 14 then (if a1 < 0 ∨ 14 ≤ a1.toNatClampNeg then none else some (some (.int (S.1 11 a1.toNatClampNeg)), S)) else some (some (.int (-1)), S))) :=
  (show x_X11_at [.ref 11, .int a1] S = g_X11_at 0 [.ref 11, .int a1] [] S from rfl).trans ((a_unf0 none t_X11_at c_X11_at k_X11_at 20 0 _ _ S).trans rfl)
theorem at_11 (i : Int32) (S : a_M) : x_X11_at [.ref 11, .int i] S = some (some (.int (av S 11 14 i)), S) := (e_at_11 i S).trans (at_aux (by decide) (by decide))
theorem e_put_11 (a1 a2 : Int32) (S : a_M) : x_X11_put [.ref 11, .int a1, .int a2] S = (if a1 < 0 then some (none, S) else (if a1 < 14 then (if a1 < 0 ∨ 14 ≤ a1.toNatClampNeg then none else some (none, (a_wi S 11 (a1.toNatClampNeg) (a2)))) else some (none, S))) :=
  (show x_X11_put [.ref 11, .int a1, .int a2] S = g_X11_put 0 [.ref 11, .int a1, .int a2] [] S from rfl).trans ((a_unf0 none t_X11_put c_X11_put k_X11_at 20 0 _ _ S).trans rfl)
theorem put_11 (i v : Int32) (S : a_M) : x_X11_put [.ref 11, .int i, .int v] S = some (none, pv S 11 14 i v) := (e_put_11 i v S).trans (put_aux (by decide) (by decide))
theorem e_at_13 (a1 : Int32) (S : a_M) : x_X11_at [.ref 13, .int a1] S = (if a1 < 0 then some (some (.int (-1)), S) else (if a1 < 3840 then (if a1 < 0 ∨ 3840 ≤ a1.toNatClampNeg then none else some (some (.int (S.1 13 a1.toNatClampNeg)), S)) else some (some (.int (-1)), S))) :=
  (show x_X11_at [.ref 13, .int a1] S = g_X11_at 0 [.ref 13, .int a1] [] S from rfl).trans ((a_unf0 none t_X11_at c_X11_at k_X11_at 20 0 _ _ S).trans rfl)
theorem at_13 (i : Int32) (S : a_M) : x_X11_at [.ref 13, .int i] S = some (some (.int (av S 13 3840 i)), S) := (e_at_13 i S).trans (at_aux (by decide) (by decide))
theorem e_put_13 (a1 a2 : Int32) (S : a_M) : x_X11_put [.ref 13, .int a1, .int a2] S = (if a1 < 0 then some (none, S) else (if a1 < 3840 then (if a1 < 0 ∨ 3840 ≤ a1.toNatClampNeg then none else some (none, (a_wi S 13 (a1.toNatClampNeg) (a2)))) else some (none, S))) :=
  (show x_X11_put [.ref 13, .int a1, .int a2] S = g_X11_put 0 [.ref 13, .int a1, .int a2] [] S from rfl).trans ((a_unf0 none t_X11_put c_X11_put k_X11_at 20 0 _ _ S).trans rfl)
theorem put_13 (i v : Int32) (S : a_M) : x_X11_put [.ref 13, .int i, .int v] S = some (none, pv S 13 3840 i v) := (e_put_13 i v S).trans (put_aux (by decide) (by decide))
theorem e_at_14 (a1 : Int32) (S : a_M) : x_X11_at [.ref 14, .int a1] S = (if a1 < 0 then some (some (.int (-1)), S) else (if a1 < 240 then (if a1 < 0 ∨ 240 ≤ a1.toNatClampNeg then none else some (some (.int (S.1 14 a1.toNatClampNeg)), S)) else some (some (.int (-1)), S))) :=
  (show x_X11_at [.ref 14, .int a1] S = g_X11_at 0 [.ref 14, .int a1] [] S from rfl).trans ((a_unf0 none t_X11_at c_X11_at k_X11_at 20 0 _ _ S).trans rfl)
theorem at_14 (i : Int32) (S : a_M) : x_X11_at [.ref 14, .int i] S = some (some (.int (av S 14 240 i)), S) := (e_at_14 i S).trans (at_aux (by decide) (by decide))
theorem e_put_14 (a1 a2 : Int32) (S : a_M) : x_X11_put [.ref 14, .int a1, .int a2] S = (if a1 < 0 then some (none, S) else (if a1 < 240 then (if a1 < 0 ∨ 240 ≤ a1.toNatClampNeg then none else some (none, (a_wi S 14 (a1.toNatClampNeg) (a2)))) else some (none, S))) :=
  (show x_X11_put [.ref 14, .int a1, .int a2] S = g_X11_put 0 [.ref 14, .int a1, .int a2] [] S from rfl).trans ((a_unf0 none t_X11_put c_X11_put k_X11_at 20 0 _ _ S).trans rfl)
theorem put_14 (i v : Int32) (S : a_M) : x_X11_put [.ref 14, .int i, .int v] S = some (none, pv S 14 240 i v) := (e_put_14 i v S).trans (put_aux (by decide) (by decide))
theorem e_at_15 (a1 : Int32) (S : a_M) : x_X11_at [.ref 15, .int a1] S = (if a1 < 0 then some (some (.int (-1)), S) else (if a1 < 240 then (if a1 < 0 ∨ 240 ≤ a1.toNatClampNeg then none else some (some (.int (S.1 15 a1.toNatClampNeg)), S)) else some (some (.int (-1)), S))) :=
  (show x_X11_at [.ref 15, .int a1] S = g_X11_at 0 [.ref 15, .int a1] [] S from rfl).trans ((a_unf0 none t_X11_at c_X11_at k_X11_at 20 0 _ _ S).trans rfl)
theorem at_15 (i : Int32) (S : a_M) : x_X11_at [.ref 15, .int i] S = some (some (.int (av S 15 240 i)), S) := (e_at_15 i S).trans (at_aux (by decide) (by decide))
theorem e_put_15 (a1 a2 : Int32) (S : a_M) : x_X11_put [.ref 15, .int a1, .int a2] S = (if a1 < 0 then some (none, S) else (if a1 < 240 then (if a1 < 0 ∨ 240 ≤ a1.toNatClampNeg then none else some (none, (a_wi S 15 (a1.toNatClampNeg) (a2)))) else some (none, S))) :=
  (show x_X11_put [.ref 15, .int a1, .int a2] S = g_X11_put 0 [.ref 15, .int a1, .int a2] [] S from rfl).trans ((a_unf0 none t_X11_put c_X11_put k_X11_at 20 0 _ _ S).trans rfl)
theorem put_15 (i v : Int32) (S : a_M) : x_X11_put [.ref 15, .int i, .int v] S = some (none, pv S 15 240 i v) := (e_put_15 i v S).trans (put_aux (by decide) (by decide))
theorem e_at_16 (a1 : Int32) (S : a_M) : x_X11_at [.ref 16, .int a1] S = (if a1 < 0 then some (some (.int (-1)), S) else (if a1 < 60 then (if a1 < 0 ∨ 60 ≤ a1.toNatClampNeg then none else some (some (.int (S.1 16 a1.toNatClampNeg)), S)) else some (some (.int (-1)), S))) :=
  (show x_X11_at [.ref 16, .int a1] S = g_X11_at 0 [.ref 16, .int a1] [] S from rfl).trans ((a_unf0 none t_X11_at c_X11_at k_X11_at 20 0 _ _ S).trans rfl)
theorem at_16 (i : Int32) (S : a_M) : x_X11_at [.ref 16, .int i] S = some (some (.int (av S 16 60 i)), S) := (e_at_16 i S).trans (at_aux (by decide) (by decide))
theorem e_put_16 (a1 a2 : Int32) (S : a_M) : x_X11_put [.ref 16, .int a1, .int a2] S = (if a1 < 0 then some (none, S) else (if a1 < 60 then (if a1 < 0 ∨ 60 ≤ a1.toNatClampNeg then none else some (none, (a_wi S 16 (a1.toNatClampNeg) (a2)))) else some (none, S))) :=
  (show x_X11_put [.ref 16, .int a1, .int a2] S = g_X11_put 0 [.ref 16, .int a1, .int a2] [] S from rfl).trans ((a_unf0 none t_X11_put c_X11_put k_X11_at 20 0 _ _ S).trans rfl)
theorem put_16 (i v : Int32) (S : a_M) : x_X11_put [.ref 16, .int i, .int v] S = some (none, pv S 16 60 i v) := (e_put_16 i v S).trans (put_aux (by decide) (by decide))
theorem e_at_17 (a1 : Int32) (S : a_M) : x_X11_at [.ref 17, .int a1] S = (if a1 < 0 then some (some (.int (-1)), S) else (if a1 < 30 then (if a1 < 0 ∨ 30 ≤ a1.toNatClampNeg then none else some (some (.int (S.1 17 a1.toNatClampNeg)), S)) else some (some (.int (-1)), S))) :=
  (show x_X11_at [.ref 17, .int a1] S = g_X11_at 0 [.ref 17, .int a1] [] S from rfl).trans ((a_unf0 none t_X11_at c_X11_at k_X11_at 20 0 _ _ S).trans rfl)
theorem at_17 (i : Int32) (S : a_M) : x_X11_at [.ref 17, .int i] S = some (some (.int (av S 17 30 i)), S) := (e_at_17 i S).trans (at_aux (by decide) (by decide))
theorem e_put_17 (a1 a2 : Int32) (S : a_M) : x_X11_put [.ref 17, .int a1, .int a2] S = (if a1 < 0 then some (none, S) else (if a1 < 30 then (if a1 < 0 ∨ 30 ≤ a1.toNatClampNeg then none else some (none, (a_wi S 17 (a1.toNatClampNeg) (a2)))) else some (none, S))) :=
  (show x_X11_put [.ref 17, .int a1, .int a2] S = g_X11_put 0 [.ref 17, .int a1, .int a2] [] S from rfl).trans ((a_unf0 none t_X11_put c_X11_put k_X11_at 20 0 _ _ S).trans rfl)
theorem put_17 (i v : Int32) (S : a_M) : x_X11_put [.ref 17, .int i, .int v] S = some (none, pv S 17 30 i v) := (e_put_17 i v S).trans (put_aux (by decide) (by decide))
theorem e_at_18 (a1 : Int32) (S : a_M) : x_X11_at [.ref 18, .int a1] S = (if a1 < 0 then some (some (.int (-1)), S) else (if a1 < 30 then (if a1 < 0 ∨ 30 ≤ a1.toNatClampNeg then none else some (some (.int (S.1 18 a1.toNatClampNeg)), S)) else some (some (.int (-1)), S))) :=
  (show x_X11_at [.ref 18, .int a1] S = g_X11_at 0 [.ref 18, .int a1] [] S from rfl).trans ((a_unf0 none t_X11_at c_X11_at k_X11_at 20 0 _ _ S).trans rfl)
theorem at_18 (i : Int32) (S : a_M) : x_X11_at [.ref 18, .int i] S = some (some (.int (av S 18 30 i)), S) := (e_at_18 i S).trans (at_aux (by decide) (by decide))
theorem e_put_18 (a1 a2 : Int32) (S : a_M) : x_X11_put [.ref 18, .int a1, .int a2] S = (if a1 < 0 then some (none, S) else (if a1 < 30 then (if a1 < 0 ∨ 30 ≤ a1.toNatClampNeg then none else some (none, (a_wi S 18 (a1.toNatClampNeg) (a2)))) else some (none, S))) :=
  (show x_X11_put [.ref 18, .int a1, .int a2] S = g_X11_put 0 [.ref 18, .int a1, .int a2] [] S from rfl).trans ((a_unf0 none t_X11_put c_X11_put k_X11_at 20 0 _ _ S).trans rfl)
theorem put_18 (i v : Int32) (S : a_M) : x_X11_put [.ref 18, .int i, .int v] S = some (none, pv S 18 30 i v) := (e_put_18 i v S).trans (put_aux (by decide) (by decide))
theorem e_at_19 (a1 : Int32) (S : a_M) : x_X11_at [.ref 19, .int a1] S = (if a1 < 0 then some (some (.int (-1)), S) else (if a1 < 4 then (if a1 < 0 ∨ 4 ≤ a1.toNatClampNeg then none else some (some (.int (S.1 19 a1.toNatClampNeg)), S)) else some (some (.int (-1)), S))) :=
  (show x_X11_at [.ref 19, .int a1] S = g_X11_at 0 [.ref 19, .int a1] [] S from rfl).trans ((a_unf0 none t_X11_at c_X11_at k_X11_at 20 0 _ _ S).trans rfl)
theorem at_19 (i : Int32) (S : a_M) : x_X11_at [.ref 19, .int i] S = some (some (.int (av S 19 4 i)), S) := (e_at_19 i S).trans (at_aux (by decide) (by decide))
theorem e_put_19 (a1 a2 : Int32) (S : a_M) : x_X11_put [.ref 19, .int a1, .int a2] S = (if a1 < 0 then some (none, S) else (if a1 < 4 then (if a1 < 0 ∨ 4 ≤ a1.toNatClampNeg then none else some (none, (a_wi S 19 (a1.toNatClampNeg) (a2)))) else some (none, S))) :=
  (show x_X11_put [.ref 19, .int a1, .int a2] S = g_X11_put 0 [.ref 19, .int a1, .int a2] [] S from rfl).trans ((a_unf0 none t_X11_put c_X11_put k_X11_at 20 0 _ _ S).trans rfl)
theorem put_19 (i v : Int32) (S : a_M) : x_X11_put [.ref 19, .int i, .int v] S = some (none, pv S 19 4 i v) := (e_put_19 i v S).trans (put_aux (by decide) (by decide))
theorem e_at_21 (a1 : Int32) (S : a_M) : x_X11_at [.ref 21, .int a1] S = (if a1 < 0 then some (some (.int (-1)), S) else (if a1 < 120 then (if a1 < 0 ∨ 120 ≤ a1.toNatClampNeg then none else some (some (.int (S.1 21 a1.toNatClampNeg)), S)) else some (some (.int (-1)), S))) :=
  (show x_X11_at [.ref 21, .int a1] S = g_X11_at 0 [.ref 21, .int a1] [] S from rfl).trans ((a_unf0 none t_X11_at c_X11_at k_X11_at 20 0 _ _ S).trans rfl)
theorem at_21 (i : Int32) (S : a_M) : x_X11_at [.ref 21, .int i] S = some (some (.int (av S 21 120 i)), S) := (e_at_21 i S).trans (at_aux (by decide) (by decide))
theorem e_put_21 (a1 a2 : Int32) (S : a_M) : x_X11_put [.ref 21, .int a1, .int a2] S = (if a1 < 0 then some (none, S) else (if a1 < 120 then (if a1 < 0 ∨ 120 ≤ a1.toNatClampNeg then none else some (none, (a_wi S 21 (a1.toNatClampNeg) (a2)))) else some (none, S))) :=
  (show x_X11_put [.ref 21, .int a1, .int a2] S = g_X11_put 0 [.ref 21, .int a1, .int a2] [] S from rfl).trans ((a_unf0 none t_X11_put c_X11_put k_X11_at 20 0 _ _ S).trans rfl)
theorem put_21 (i v : Int32) (S : a_M) : x_X11_put [.ref 21, .int i, .int v] S = some (none, pv S 21 120 i v) := (e_put_21 i v S).trans (put_aux (by decide) (by decide))
theorem e_at_22 (a1 : Int32) (S : a_M) : x_X11_at [.ref 22, .int a1] S = (if a1 < 0 then some (some (.int (-1)), S) else (if a1 < 30 then (if a1 < 0 ∨ 30 ≤ a1.toNatClampNeg then none else some (some (.int (S.1 22 a1.toNatClampNeg)), S)) else some (some (.int (-1)), S))) :=
  (show x_X11_at [.ref 22, .int a1] S = g_X11_at 0 [.ref 22, .int a1] [] S from rfl).trans ((a_unf0 none t_X11_at c_X11_at k_X11_at 20 0 _ _ S).trans rfl)
theorem at_22 (i : Int32) (S : a_M) : x_X11_at [.ref 22, .int i] S = some (some (.int (av S 22 30 i)), S) := (e_at_22 i S).trans (at_aux (by decide) (by decide))
theorem e_put_22 (a1 a2 : Int32) (S : a_M) : x_X11_put [.ref 22, .int a1, .int a2] S = (if a1 < 0 then some (none, S) else (if a1 < 30 then (if a1 < 0 ∨ 30 ≤ a1.toNatClampNeg then none else some (none, (a_wi S 22 (a1.toNatClampNeg) (a2)))) else some (none, S))) :=
  (show x_X11_put [.ref 22, .int a1, .int a2] S = g_X11_put 0 [.ref 22, .int a1, .int a2] [] S from rfl).trans ((a_unf0 none t_X11_put c_X11_put k_X11_at 20 0 _ _ S).trans rfl)
theorem put_22 (i v : Int32) (S : a_M) : x_X11_put [.ref 22, .int i, .int v] S = some (none, pv S 22 30 i v) := (e_put_22 i v S).trans (put_aux (by decide) (by decide))
theorem e_at_23 (a1 : Int32) (S : a_M) : x_X11_at [.ref 23, .int a1] S = (if a1 < 0 then some (some (.int (-1)), S) else (if a1 < 20 then (if a1 < 0 ∨ 20 ≤ a1.toNatClampNeg then none else some (some (.int (S.1 23 a1.toNatClampNeg)), S)) else some (some (.int (-1)), S))) :=
  (show x_X11_at [.ref 23, .int a1] S = g_X11_at 0 [.ref 23, .int a1] [] S from rfl).trans ((a_unf0 none t_X11_at c_X11_at k_X11_at 20 0 _ _ S).trans rfl)
theorem at_23 (i : Int32) (S : a_M) : x_X11_at [.ref 23, .int i] S = some (some (.int (av S 23 20 i)), S) := (e_at_23 i S).trans (at_aux (by decide) (by decide))
theorem e_put_23 (a1 a2 : Int32) (S : a_M) : x_X11_put [.ref 23, .int a1, .int a2] S = (if a1 < 0 then some (none, S) else (if a1 < 20 then (if a1 < 0 ∨ 20 ≤ a1.toNatClampNeg then none else some (none, (a_wi S 23 (a1.toNatClampNeg) (a2)))) else some (none, S))) :=
  (show x_X11_put [.ref 23, .int a1, .int a2] S = g_X11_put 0 [.ref 23, .int a1, .int a2] [] S from rfl).trans ((a_unf0 none t_X11_put c_X11_put k_X11_at 20 0 _ _ S).trans rfl)
theorem put_23 (i v : Int32) (S : a_M) : x_X11_put [.ref 23, .int i, .int v] S = some (none, pv S 23 20 i v) := (e_put_23 i v S).trans (put_aux (by decide) (by decide))
theorem e_at_24 (a1 : Int32) (S : a_M) : x_X11_at [.ref 24, .int a1] S = (if a1 < 0 then some (some (.int (-1)), S) else (if a1 < 20 then (if a1 < 0 ∨ 20 ≤ a1.toNatClampNeg then none else some (some (.int (S.1 24 a1.toNatClampNeg)), S)) else some (some (.int (-1)), S))) :=
  (show x_X11_at [.ref 24, .int a1] S = g_X11_at 0 [.ref 24, .int a1] [] S from rfl).trans ((a_unf0 none t_X11_at c_X11_at k_X11_at 20 0 _ _ S).trans rfl)
theorem at_24 (i : Int32) (S : a_M) : x_X11_at [.ref 24, .int i] S = some (some (.int (av S 24 20 i)), S) := (e_at_24 i S).trans (at_aux (by decide) (by decide))
theorem e_put_24 (a1 a2 : Int32) (S : a_M) : x_X11_put [.ref 24, .int a1, .int a2] S = (if a1 < 0 then some (none, S) else (if a1 < 20 then (if a1 < 0 ∨ 20 ≤ a1.toNatClampNeg then none else some (none, (a_wi S 24 (a1.toNatClampNeg) (a2)))) else some (none, S))) :=
  (show x_X11_put [.ref 24, .int a1, .int a2] S = g_X11_put 0 [.ref 24, .int a1, .int a2] [] S from rfl).trans ((a_unf0 none t_X11_put c_X11_put k_X11_at 20 0 _ _ S).trans rfl)
theorem put_24 (i v : Int32) (S : a_M) : x_X11_put [.ref 24, .int i, .int v] S = some (none, pv S 24 20 i v) := (e_put_24 i v S).trans (put_aux (by decide) (by decide))
theorem e_at_25 (a1 : Int32) (S : a_M) : x_X11_at [.ref 25, .int a1] S = (if a1 < 0 then some (some (.int (-1)), S) else (if a1 < 20 then (if a1 < 0 ∨ 20 ≤ a1.toNatClampNeg then none else some (some (.int (S.1 25 a1.toNatClampNeg)), S)) else some (some (.int (-1)), S))) :=
  (show x_X11_at [.ref 25, .int a1] S = g_X11_at 0 [.ref 25, .int a1] [] S from rfl).trans ((a_unf0 none t_X11_at c_X11_at k_X11_at 20 0 _ _ S).trans rfl)
theorem at_25 (i : Int32) (S : a_M) : x_X11_at [.ref 25, .int i] S = some (some (.int (av S 25 20 i)), S) := (e_at_25 i S).trans (at_aux (by decide) (by decide))
theorem e_put_25 (a1 a2 : Int32) (S : a_M) : x_X11_put [.ref 25, .int a1, .int a2] S = (if a1 < 0 then some (none, S) else (if a1 < 20 then (if a1 < 0 ∨ 20 ≤ a1.toNatClampNeg then none else some (none, (a_wi S 25 (a1.toNatClampNeg) (a2)))) else some (none, S))) :=
  (show x_X11_put [.ref 25, .int a1, .int a2] S = g_X11_put 0 [.ref 25, .int a1, .int a2] [] S from rfl).trans ((a_unf0 none t_X11_put c_X11_put k_X11_at 20 0 _ _ S).trans rfl)
theorem put_25 (i v : Int32) (S : a_M) : x_X11_put [.ref 25, .int i, .int v] S = some (none, pv S 25 20 i v) := (e_put_25 i v S).trans (put_aux (by decide) (by decide))
theorem e_at_26 (a1 : Int32) (S : a_M) : x_X11_at [.ref 26, .int a1] S = (if a1 < 0 then some (some (.int (-1)), S) else (if a1 < 10 then (if a1 < 0 ∨ 10 ≤ a1.toNatClampNeg then none else some (some (.int (S.1 26 a1.toNatClampNeg)), S)) else some (some (.int (-1)), S))) :=
  (show x_X11_at [.ref 26, .int a1] S = g_X11_at 0 [.ref 26, .int a1] [] S from rfl).trans ((a_unf0 none t_X11_at c_X11_at k_X11_at 20 0 _ _ S).trans rfl)
theorem at_26 (i : Int32) (S : a_M) : x_X11_at [.ref 26, .int i] S = some (some (.int (av S 26 10 i)), S) := (e_at_26 i S).trans (at_aux (by decide) (by decide))
theorem e_put_26 (a1 a2 : Int32) (S : a_M) : x_X11_put [.ref 26, .int a1, .int a2] S = (if a1 < 0 then some (none, S) else (if a1 < 10 then (if a1 < 0 ∨ 10 ≤ a1.toNatClampNeg then none else some (none, (a_wi S 26 (a1.toNatClampNeg) (a2)))) else some (none, S))) :=
  (show x_X11_put [.ref 26, .int a1, .int a2] S = g_X11_put 0 [.ref 26, .int a1, .int a2] [] S from rfl).trans ((a_unf0 none t_X11_put c_X11_put k_X11_at 20 0 _ _ S).trans rfl)
theorem put_26 (i v : Int32) (S : a_M) : x_X11_put [.ref 26, .int i, .int v] S = some (none, pv S 26 10 i v) := (e_put_26 i v S).trans (put_aux (by decide) (by decide))
theorem e_at_27 (a1 : Int32) (S : a_M) : x_X11_at [.ref 27, .int a1] S = (if a1 < 0 then some (some (.int (-1)), S) else (if a1 < 10 then (if a1 < 0 ∨ 10 ≤ a1.toNatClampNeg then none else some (some (.int (S.1 27 a1.toNatClampNeg)), S)) else some (some (.int (-1)), S))) :=
  (show x_X11_at [.ref 27, .int a1] S = g_X11_at 0 [.ref 27, .int a1] [] S from rfl).trans ((a_unf0 none t_X11_at c_X11_at k_X11_at 20 0 _ _ S).trans rfl)
theorem at_27 (i : Int32) (S : a_M) : x_X11_at [.ref 27, .int i] S = some (some (.int (av S 27 10 i)), S) := (e_at_27 i S).trans (at_aux (by decide) (by decide))
theorem e_put_27 (a1 a2 : Int32) (S : a_M) : x_X11_put [.ref 27, .int a1, .int a2] S = (if a1 < 0 then some (none, S) else (if a1 < 10 then (if a1 < 0 ∨ 10 ≤ a1.toNatClampNeg then none else some (none, (a_wi S 27 (a1.toNatClampNeg) (a2)))) else some (none, S))) :=
  (show x_X11_put [.ref 27, .int a1, .int a2] S = g_X11_put 0 [.ref 27, .int a1, .int a2] [] S from rfl).trans ((a_unf0 none t_X11_put c_X11_put k_X11_at 20 0 _ _ S).trans rfl)
theorem put_27 (i v : Int32) (S : a_M) : x_X11_put [.ref 27, .int i, .int v] S = some (none, pv S 27 10 i v) := (e_put_27 i v S).trans (put_aux (by decide) (by decide))
theorem e_at_28 (a1 : Int32) (S : a_M) : x_X11_at [.ref 28, .int a1] S = (if a1 < 0 then some (some (.int (-1)), S) else (if a1 < 60 then (if a1 < 0 ∨ 60 ≤ a1.toNatClampNeg then none else some (some (.int (S.1 28 a1.toNatClampNeg)), S)) else some (some (.int (-1)), S))) :=
  (show x_X11_at [.ref 28, .int a1] S = g_X11_at 0 [.ref 28, .int a1] [] S from rfl).trans ((a_unf0 none t_X11_at c_X11_at k_X11_at 20 0 _ _ S).trans rfl)
theorem at_28 (i : Int32) (S : a_M) : x_X11_at [.ref 28, .int i] S = some (some (.int (av S 28 60 i)), S) := (e_at_28 i S).trans (at_aux (by decide) (by decide))
theorem e_put_28 (a1 a2 : Int32) (S : a_M) : x_X11_put [.ref 28, .int a1, .int a2] S = (if a1 < 0 then some (none, S) else (if a1 < 60 then (if a1 < 0 ∨ 60 ≤ a1.toNatClampNeg then none else some (none, (a_wi S 28 (a1.toNatClampNeg) (a2)))) else some (none, S))) :=
  (show x_X11_put [.ref 28, .int a1, .int a2] S = g_X11_put 0 [.ref 28, .int a1, .int a2] [] S from rfl).trans ((a_unf0 none t_X11_put c_X11_put k_X11_at 20 0 _ _ S).trans rfl)
theorem put_28 (i v : Int32) (S : a_M) : x_X11_put [.ref 28, .int i, .int v] S = some (none, pv S 28 60 i v) := (e_put_28 i v S).trans (put_aux (by decide) (by decide))
theorem e_at_29 (a1 : Int32) (S : a_M) : x_X11_at [.ref 29, .int a1] S = (if a1 < 0 then some (some (.int (-1)), S) else (if a1 < 60 then (if a1 < 0 ∨ 60 ≤ a1.toNatClampNeg then none else some (some (.int (S.1 29 a1.toNatClampNeg)), S)) else some (some (.int (-1)), S))) :=
  (show x_X11_at [.ref 29, .int a1] S = g_X11_at 0 [.ref 29, .int a1] [] S from rfl).trans ((a_unf0 none t_X11_at c_X11_at k_X11_at 20 0 _ _ S).trans rfl)
theorem at_29 (i : Int32) (S : a_M) : x_X11_at [.ref 29, .int i] S = some (some (.int (av S 29 60 i)), S) := (e_at_29 i S).trans (at_aux (by decide) (by decide))
theorem e_put_29 (a1 a2 : Int32) (S : a_M) : x_X11_put [.ref 29, .int a1, .int a2] S = (if a1 < 0 then some (none, S) else (if a1 < 60 then (if a1 < 0 ∨ 60 ≤ a1.toNatClampNeg then none else some (none, (a_wi S 29 (a1.toNatClampNeg) (a2)))) else some (none, S))) :=
  (show x_X11_put [.ref 29, .int a1, .int a2] S = g_X11_put 0 [.ref 29, .int a1, .int a2] [] S from rfl).trans ((a_unf0 none t_X11_put c_X11_put k_X11_at 20 0 _ _ S).trans rfl)
theorem put_29 (i v : Int32) (S : a_M) : x_X11_put [.ref 29, .int i, .int v] S = some (none, pv S 29 60 i v) := (e_put_29 i v S).trans (put_aux (by decide) (by decide))
theorem e_at_30 (a1 : Int32) (S : a_M) : x_X11_at [.ref 30, .int a1] S = (if a1 < 0 then some (some (.int (-1)), S) else (if a1 < 60 then (if a1 < 0 ∨ 60 ≤ a1.toNatClampNeg then none else some (some (.int (S.1 30 a1.toNatClampNeg)), S)) else some (some (.int (-1)), S))) :=
  (show x_X11_at [.ref 30, .int a1] S = g_X11_at 0 [.ref 30, .int a1] [] S from rfl).trans ((a_unf0 none t_X11_at c_X11_at k_X11_at 20 0 _ _ S).trans rfl)
theorem at_30 (i : Int32) (S : a_M) : x_X11_at [.ref 30, .int i] S = some (some (.int (av S 30 60 i)), S) := (e_at_30 i S).trans (at_aux (by decide) (by decide))
theorem e_put_30 (a1 a2 : Int32) (S : a_M) : x_X11_put [.ref 30, .int a1, .int a2] S = (if a1 < 0 then some (none, S) else (if a1 < 60 then (if a1 < 0 ∨ 60 ≤ a1.toNatClampNeg then none else some (none, (a_wi S 30 (a1.toNatClampNeg) (a2)))) else some (none, S))) :=
  (show x_X11_put [.ref 30, .int a1, .int a2] S = g_X11_put 0 [.ref 30, .int a1, .int a2] [] S from rfl).trans ((a_unf0 none t_X11_put c_X11_put k_X11_at 20 0 _ _ S).trans rfl)
theorem put_30 (i v : Int32) (S : a_M) : x_X11_put [.ref 30, .int i, .int v] S = some (none, pv S 30 60 i v) := (e_put_30 i v S).trans (put_aux (by decide) (by decide))
theorem e_at_31 (a1 : Int32) (S : a_M) : x_X11_at [.ref 31, .int a1] S = (if a1 < 0 then some (some (.int (-1)), S) else (if a1 < 60 then (if a1 < 0 ∨ 60 ≤ a1.toNatClampNeg then none else some (some (.int (S.1 31 a1.toNatClampNeg)), S)) else some (some (.int (-1)), S))) :=
  (show x_X11_at [.ref 31, .int a1] S = g_X11_at 0 [.ref 31, .int a1] [] S from rfl).trans ((a_unf0 none t_X11_at c_X11_at k_X11_at 20 0 _ _ S).trans rfl)
theorem at_31 (i : Int32) (S : a_M) : x_X11_at [.ref 31, .int i] S = some (some (.int (av S 31 60 i)), S) := (e_at_31 i S).trans (at_aux (by decide) (by decide))
theorem e_put_31 (a1 a2 : Int32) (S : a_M) : x_X11_put [.ref 31, .int a1, .int a2] S = (if a1 < 0 then some (none, S) else (if a1 < 60 then (if a1 < 0 ∨ 60 ≤ a1.toNatClampNeg then none else some (none, (a_wi S 31 (a1.toNatClampNeg) (a2)))) else some (none, S))) :=
  (show x_X11_put [.ref 31, .int a1, .int a2] S = g_X11_put 0 [.ref 31, .int a1, .int a2] [] S from rfl).trans ((a_unf0 none t_X11_put c_X11_put k_X11_at 20 0 _ _ S).trans rfl)
theorem put_31 (i v : Int32) (S : a_M) : x_X11_put [.ref 31, .int i, .int v] S = some (none, pv S 31 60 i v) := (e_put_31 i v S).trans (put_aux (by decide) (by decide))
theorem e_at_32 (a1 : Int32) (S : a_M) : x_X11_at [.ref 32, .int a1] S = (if a1 < 0 then some (some (.int (-1)), S) else (if a1 < 60 then (if a1 < 0 ∨ 60 ≤ a1.toNatClampNeg then none else some (some (.int (S.1 32 a1.toNatClampNeg)), S)) else some (some (.int (-1)), S))) :=
  (show x_X11_at [.ref 32, .int a1] S = g_X11_at 0 [.ref 32, .int a1] [] S from rfl).trans ((a_unf0 none t_X11_at c_X11_at k_X11_at 20 0 _ _ S).trans rfl)
theorem at_32 (i : Int32) (S : a_M) : x_X11_at [.ref 32, .int i] S = some (some (.int (av S 32 60 i)), S) := (e_at_32 i S).trans (at_aux (by decide) (by decide))
theorem e_put_32 (a1 a2 : Int32) (S : a_M) : x_X11_put [.ref 32, .int a1, .int a2] S = (if a1 < 0 then some (none, S) else (if a1 < 60 then (if a1 < 0 ∨ 60 ≤ a1.toNatClampNeg then none else some (none, (a_wi S 32 (a1.toNatClampNeg) (a2)))) else some (none, S))) :=
  (show x_X11_put [.ref 32, .int a1, .int a2] S = g_X11_put 0 [.ref 32, .int a1, .int a2] [] S from rfl).trans ((a_unf0 none t_X11_put c_X11_put k_X11_at 20 0 _ _ S).trans rfl)
theorem put_32 (i v : Int32) (S : a_M) : x_X11_put [.ref 32, .int i, .int v] S = some (none, pv S 32 60 i v) := (e_put_32 i v S).trans (put_aux (by decide) (by decide))
theorem e_at_33 (a1 : Int32) (S : a_M) : x_X11_at [.ref 33, .int a1] S = (if a1 < 0 then some (some (.int (-1)), S) else (if a1 < 60 then (if a1 < 0 ∨ 60 ≤ a1.toNatClampNeg then none else some (some (.int (S.1 33 a1.toNatClampNeg)), S)) else some (some (.int (-1)), S))) :=
  (show x_X11_at [.ref 33, .int a1] S = g_X11_at 0 [.ref 33, .int a1] [] S from rfl).trans ((a_unf0 none t_X11_at c_X11_at k_X11_at 20 0 _ _ S).trans rfl)
theorem at_33 (i : Int32) (S : a_M) : x_X11_at [.ref 33, .int i] S = some (some (.int (av S 33 60 i)), S) := (e_at_33 i S).trans (at_aux (by decide) (by decide))
theorem e_put_33 (a1 a2 : Int32) (S : a_M) : x_X11_put [.ref 33, .int a1, .int a2] S = (if a1 < 0 then some (none, S) else (if a1 < 60 then (if a1 < 0 ∨ 60 ≤ a1.toNatClampNeg then none else some (none, (a_wi S 33 (a1.toNatClampNeg) (a2)))) else some (none, S))) :=
  (show x_X11_put [.ref 33, .int a1, .int a2] S = g_X11_put 0 [.ref 33, .int a1, .int a2] [] S from rfl).trans ((a_unf0 none t_X11_put c_X11_put k_X11_at 20 0 _ _ S).trans rfl)
theorem put_33 (i v : Int32) (S : a_M) : x_X11_put [.ref 33, .int i, .int v] S = some (none, pv S 33 60 i v) := (e_put_33 i v S).trans (put_aux (by decide) (by decide))
theorem e_at_35 (a1 : Int32) (S : a_M) : x_X11_at [.ref 35, .int a1] S = (if a1 < 0 then some (some (.int (-1)), S) else (if a1 < 8 then (if a1 < 0 ∨ 8 ≤ a1.toNatClampNeg then none else some (some (.int (S.1 35 a1.toNatClampNeg)), S)) else some (some (.int (-1)), S))) :=
  (show x_X11_at [.ref 35, .int a1] S = g_X11_at 0 [.ref 35, .int a1] [] S from rfl).trans ((a_unf0 none t_X11_at c_X11_at k_X11_at 20 0 _ _ S).trans rfl)
theorem at_35 (i : Int32) (S : a_M) : x_X11_at [.ref 35, .int i] S = some (some (.int (av S 35 8 i)), S) := (e_at_35 i S).trans (at_aux (by decide) (by decide))
theorem e_put_35 (a1 a2 : Int32) (S : a_M) : x_X11_put [.ref 35, .int a1, .int a2] S = (if a1 < 0 then some (none, S) else (if a1 < 8 then (if a1 < 0 ∨ 8 ≤ a1.toNatClampNeg then none else some (none, (a_wi S 35 (a1.toNatClampNeg) (a2)))) else some (none, S))) :=
  (show x_X11_put [.ref 35, .int a1, .int a2] S = g_X11_put 0 [.ref 35, .int a1, .int a2] [] S from rfl).trans ((a_unf0 none t_X11_put c_X11_put k_X11_at 20 0 _ _ S).trans rfl)
theorem put_35 (i v : Int32) (S : a_M) : x_X11_put [.ref 35, .int i, .int v] S = some (none, pv S 35 8 i v) := (e_put_35 i v S).trans (put_aux (by decide) (by decide))
theorem e_at_36 (a1 : Int32) (S : a_M) : x_X11_at [.ref 36, .int a1] S = (if a1 < 0 then some (some (.int (-1)), S) else (if a1 < 8 then (if a1 < 0 ∨ 8 ≤ a1.toNatClampNeg then none else some (some (.int (S.1 36 a1.toNatClampNeg)), S)) else some (some (.int (-1)), S))) :=
  (show x_X11_at [.ref 36, .int a1] S = g_X11_at 0 [.ref 36, .int a1] [] S from rfl).trans ((a_unf0 none t_X11_at c_X11_at k_X11_at 20 0 _ _ S).trans rfl)
theorem at_36 (i : Int32) (S : a_M) : x_X11_at [.ref 36, .int i] S = some (some (.int (av S 36 8 i)), S) := (e_at_36 i S).trans (at_aux (by decide) (by decide))
theorem e_put_36 (a1 a2 : Int32) (S : a_M) : x_X11_put [.ref 36, .int a1, .int a2] S = (if a1 < 0 then some (none, S) else (if a1 < 8 then (if a1 < 0 ∨ 8 ≤ a1.toNatClampNeg then none else some (none, (a_wi S 36 (a1.toNatClampNeg) (a2)))) else some (none, S))) :=
  (show x_X11_put [.ref 36, .int a1, .int a2] S = g_X11_put 0 [.ref 36, .int a1, .int a2] [] S from rfl).trans ((a_unf0 none t_X11_put c_X11_put k_X11_at 20 0 _ _ S).trans rfl)
theorem put_36 (i v : Int32) (S : a_M) : x_X11_put [.ref 36, .int i, .int v] S = some (none, pv S 36 8 i v) := (e_put_36 i v S).trans (put_aux (by decide) (by decide))
theorem e_at_37 (a1 : Int32) (S : a_M) : x_X11_at [.ref 37, .int a1] S = (if a1 < 0 then some (some (.int (-1)), S) else (if a1 < 8 then (if a1 < 0 ∨ 8 ≤ a1.toNatClampNeg then none else some (some (.int (S.1 37 a1.toNatClampNeg)), S)) else some (some (.int (-1)), S))) :=
  (show x_X11_at [.ref 37, .int a1] S = g_X11_at 0 [.ref 37, .int a1] [] S from rfl).trans ((a_unf0 none t_X11_at c_X11_at k_X11_at 20 0 _ _ S).trans rfl)
theorem at_37 (i : Int32) (S : a_M) : x_X11_at [.ref 37, .int i] S = some (some (.int (av S 37 8 i)), S) := (e_at_37 i S).trans (at_aux (by decide) (by decide))
theorem e_put_37 (a1 a2 : Int32) (S : a_M) : x_X11_put [.ref 37, .int a1, .int a2] S = (if a1 < 0 then some (none, S) else (if a1 < 8 then (if a1 < 0 ∨ 8 ≤ a1.toNatClampNeg then none else some (none, (a_wi S 37 (a1.toNatClampNeg) (a2)))) else some (none, S))) :=
  (show x_X11_put [.ref 37, .int a1, .int a2] S = g_X11_put 0 [.ref 37, .int a1, .int a2] [] S from rfl).trans ((a_unf0 none t_X11_put c_X11_put k_X11_at 20 0 _ _ S).trans rfl)
theorem put_37 (i v : Int32) (S : a_M) : x_X11_put [.ref 37, .int i, .int v] S = some (none, pv S 37 8 i v) := (e_put_37 i v S).trans (put_aux (by decide) (by decide))
theorem e_at_39 (a1 : Int32) (S : a_M) : x_X11_at [.ref 39, .int a1] S = (if a1 < 0 then some (some (.int (-1)), S) else (if a1 < 680 then (if a1 < 0 ∨ 680 ≤ a1.toNatClampNeg then none else some (some (.int (S.1 39 a1.toNatClampNeg)), S)) else some (some (.int (-1)), S))) :=
  (show x_X11_at [.ref 39, .int a1] S = g_X11_at 0 [.ref 39, .int a1] [] S from rfl).trans ((a_unf0 none t_X11_at c_X11_at k_X11_at 20 0 _ _ S).trans rfl)
theorem at_39 (i : Int32) (S : a_M) : x_X11_at [.ref 39, .int i] S = some (some (.int (av S 39 680 i)), S) := (e_at_39 i S).trans (at_aux (by decide) (by decide))
theorem e_put_39 (a1 a2 : Int32) (S : a_M) : x_X11_put [.ref 39, .int a1, .int a2] S = (if a1 < 0 then some (none, S) else (if a1 < 680 then (if a1 < 0 ∨ 680 ≤ a1.toNatClampNeg then none else some (none, (a_wi S 39 (a1.toNatClampNeg) (a2)))) else some (none, S))) :=
  (show x_X11_put [.ref 39, .int a1, .int a2] S = g_X11_put 0 [.ref 39, .int a1, .int a2] [] S from rfl).trans ((a_unf0 none t_X11_put c_X11_put k_X11_at 20 0 _ _ S).trans rfl)
theorem put_39 (i v : Int32) (S : a_M) : x_X11_put [.ref 39, .int i, .int v] S = some (none, pv S 39 680 i v) := (e_put_39 i v S).trans (put_aux (by decide) (by decide))
theorem e_at_40 (a1 : Int32) (S : a_M) : x_X11_at [.ref 40, .int a1] S = (if a1 < 0 then some (some (.int (-1)), S) else (if a1 < 17 then (if a1 < 0 ∨ 17 ≤ a1.toNatClampNeg then none else some (some (.int (S.1 40 a1.toNatClampNeg)), S)) else some (some (.int (-1)), S))) :=
  (show x_X11_at [.ref 40, .int a1] S = g_X11_at 0 [.ref 40, .int a1] [] S from rfl).trans ((a_unf0 none t_X11_at c_X11_at k_X11_at 20 0 _ _ S).trans rfl)
theorem at_40 (i : Int32) (S : a_M) : x_X11_at [.ref 40, .int i] S = some (some (.int (av S 40 17 i)), S) := (e_at_40 i S).trans (at_aux (by decide) (by decide))
theorem e_put_40 (a1 a2 : Int32) (S : a_M) : x_X11_put [.ref 40, .int a1, .int a2] S = (if a1 < 0 then some (none, S) else (if a1 < 17 then (if a1 < 0 ∨ 17 ≤ a1.toNatClampNeg then none else some (none, (a_wi S 40 (a1.toNatClampNeg) (a2)))) else some (none, S))) :=
  (show x_X11_put [.ref 40, .int a1, .int a2] S = g_X11_put 0 [.ref 40, .int a1, .int a2] [] S from rfl).trans ((a_unf0 none t_X11_put c_X11_put k_X11_at 20 0 _ _ S).trans rfl)
theorem put_40 (i v : Int32) (S : a_M) : x_X11_put [.ref 40, .int i, .int v] S = some (none, pv S 40 17 i v) := (e_put_40 i v S).trans (put_aux (by decide) (by decide))
theorem e_at_42 (a1 : Int32) (S : a_M) : x_X11_at [.ref 42, .int a1] S = (if a1 < 0 then some (some (.int (-1)), S) else (if a1 < 14 then (if a1 < 0 ∨ 14 ≤ a1.toNatClampNeg then none else some (some (.int (S.1 42 a1.toNatClampNeg)), S)) else some (some (.int (-1)), S))) :=
  (show x_X11_at [.ref 42, .int a1] S = g_X11_at 0 [.ref 42, .int a1] [] S from rfl).trans ((a_unf0 none t_X11_at c_X11_at k_X11_at 20 0 _ _ S).trans rfl)
theorem at_42 (i : Int32) (S : a_M) : x_X11_at [.ref 42, .int i] S = some (some (.int (av S 42 14 i)), S) := (e_at_42 i S).trans (at_aux (by decide) (by decide))
theorem e_put_42 (a1 a2 : Int32) (S : a_M) : x_X11_put [.ref 42, .int a1, .int a2] S = (if a1 < 0 then some (none, S) else (if a1 < 14 then (if a1 < 0 ∨ 14 ≤ a1.toNatClampNeg then none else some (none, (a_wi S 42 (a1.toNatClampNeg) (a2)))) else some (none, S))) :=
  (show x_X11_put [.ref 42, .int a1, .int a2] S = g_X11_put 0 [.ref 42, .int a1, .int a2] [] S from rfl).trans ((a_unf0 none t_X11_put c_X11_put k_X11_at 20 0 _ _ S).trans rfl)
theorem put_42 (i v : Int32) (S : a_M) : x_X11_put [.ref 42, .int i, .int v] S = some (none, pv S 42 14 i v) := (e_put_42 i v S).trans (put_aux (by decide) (by decide))
theorem e_at_43 (a1 : Int32) (S : a_M) : x_X11_at [.ref 43, .int a1] S = (if a1 < 0 then some (some (.int (-1)), S) else (if a1 < 3360 then (if a1 < 0 ∨ 3360 ≤ a1.toNatClampNeg then none else some (some (.int (S.1 43 a1.toNatClampNeg)), S)) else some (some (.int (-1)), S))) :=
  (show x_X11_at [.ref 43, .int a1] S = g_X11_at 0 [.ref 43, .int a1] [] S from rfl).trans ((a_unf0 none t_X11_at c_X11_at k_X11_at 20 0 _ _ S).trans rfl)
theorem at_43 (i : Int32) (S : a_M) : x_X11_at [.ref 43, .int i] S = some (some (.int (av S 43 3360 i)), S) := (e_at_43 i S).trans (at_aux (by decide) (by decide))
theorem e_put_43 (a1 a2 : Int32) (S : a_M) : x_X11_put [.ref 43, .int a1, .int a2] S = (if a1 < 0 then some (none, S) else (if a1 < 3360 then (if a1 < 0 ∨ 3360 ≤ a1.toNatClampNeg then none else some (none, (a_wi S 43 (a1.toNatClampNeg) (a2)))) else some (none, S))) :=
  (show x_X11_put [.ref 43, .int a1, .int a2] S = g_X11_put 0 [.ref 43, .int a1, .int a2] [] S from rfl).trans ((a_unf0 none t_X11_put c_X11_put k_X11_at 20 0 _ _ S).trans rfl)
theorem put_43 (i v : Int32) (S : a_M) : x_X11_put [.ref 43, .int i, .int v] S = some (none, pv S 43 3360 i v) := (e_put_43 i v S).trans (put_aux (by decide) (by decide))
theorem e_at_44 (a1 : Int32) (S : a_M) : x_X11_at [.ref 44, .int a1] S = (if a1 < 0 then some (some (.int (-1)), S) else (if a1 < 25 then (if a1 < 0 ∨ 25 ≤ a1.toNatClampNeg then none else some (some (.int (S.1 44 a1.toNatClampNeg)), S)) else some (some (.int (-1)), S))) :=
  (show x_X11_at [.ref 44, .int a1] S = g_X11_at 0 [.ref 44, .int a1] [] S from rfl).trans ((a_unf0 none t_X11_at c_X11_at k_X11_at 20 0 _ _ S).trans rfl)
theorem at_44 (i : Int32) (S : a_M) : x_X11_at [.ref 44, .int i] S = some (some (.int (av S 44 25 i)), S) := (e_at_44 i S).trans (at_aux (by decide) (by decide))
theorem e_put_44 (a1 a2 : Int32) (S : a_M) : x_X11_put [.ref 44, .int a1, .int a2] S = (if a1 < 0 then some (none, S) else (if a1 < 25 then (if a1 < 0 ∨ 25 ≤ a1.toNatClampNeg then none else some (none, (a_wi S 44 (a1.toNatClampNeg) (a2)))) else some (none, S))) :=
  (show x_X11_put [.ref 44, .int a1, .int a2] S = g_X11_put 0 [.ref 44, .int a1, .int a2] [] S from rfl).trans ((a_unf0 none t_X11_put c_X11_put k_X11_at 20 0 _ _ S).trans rfl)
theorem put_44 (i v : Int32) (S : a_M) : x_X11_put [.ref 44, .int i, .int v] S = some (none, pv S 44 25 i v) := (e_put_44 i v S).trans (put_aux (by decide) (by decide))
theorem e_at_47 (a1 : Int32) (S : a_M) : x_X11_at [.ref 47, .int a1] S = (if a1 < 0 then some (some (.int (-1)), S) else (if a1 < 56 then (if a1 < 0 ∨ 56 ≤ a1.toNatClampNeg then none else some (some (.int (S.1 47 a1.toNatClampNeg)), S)) else some (some (.int (-1)), S))) :=
  (show x_X11_at [.ref 47, .int a1] S = g_X11_at 0 [.ref 47, .int a1] [] S from rfl).trans ((a_unf0 none t_X11_at c_X11_at k_X11_at 20 0 _ _ S).trans rfl)
theorem at_47 (i : Int32) (S : a_M) : x_X11_at [.ref 47, .int i] S = some (some (.int (av S 47 56 i)), S) := (e_at_47 i S).trans (at_aux (by decide) (by decide))
theorem e_put_47 (a1 a2 : Int32) (S : a_M) : x_X11_put [.ref 47, .int a1, .int a2] S = (if a1 < 0 then some (none, S) else (if a1 < 56 then (if a1 < 0 ∨ 56 ≤ a1.toNatClampNeg then none else some (none, (a_wi S 47 (a1.toNatClampNeg) (a2)))) else some (none, S))) :=
  (show x_X11_put [.ref 47, .int a1, .int a2] S = g_X11_put 0 [.ref 47, .int a1, .int a2] [] S from rfl).trans ((a_unf0 none t_X11_put c_X11_put k_X11_at 20 0 _ _ S).trans rfl)
theorem put_47 (i v : Int32) (S : a_M) : x_X11_put [.ref 47, .int i, .int v] S = some (none, pv S 47 56 i v) := (e_put_47 i v S).trans (put_aux (by decide) (by decide))
theorem e_at_48 (a1 : Int32) (S : a_M) : x_X11_at [.ref 48, .int a1] S = (if a1 < 0 then some (some (.int (-1)), S) else (if a1 < 56 then (if a1 < 0 ∨ 56 ≤ a1.toNatClampNeg then none else some (some (.int (S.1 48 a1.toNatClampNeg)), S)) else some (some (.int (-1)), S))) :=
  (show x_X11_at [.ref 48, .int a1] S = g_X11_at 0 [.ref 48, .int a1] [] S from rfl).trans ((a_unf0 none t_X11_at c_X11_at k_X11_at 20 0 _ _ S).trans rfl)
theorem at_48 (i : Int32) (S : a_M) : x_X11_at [.ref 48, .int i] S = some (some (.int (av S 48 56 i)), S) := (e_at_48 i S).trans (at_aux (by decide) (by decide))
theorem e_put_48 (a1 a2 : Int32) (S : a_M) : x_X11_put [.ref 48, .int a1, .int a2] S = (if a1 < 0 then some (none, S) else (if a1 < 56 then (if a1 < 0 ∨ 56 ≤ a1.toNatClampNeg then none else some (none, (a_wi S 48 (a1.toNatClampNeg) (a2)))) else some (none, S))) :=
  (show x_X11_put [.ref 48, .int a1, .int a2] S = g_X11_put 0 [.ref 48, .int a1, .int a2] [] S from rfl).trans ((a_unf0 none t_X11_put c_X11_put k_X11_at 20 0 _ _ S).trans rfl)
theorem put_48 (i v : Int32) (S : a_M) : x_X11_put [.ref 48, .int i, .int v] S = some (none, pv S 48 56 i v) := (e_put_48 i v S).trans (put_aux (by decide) (by decide))
theorem e_at_50 (a1 : Int32) (S : a_M) : x_X11_at [.ref 50, .int a1] S = (if a1 < 0 then some (some (.int (-1)), S) else (if a1 < 56 then (if a1 < 0 ∨ 56 ≤ a1.toNatClampNeg then none else some (some (.int (S.1 50 a1.toNatClampNeg)), S)) else some (some (.int (-1)), S))) :=
  (show x_X11_at [.ref 50, .int a1] S = g_X11_at 0 [.ref 50, .int a1] [] S from rfl).trans ((a_unf0 none t_X11_at c_X11_at k_X11_at 20 0 _ _ S).trans rfl)
theorem at_50 (i : Int32) (S : a_M) : x_X11_at [.ref 50, .int i] S = some (some (.int (av S 50 56 i)), S) := (e_at_50 i S).trans (at_aux (by decide) (by decide))
theorem e_put_50 (a1 a2 : Int32) (S : a_M) : x_X11_put [.ref 50, .int a1, .int a2] S = (if a1 < 0 then some (none, S) else (if a1 < 56 then (if a1 < 0 ∨ 56 ≤ a1.toNatClampNeg then none else some (none, (a_wi S 50 (a1.toNatClampNeg) (a2)))) else some (none, S))) :=
  (show x_X11_put [.ref 50, .int a1, .int a2] S = g_X11_put 0 [.ref 50, .int a1, .int a2] [] S from rfl).trans ((a_unf0 none t_X11_put c_X11_put k_X11_at 20 0 _ _ S).trans rfl)
theorem put_50 (i v : Int32) (S : a_M) : x_X11_put [.ref 50, .int i, .int v] S = some (none, pv S 50 56 i v) := (e_put_50 i v S).trans (put_aux (by decide) (by decide))
theorem e_at_51 (a1 : Int32) (S : a_M) : x_X11_at [.ref 51, .int a1] S = (if a1 < 0 then some (some (.int (-1)), S) else (if a1 < 56 then (if a1 < 0 ∨ 56 ≤ a1.toNatClampNeg then none else some (some (.int (S.1 51 a1.toNatClampNeg)), S)) else some (some (.int (-1)), S))) :=
  (show x_X11_at [.ref 51, .int a1] S = g_X11_at 0 [.ref 51, .int a1] [] S from rfl).trans ((a_unf0 none t_X11_at c_X11_at k_X11_at 20 0 _ _ S).trans rfl)
theorem at_51 (i : Int32) (S : a_M) : x_X11_at [.ref 51, .int i] S = some (some (.int (av S 51 56 i)), S) := (e_at_51 i S).trans (at_aux (by decide) (by decide))
theorem e_put_51 (a1 a2 : Int32) (S : a_M) : x_X11_put [.ref 51, .int a1, .int a2] S = (if a1 < 0 then some (none, S) else (if a1 < 56 then (if a1 < 0 ∨ 56 ≤ a1.toNatClampNeg then none else some (none, (a_wi S 51 (a1.toNatClampNeg) (a2)))) else some (none, S))) :=
  (show x_X11_put [.ref 51, .int a1, .int a2] S = g_X11_put 0 [.ref 51, .int a1, .int a2] [] S from rfl).trans ((a_unf0 none t_X11_put c_X11_put k_X11_at 20 0 _ _ S).trans rfl)
theorem put_51 (i v : Int32) (S : a_M) : x_X11_put [.ref 51, .int i, .int v] S = some (none, pv S 51 56 i v) := (e_put_51 i v S).trans (put_aux (by decide) (by decide))
theorem e_at_52 (a1 : Int32) (S : a_M) : x_X11_at [.ref 52, .int a1] S = (if a1 < 0 then some (some (.int (-1)), S) else (if a1 < 14 then (if a1 < 0 ∨ 14 ≤ a1.toNatClampNeg then none else some (some (.int (S.1 52 a1.toNatClampNeg)), S)) else some (some (.int (-1)), S))) :=
  (show x_X11_at [.ref 52, .int a1] S = g_X11_at 0 [.ref 52, .int a1] [] S from rfl).trans ((a_unf0 none t_X11_at c_X11_at k_X11_at 20 0 _ _ S).trans rfl)
theorem at_52 (i : Int32) (S : a_M) : x_X11_at [.ref 52, .int i] S = some (some (.int (av S 52 14 i)), S) := (e_at_52 i S).trans (at_aux (by decide) (by decide))
theorem e_put_52 (a1 a2 : Int32) (S : a_M) : x_X11_put [.ref 52, .int a1, .int a2] S = (if a1 < 0 then some (none, S) else (if a1 < 14 then (if a1 < 0 ∨ 14 ≤ a1.toNatClampNeg then none else some (none, (a_wi S 52 (a1.toNatClampNeg) (a2)))) else some (none, S))) :=
  (show x_X11_put [.ref 52, .int a1, .int a2] S = g_X11_put 0 [.ref 52, .int a1, .int a2] [] S from rfl).trans ((a_unf0 none t_X11_put c_X11_put k_X11_at 20 0 _ _ S).trans rfl)
theorem put_52 (i v : Int32) (S : a_M) : x_X11_put [.ref 52, .int i, .int v] S = some (none, pv S 52 14 i v) := (e_put_52 i v S).trans (put_aux (by decide) (by decide))
theorem e_at_55 (a1 : Int32) (S : a_M) : x_X11_at [.ref 55, .int a1] S = (if a1 < 0 then some (some (.int (-1)), S) else (if a1 < 120 then (if a1 < 0 ∨ 120 ≤ a1.toNatClampNeg then none else some (some (.int (S.1 55 a1.toNatClampNeg)), S)) else some (some (.int (-1)), S))) :=
  (show x_X11_at [.ref 55, .int a1] S = g_X11_at 0 [.ref 55, .int a1] [] S from rfl).trans ((a_unf0 none t_X11_at c_X11_at k_X11_at 20 0 _ _ S).trans rfl)
theorem at_55 (i : Int32) (S : a_M) : x_X11_at [.ref 55, .int i] S = some (some (.int (av S 55 120 i)), S) := (e_at_55 i S).trans (at_aux (by decide) (by decide))
theorem e_put_55 (a1 a2 : Int32) (S : a_M) : x_X11_put [.ref 55, .int a1, .int a2] S = (if a1 < 0 then some (none, S) else (if a1 < 120 then (if a1 < 0 ∨ 120 ≤ a1.toNatClampNeg then none else some (none, (a_wi S 55 (a1.toNatClampNeg) (a2)))) else some (none, S))) :=
  (show x_X11_put [.ref 55, .int a1, .int a2] S = g_X11_put 0 [.ref 55, .int a1, .int a2] [] S from rfl).trans ((a_unf0 none t_X11_put c_X11_put k_X11_at 20 0 _ _ S).trans rfl)
theorem put_55 (i v : Int32) (S : a_M) : x_X11_put [.ref 55, .int i, .int v] S = some (none, pv S 55 120 i v) := (e_put_55 i v S).trans (put_aux (by decide) (by decide))
theorem e_fill_40 (a1 : Int32) (S : a_M) : x_J7_fill_53178 [.ref 40, .int a1] S = g_J7_fill_53178 5 [.ref 40, .int (a1), .int (0), .int (17)] [] S :=
  (show x_J7_fill_53178 [.ref 40, .int a1] S = g_J7_fill_53178 0 [.ref 40, .int a1, .null, .null] [] S from rfl).trans ((a_unf0 none t_J7_fill_53178 c_J7_fill_53178 k_J7_fill 30 0 _ _ S).trans rfl)
theorem b_fill_40 (a1 a2 : Int32) (S : a_M) : g_J7_fill_53178 5 [.ref 40, .int a1, .int a2, .int 17] [] S = (if a2 < 17 then (if a2 < 0 ∨ 17 ≤ a2.toNatClampNeg then none else g_J7_fill_53178 5 [.ref 40, .int (a1), .int (a2 + 1), .int (17)] [] (a_wi S 40 (a2.toNatClampNeg) (a1))) else some (none, S)) :=
  (a_unf0 none t_J7_fill_53178 c_J7_fill_53178 k_J7_fill 30 5 _ _ S).trans rfl
theorem fill_40 (v : Int32) (S : a_M) : x_J7_fill_53178 [.ref 40, .int v] S = some (none, fv S 40 17 v) := (e_fill_40 v S).trans (fill_aux (n := 17) (by decide) (by decide) (fun a2 S => b_fill_40 v a2 S) S)
theorem e_fill_44 (a1 : Int32) (S : a_M) : x_J7_fill_53178 [.ref 44, .int a1] S = g_J7_fill_53178 5 [.ref 44, .int (a1), .int (0), .int (25)] [] S :=
  (show x_J7_fill_53178 [.ref 44, .int a1] S = g_J7_fill_53178 0 [.ref 44, .int a1, .null, .null] [] S from rfl).trans ((a_unf0 none t_J7_fill_53178 c_J7_fill_53178 k_J7_fill 30 0 _ _ S).trans rfl)
theorem b_fill_44 (a1 a2 : Int32) (S : a_M) : g_J7_fill_53178 5 [.ref 44, .int a1, .int a2, .int 25] [] S = (if a2 < 25 then (if a2 < 0 ∨ 25 ≤ a2.toNatClampNeg then none else g_J7_fill_53178 5 [.ref 44, .int (a1), .int (a2 + 1), .int (25)] [] (a_wi S 44 (a2.toNatClampNeg) (a1))) else some (none, S)) :=
  (a_unf0 none t_J7_fill_53178 c_J7_fill_53178 k_J7_fill 30 5 _ _ S).trans rfl
theorem fill_44 (v : Int32) (S : a_M) : x_J7_fill_53178 [.ref 44, .int v] S = some (none, fv S 44 25 v) := (e_fill_44 v S).trans (fill_aux (n := 25) (by decide) (by decide) (fun a2 S => b_fill_44 v a2 S) S)
theorem e_fill_47 (a1 : Int32) (S : a_M) : x_J7_fill_53178 [.ref 47, .int a1] S = g_J7_fill_53178 5 [.ref 47, .int (a1), .int (0), .int (56)] [] S :=
  (show x_J7_fill_53178 [.ref 47, .int a1] S = g_J7_fill_53178 0 [.ref 47, .int a1, .null, .null] [] S from rfl).trans ((a_unf0 none t_J7_fill_53178 c_J7_fill_53178 k_J7_fill 30 0 _ _ S).trans rfl)
theorem b_fill_47 (a1 a2 : Int32) (S : a_M) : g_J7_fill_53178 5 [.ref 47, .int a1, .int a2, .int 56] [] S = (if a2 < 56 then (if a2 < 0 ∨ 56 ≤ a2.toNatClampNeg then none else g_J7_fill_53178 5 [.ref 47, .int (a1), .int (a2 + 1), .int (56)] [] (a_wi S 47 (a2.toNatClampNeg) (a1))) else some (none, S)) :=
  (a_unf0 none t_J7_fill_53178 c_J7_fill_53178 k_J7_fill 30 5 _ _ S).trans rfl
theorem fill_47 (v : Int32) (S : a_M) : x_J7_fill_53178 [.ref 47, .int v] S = some (none, fv S 47 56 v) := (e_fill_47 v S).trans (fill_aux (n := 56) (by decide) (by decide) (fun a2 S => b_fill_47 v a2 S) S)
theorem e_fill_48 (a1 : Int32) (S : a_M) : x_J7_fill_53178 [.ref 48, .int a1] S = g_J7_fill_53178 5 [.ref 48, .int (a1), .int (0), .int (56)] [] S :=
  (show x_J7_fill_53178 [.ref 48, .int a1] S = g_J7_fill_53178 0 [.ref 48, .int a1, .null, .null] [] S from rfl).trans ((a_unf0 none t_J7_fill_53178 c_J7_fill_53178 k_J7_fill 30 0 _ _ S).trans rfl)
theorem b_fill_48 (a1 a2 : Int32) (S : a_M) : g_J7_fill_53178 5 [.ref 48, .int a1, .int a2, .int 56] [] S = (if a2 < 56 then (if a2 < 0 ∨ 56 ≤ a2.toNatClampNeg then none else g_J7_fill_53178 5 [.ref 48, .int (a1), .int (a2 + 1), .int (56)] [] (a_wi S 48 (a2.toNatClampNeg) (a1))) else some (none, S)) :=
  (a_unf0 none t_J7_fill_53178 c_J7_fill_53178 k_J7_fill 30 5 _ _ S).trans rfl
theorem fill_48 (v : Int32) (S : a_M) : x_J7_fill_53178 [.ref 48, .int v] S = some (none, fv S 48 56 v) := (e_fill_48 v S).trans (fill_aux (n := 56) (by decide) (by decide) (fun a2 S => b_fill_48 v a2 S) S)
theorem e_fill_50 (a1 : Int32) (S : a_M) : x_J7_fill_53178 [.ref 50, .int a1] S = g_J7_fill_53178 5 [.ref 50, .int (a1), .int (0), .int (56)] [] S :=
  (show x_J7_fill_53178 [.ref 50, .int a1] S = g_J7_fill_53178 0 [.ref 50, .int a1, .null, .null] [] S from rfl).trans ((a_unf0 none t_J7_fill_53178 c_J7_fill_53178 k_J7_fill 30 0 _ _ S).trans rfl)
theorem b_fill_50 (a1 a2 : Int32) (S : a_M) : g_J7_fill_53178 5 [.ref 50, .int a1, .int a2, .int 56] [] S = (if a2 < 56 then (if a2 < 0 ∨ 56 ≤ a2.toNatClampNeg then none else g_J7_fill_53178 5 [.ref 50, .int (a1), .int (a2 + 1), .int (56)] [] (a_wi S 50 (a2.toNatClampNeg) (a1))) else some (none, S)) :=
  (a_unf0 none t_J7_fill_53178 c_J7_fill_53178 k_J7_fill 30 5 _ _ S).trans rfl
theorem fill_50 (v : Int32) (S : a_M) : x_J7_fill_53178 [.ref 50, .int v] S = some (none, fv S 50 56 v) := (e_fill_50 v S).trans (fill_aux (n := 56) (by decide) (by decide) (fun a2 S => b_fill_50 v a2 S) S)
theorem e_fill_51 (a1 : Int32) (S : a_M) : x_J7_fill_53178 [.ref 51, .int a1] S = g_J7_fill_53178 5 [.ref 51, .int (a1), .int (0), .int (56)] [] S :=
  (show x_J7_fill_53178 [.ref 51, .int a1] S = g_J7_fill_53178 0 [.ref 51, .int a1, .null, .null] [] S from rfl).trans ((a_unf0 none t_J7_fill_53178 c_J7_fill_53178 k_J7_fill 30 0 _ _ S).trans rfl)
theorem b_fill_51 (a1 a2 : Int32) (S : a_M) : g_J7_fill_53178 5 [.ref 51, .int a1, .int a2, .int 56] [] S = (if a2 < 56 then (if a2 < 0 ∨ 56 ≤ a2.toNatClampNeg then none else g_J7_fill_53178 5 [.ref 51, .int (a1), .int (a2 + 1), .int (56)] [] (a_wi S 51 (a2.toNatClampNeg) (a1))) else some (none, S)) :=
  (a_unf0 none t_J7_fill_53178 c_J7_fill_53178 k_J7_fill 30 5 _ _ S).trans rfl
theorem fill_51 (v : Int32) (S : a_M) : x_J7_fill_53178 [.ref 51, .int v] S = some (none, fv S 51 56 v) := (e_fill_51 v S).trans (fill_aux (n := 56) (by decide) (by decide) (fun a2 S => b_fill_51 v a2 S) S)
