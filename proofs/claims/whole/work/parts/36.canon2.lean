/-! ===== canonical: names ===== -/
def capf (lg : Bool) (i : Nat) (s : Int32) : Int32 := if lg = true ∧ i = 0 ∧ p_small s then s - 32 else s
abbrev wordf (S : a_M) (lg : Bool) (w i : Nat) : List Int32 := sg_u (capf lg i (S.1 13 (w * 16 + i)))
abbrev wordl (S : a_M) (lg : Bool) (w : Nat) : List Int32 := wsl (wordf S lg w) (cl (S.1 14 w))
abbrev namef (S : a_M) (lg : Bool) (k j : Nat) : List Int32 := (if 0 < j then [32] else []) ++ wordl S lg (b_id S k j)
abbrev namel (S : a_M) (lg : Bool) (k : Nat) : List Int32 := wsl (namef S lg k) (b_sz S k)
theorem wsl2_len {f : Nat → List Int32} (h : ∀ i, (f i).length ≤ 2) : ∀ n, (wsl f n).length ≤ 2 * n := by
  intro n
  have := wsl_len (f := f) (c := 2) n (fun i _ => h i)
  omega
theorem namef_len {N W k j : Nat} {S : a_M} {lg : Bool} (hB : i_B N W S) (hk : k < N) (hj : j < b_sz S k) : (namef S lg k j).length ≤ 33 := by
  obtain ⟨-, -, -, -, -, -, -, b8, b9, -⟩ := hB
  obtain ⟨a1, -⟩ := b8 k j hk hj
  obtain ⟨-, c2, -⟩ := b9 _ a1
  have h1 := wsl2_len (f := wordf S lg (b_id S k j)) (fun i => (sg_u_len _).1) (cl (S.1 14 (b_id S k j)))
  show ((if 0 < j then [32] else []) ++ wsl (wordf S lg (b_id S k j)) (cl (S.1 14 (b_id S k j)))).length ≤ 33
  have c2' : cl (S.1 14 (b_id S k j)) ≤ 16 := c2
  rw [List.length_append]
  split <;> simp <;> omega
theorem namep_len {N W k : Nat} {S : a_M} {lg : Bool} (hB : i_B N W S) (hk : k < N) : ∀ j, j ≤ b_sz S k → (wsl (namef S lg k) j).length ≤ 33 * j := by
  intro j hj
  have := wsl_len (f := namef S lg k) (c := 33) j (fun i hi => namef_len hB hk (by omega))
  omega
theorem X9_word38 {S0 : a_M} {k j w l : Nat} {lg : Bool} (hw : w < 240) (hl : S0.1 14 w = nI l) (hl16 : l ≤ 16) : ∀ d i T out, i + d = l → wc S0 (out ++ wsl (wordf S0 lg w) i) T → out.length ≤ 700 →
    ∃ T', g_X9_writeName 38 [.ref 54, .int (nI k), .int (b2i (lg = true)), .int (nI j), .int (nI w), .int (nI i), .null] [] T = g_X9_writeName 2 [.ref 54, .int (nI k), .int (b2i (lg = true)), .int (nI (j + 1)), .null, .null, .null] [] T' ∧ wc S0 (out ++ wsl (wordf S0 lg w) l) T' := by
  intro d
  induction d with
  | zero =>
    intro i T out h1 h hlen
    obtain rfl : i = l := by omega
    rw [b_X9_writeName_38, X0_lengthOf hw, h.1 14 (by decide) (by decide), hl]
    simp only [Option.bind_some, Option.toList_some, List.cons_append, List.nil_append, b_X9_writeName_49]
    rw [if_neg (nI_nlt (Nat.le_refl _) (by omega)), nI_1]
    exact ⟨T, rfl, h⟩
  | succ d ih =>
    intro i T out h1 h hlen
    have e14 := h.1 14 (by decide) (by decide)
    have e13 := h.1 13 (by decide) (by decide)
    rw [b_X9_writeName_38, X0_lengthOf hw, e14, hl]
    simp only [Option.bind_some, Option.toList_some, List.cons_append, List.nil_append, b_X9_writeName_49]
    rw [if_pos (nI_lt (by omega) (by omega)), X0_signAt hw (by rw [e14]; exact hl) hl16 (by omega), if_pos (by omega), e13]
    simp only [Option.bind_some, Option.toList_some, List.append_nil, b_X9_writeName_63]
    have h93 : (if b2i (lg = true) = 0 then g_X9_writeName 91 [.ref 54, .int (nI k), .int (b2i (lg = true)), .int (nI j), .int (nI w), .int (nI i), .int (S0.1 13 (w * 16 + i))] [.ref 54] T else (if nI i = 0 then ((x_X11_isSmallLetter [.int (S0.1 13 (w * 16 + i))] T).bind fun q => g_X9_writeName 80 [.ref 54, .int (nI k), .int (b2i (lg = true)), .int (nI j), .int (nI w), .int (nI i), .int (S0.1 13 (w * 16 + i))] (q.1.toList ++ [.ref 54]) q.2) else g_X9_writeName 91 [.ref 54, .int (nI k), .int (b2i (lg = true)), .int (nI j), .int (nI w), .int (nI i), .int (S0.1 13 (w * 16 + i))] [.ref 54] T)) = g_X9_writeName 93 [.ref 54, .int (nI k), .int (b2i (lg = true)), .int (nI j), .int (nI w), .int (nI i), .null] [.int (capf lg i (S0.1 13 (w * 16 + i))), .ref 54] T := by
      unfold capf
      cases lg with
      | false => rw [if_pos (by decide), b_X9_writeName_91, if_neg (fun q => by simp at q)]
      | true =>
        rw [if_neg (by decide)]
        by_cases e : i = 0
        · subst e
          rw [if_pos nI_0, X11_isSmall]
          simp only [Option.bind_some, Option.toList_some, List.cons_append, List.nil_append, b_X9_writeName_80, b2i_z]
          by_cases hs : p_small (S0.1 13 (w * 16 + 0))
          · rw [if_neg (not_not_intro hs), if_pos ⟨trivial, trivial, hs⟩]
          · rw [if_pos hs, b_X9_writeName_91, if_neg (fun q => hs q.2.2)]
        · rw [if_neg (nI_ne0 (by omega) (by omega)), b_X9_writeName_91, if_neg (fun q => e q.2.1)]
    rw [h93, b_X9_writeName_93]
    have hlw := wsl2_len (f := wordf S0 lg w) (fun i => (sg_u_len _).1) i
    obtain ⟨T1, f1, f2⟩ := X9_writeSign (capf lg i (S0.1 13 (w * 16 + i))) h (by rw [List.length_append]; omega)
    rw [f1]
    simp only [Option.bind_some, Option.toList_none, List.append_nil, b_X9_writeName_96]
    rw [nI_1]
    rw [List.append_assoc] at f2
    exact ih (i + 1) T1 out (by omega) f2 hlen
theorem X9_name2 {S0 : a_M} {N W k : Nat} {lg : Bool} (hB : i_B N W S0) (hk : k < N) : ∀ d j T out, j + d = b_sz S0 k → wc S0 (out ++ wsl (namef S0 lg k) j) T → out.length ≤ 500 →
    ∃ T', g_X9_writeName 2 [.ref 54, .int (nI k), .int (b2i (lg = true)), .int (nI j), .null, .null, .null] [] T = some (none, T') ∧ wc S0 (out ++ namel S0 lg k) T' := by
  have hN := hB.1
  obtain ⟨c1, c2, c3⟩ := hB.2.2.2.2.2.2.1 k hk
  have c2' : b_sz S0 k ≤ 4 := c2
  intro d
  induction d with
  | zero =>
    intro j T out h1 h hlen
    obtain rfl : j = b_sz S0 k := by omega
    rw [b_X9_writeName_2, X0_sizeOf (by omega), h.1 16 (by decide) (by decide), c3]
    simp only [Option.bind_some, Option.toList_some, List.cons_append, List.nil_append, b_X9_writeName_11]
    rw [if_neg (nI_nlt (Nat.le_refl _) (by omega))]
    exact ⟨T, rfl, h⟩
  | succ d ih =>
    intro j T out h1 h hlen
    have hj : j < b_sz S0 k := by omega
    have hj4 : j < 4 := by have : b_sz S0 k ≤ 4 := c2; omega
    obtain ⟨a1, a2, a3, a4⟩ := hB.2.2.2.2.2.2.2.1 k j hk hj
    obtain ⟨l1, l2, l3⟩ := hB.2.2.2.2.2.2.2.2.1 _ a1
    have hW := hB.2.1
    have hlp := namep_len (lg := lg) hB hk j (by omega)
    rw [b_X9_writeName_2, X0_sizeOf (by omega), h.1 16 (by decide) (by decide), c3]
    simp only [Option.bind_some, Option.toList_some, List.cons_append, List.nil_append, b_X9_writeName_11]
    rw [if_pos (nI_lt hj (by omega))]
    have h24 : ∀ T1 out1, wc S0 out1 T1 → out1.length ≤ 700 → ∃ T', g_X9_writeName 24 [.ref 54, .int (nI k), .int (b2i (lg = true)), .int (nI j), .null, .null, .null] [] T1 = g_X9_writeName 2 [.ref 54, .int (nI k), .int (b2i (lg = true)), .int (nI (j + 1)), .null, .null, .null] [] T' ∧ wc S0 (out1 ++ wordl S0 lg (b_id S0 k j)) T' := by
      intro T1 out1 g1 g2
      rw [b_X9_writeName_24, X0_wordOf (by omega) hj4, g1.1 15 (by decide) (by decide), a2]
      simp only [Option.bind_some, Option.toList_some, List.append_nil, b_X9_writeName_33]
      have := X9_word38 (S0 := S0) (k := k) (j := j) (w := b_id S0 k j) (lg := lg) (by have : b_id S0 k j < W := a1; omega) l3 l2 _ 0 T1 out1 (Nat.zero_add _) (by rw [show wsl (wordf S0 lg (b_id S0 k j)) 0 = [] from rfl, List.append_nil]; exact g1) g2
      rw [nI_0] at this
      exact this
    have hz : (0 : Int32) < nI j ↔ 0 < j := by rw [← nI_0]; exact nI_ltI (by decide) (by omega)
    by_cases h0 : 0 < j
    · rw [if_pos (hz.mpr h0)]
      obtain ⟨T1, f1, f2⟩ := X9_writeUnit 32 h (by rw [List.length_append]; omega)
      rw [f1]
      simp only [Option.bind_some, Option.toList_none, List.append_nil]
      obtain ⟨T2, f3, f4⟩ := h24 T1 _ f2 (by rw [List.length_append, List.length_append]; simp; omega)
      rw [f3]
      refine ih (j + 1) T2 out (by omega) ?_ hlen
      have : out ++ wsl (namef S0 lg k) (j + 1) = out ++ wsl (namef S0 lg k) j ++ [32] ++ wordl S0 lg (b_id S0 k j) := by
        show out ++ (wsl (namef S0 lg k) j ++ ((if 0 < j then [32] else []) ++ wordl S0 lg (b_id S0 k j))) = _
        rw [if_pos h0]
        simp only [List.append_assoc]
      rw [this]
      exact f4
    · rw [if_neg (fun q => h0 (hz.mp q))]
      obtain ⟨T2, f3, f4⟩ := h24 T _ h (by rw [List.length_append]; omega)
      rw [f3]
      refine ih (j + 1) T2 out (by omega) ?_ hlen
      have : out ++ wsl (namef S0 lg k) (j + 1) = out ++ wsl (namef S0 lg k) j ++ wordl S0 lg (b_id S0 k j) := by
        show out ++ (wsl (namef S0 lg k) j ++ ((if 0 < j then [32] else []) ++ wordl S0 lg (b_id S0 k j))) = _
        rw [if_neg h0]
        simp only [List.append_assoc, List.nil_append]
      rw [this]
      exact f4
theorem X9_writeName {S0 T : a_M} {N W k : Nat} {lg : Bool} {out : List Int32} (hB : i_B N W S0) (hk : k < N) (h : wc S0 out T) (hl : out.length ≤ 500) : ∃ T', x_X9_writeName [.ref 54, .int (nI k), .int (b2i (lg = true))] T = some (none, T') ∧ wc S0 (out ++ namel S0 lg k) T' := by
  rw [e_X9_writeName]
  have := X9_name2 (lg := lg) hB hk (b_sz S0 k) 0 T out (by omega) (by rw [show wsl (namef S0 lg k) 0 = [] from rfl, List.append_nil]; exact h) hl
  rw [nI_0] at this
  exact this
/-! the reference's names -/
abbrev mwordf (S : a_M) (lg : Bool) (b : Bool) (w i : Nat) : List Int32 := (if b = true ∧ i = 0 then [32] else []) ++ wordf S lg w i
theorem mword_eq (S : a_M) (lg b : Bool) (w : Nat) : ∀ n, 1 ≤ n → wsl (mwordf S lg b w) n = (if b = true then [32] else []) ++ wsl (wordf S lg w) n := by
  intro n
  induction n with
  | zero => intro h; omega
  | succ n ih =>
    intro _
    show wsl (mwordf S lg b w) n ++ ((if b = true ∧ n = 0 then [32] else []) ++ wordf S lg w n) = (if b = true then [32] else []) ++ (wsl (wordf S lg w) n ++ wordf S lg w n)
    cases n with
    | zero =>
      show [] ++ ((if b = true ∧ 0 = 0 then [32] else []) ++ wordf S lg w 0) = (if b = true then [32] else []) ++ ([] ++ wordf S lg w 0)
      cases b <;> simp
    | succ n =>
      rw [ih (by omega), if_neg (show ¬ (b = true ∧ n + 1 = 0) from fun q => by omega), List.nil_append, List.append_assoc]
theorem mword_len (S : a_M) (lg b : Bool) (w : Nat) (n : Nat) : (wsl (mwordf S lg b w) n).length ≤ 1 + 2 * n := by
  cases n with
  | zero => simp [wsl]
  | succ n =>
    rw [mword_eq S lg b w (n + 1) (by omega), List.length_append]
    have := wsl2_len (f := wordf S lg w) (fun i => (sg_u_len _).1) (n + 1)
    split <;> simp <;> omega
theorem X12_word22 {S0 : a_M} {N W k j : Nat} {lg : Bool} (hB : i_B N W S0) (hk : k < N) (hj : j < b_sz S0 k) : ∀ d i T out, i + d = cl (S0.1 14 (b_id S0 k j)) → wm S0 (out ++ wsl (mwordf S0 lg (decide (0 < j)) (b_id S0 k j)) i) T → out.length + 33 ≤ 397 →
    ∃ T', g_X12_writeName 22 [.ref 56, .int (nI k), .int (b2i (lg = true)), .int (nI j), .int (nI (k * 4 + j)), .int (nI i), .null] [] T = g_X12_writeName 2 [.ref 56, .int (nI k), .int (b2i (lg = true)), .int (nI (j + 1)), .null, .null, .null] [] T' ∧ wm S0 (out ++ wsl (mwordf S0 lg (decide (0 < j)) (b_id S0 k j)) (cl (S0.1 14 (b_id S0 k j)))) T' := by
  have hN := hB.1
  obtain ⟨c1, c2, c3⟩ := hB.2.2.2.2.2.2.1 k hk
  have hj4 : j < 4 := by have : b_sz S0 k ≤ 4 := c2; omega
  obtain ⟨a1, a2, a3, a4⟩ := hB.2.2.2.2.2.2.2.1 k j hk hj
  obtain ⟨l1, l2, l3⟩ := hB.2.2.2.2.2.2.2.2.1 _ a1
  have a3' : S0.1 65 (k * 4 + j) = nI (cl (S0.1 14 (b_id S0 k j))) := a3.trans l3
  have l2' : cl (S0.1 14 (b_id S0 k j)) ≤ 16 := l2
  intro d
  induction d with
  | zero =>
    intro i T out h1 h hlen
    obtain rfl : i = cl (S0.1 14 (b_id S0 k j)) := by omega
    rw [b_X12_writeName_22, if_neg (nI_out (by omega) (by decide)), nI_clamp (by omega), h.1 65 (by decide) (by decide), a3', if_neg (nI_nlt (Nat.le_refl _) (by omega)), nI_1]
    exact ⟨T, rfl, h⟩
  | succ d ih =>
    intro i T out h1 h hlen
    have hi : i < cl (S0.1 14 (b_id S0 k j)) := by omega
    have hml := mword_len S0 lg (decide (0 < j)) (b_id S0 k j) i
    have e2 : (16 : Int32) * nI (k * 4 + j) + nI i = nI ((k * 4 + j) * 16 + i) := by rw [show (16 : Int32) = nI 16 from rfl, pk_mul, nI_add, Nat.mul_comm]
    rw [b_X12_writeName_22, if_neg (nI_out (by omega) (by decide)), nI_clamp (by omega), h.1 65 (by decide) (by decide), a3', if_pos (nI_lt hi (by omega))]
    have h49 : ∀ T1 out1, wm S0 out1 T1 → out1.length + 2 ≤ 400 → ∃ T', g_X12_writeName 49 [.ref 56, .int (nI k), .int (b2i (lg = true)), .int (nI j), .int (nI (k * 4 + j)), .int (nI i), .null] [] T1 = g_X12_writeName 22 [.ref 56, .int (nI k), .int (b2i (lg = true)), .int (nI j), .int (nI (k * 4 + j)), .int (nI (i + 1)), .null] [] T' ∧ wm S0 (out1 ++ wordf S0 lg (b_id S0 k j) i) T' := by
      intro T1 out1 g1 g2
      rw [b_X12_writeName_49, e2, if_neg (nI_out (by omega) (by decide)), nI_clamp (by omega), g1.1 66 (by decide) (by decide), a4 i hi]
      have h96 : (if b2i (lg = true) = 0 then g_X12_writeName 94 [.ref 56, .int (nI k), .int (b2i (lg = true)), .int (nI j), .int (nI (k * 4 + j)), .int (nI i), .int (S0.1 13 (b_id S0 k j * 16 + i))] [.ref 56] T1 else (if nI i = 0 then ((x_X12_in [.int (S0.1 13 (b_id S0 k j * 16 + i)), .int (97), .int (122)] T1).bind fun q => g_X12_writeName 83 [.ref 56, .int (nI k), .int (b2i (lg = true)), .int (nI j), .int (nI (k * 4 + j)), .int (nI i), .int (S0.1 13 (b_id S0 k j * 16 + i))] (q.1.toList ++ [.ref 56]) q.2) else g_X12_writeName 94 [.ref 56, .int (nI k), .int (b2i (lg = true)), .int (nI j), .int (nI (k * 4 + j)), .int (nI i), .int (S0.1 13 (b_id S0 k j * 16 + i))] [.ref 56] T1)) = g_X12_writeName 96 [.ref 56, .int (nI k), .int (b2i (lg = true)), .int (nI j), .int (nI (k * 4 + j)), .int (nI i), .null] [.int (capf lg i (S0.1 13 (b_id S0 k j * 16 + i))), .ref 56] T1 := by
        unfold capf
        cases lg with
        | false => rw [if_pos (by decide), b_X12_writeName_94, if_neg (fun q => by simp at q)]
        | true =>
          rw [if_neg (by decide)]
          by_cases e : i = 0
          · subst e
            rw [if_pos nI_0, X12_in]
            simp only [Option.bind_some, Option.toList_some, List.cons_append, List.nil_append, b_X12_writeName_83, b2i_z]
            by_cases hs : p_small (S0.1 13 (b_id S0 k j * 16 + 0))
            · rw [if_neg (not_not_intro hs), if_pos ⟨trivial, trivial, hs⟩]
            · rw [if_pos hs, b_X12_writeName_94, if_neg (fun q => hs q.2.2)]
          · rw [if_neg (nI_ne0 (by omega) (by omega)), b_X12_writeName_94, if_neg (fun q => e q.2.1)]
      rw [h96, b_X12_writeName_96]
      obtain ⟨T2, f1, f2⟩ := X12_write (capf lg i (S0.1 13 (b_id S0 k j * 16 + i))) g1 g2
      rw [f1]
      simp only [Option.bind_some, Option.toList_none, List.append_nil, b_X12_writeName_99]
      rw [nI_1]
      exact ⟨T2, rfl, f2⟩
    have hz : (0 : Int32) < nI j ↔ 0 < j := by rw [← nI_0]; exact nI_ltI (by decide) (by omega)
    have plain : ¬ (0 < j ∧ i = 0) → ∃ T', g_X12_writeName 49 [.ref 56, .int (nI k), .int (b2i (lg = true)), .int (nI j), .int (nI (k * 4 + j)), .int (nI i), .null] [] T = g_X12_writeName 2 [.ref 56, .int (nI k), .int (b2i (lg = true)), .int (nI (j + 1)), .null, .null, .null] [] T' ∧ wm S0 (out ++ wsl (mwordf S0 lg (decide (0 < j)) (b_id S0 k j)) (cl (S0.1 14 (b_id S0 k j)))) T' := by
      intro hn
      obtain ⟨T2, f3, f4⟩ := h49 T _ h (by rw [List.length_append]; omega)
      rw [f3]
      refine ih (i + 1) T2 out (by omega) ?_ hlen
      have : out ++ wsl (mwordf S0 lg (decide (0 < j)) (b_id S0 k j)) (i + 1) = out ++ wsl (mwordf S0 lg (decide (0 < j)) (b_id S0 k j)) i ++ wordf S0 lg (b_id S0 k j) i := by
        show out ++ (wsl (mwordf S0 lg (decide (0 < j)) (b_id S0 k j)) i ++ ((if decide (0 < j) = true ∧ i = 0 then [32] else []) ++ wordf S0 lg (b_id S0 k j) i)) = _
        rw [if_neg (fun q => hn ⟨of_decide_eq_true q.1, q.2⟩)]
        simp only [List.append_assoc, List.nil_append]
      rw [this]
      exact f4
    by_cases h0 : 0 < j
    · rw [if_pos (hz.mpr h0)]
      by_cases e : i = 0
      · rw [if_pos (by rw [e]; exact nI_0)]
        obtain ⟨T1, f1, f2⟩ := X12_write 32 h (by rw [List.length_append]; omega)
        rw [f1]
        simp only [Option.bind_some, Option.toList_none, List.append_nil]
        rw [sg_u_1 (by decide)] at f2
        obtain ⟨T2, f3, f4⟩ := h49 T1 _ f2 (by rw [List.length_append, List.length_append]; simp; omega)
        rw [f3]
        refine ih (i + 1) T2 out (by omega) ?_ hlen
        have : out ++ wsl (mwordf S0 lg (decide (0 < j)) (b_id S0 k j)) (i + 1) = out ++ wsl (mwordf S0 lg (decide (0 < j)) (b_id S0 k j)) i ++ [32] ++ wordf S0 lg (b_id S0 k j) i := by
          show out ++ (wsl (mwordf S0 lg (decide (0 < j)) (b_id S0 k j)) i ++ ((if decide (0 < j) = true ∧ i = 0 then [32] else []) ++ wordf S0 lg (b_id S0 k j) i)) = _
          rw [if_pos ⟨decide_eq_true h0, e⟩]
          simp only [List.append_assoc]
        rw [this]
        exact f4
      · rw [if_neg (nI_ne0 (by omega) (by omega))]
        exact plain (fun q => e q.2)
    · rw [if_neg (fun q => h0 (hz.mp q))]
      exact plain (fun q => h0 q.1)
theorem X12_name2 {S0 : a_M} {N W k : Nat} {lg : Bool} (hB : i_B N W S0) (hk : k < N) : ∀ d j T out, j + d = b_sz S0 k → wm S0 (out ++ wsl (namef S0 lg k) j) T → out.length + 132 ≤ 397 →
    ∃ T', g_X12_writeName 2 [.ref 56, .int (nI k), .int (b2i (lg = true)), .int (nI j), .null, .null, .null] [] T = some (none, T') ∧ wm S0 (out ++ namel S0 lg k) T' := by
  have hN := hB.1
  have b6 := hB.2.2.2.2.2.1
  obtain ⟨c1, c2, c3⟩ := hB.2.2.2.2.2.2.1 k hk
  have c2' : b_sz S0 k ≤ 4 := c2
  intro d
  induction d with
  | zero =>
    intro j T out h1 h hlen
    obtain rfl : j = b_sz S0 k := by omega
    rw [b_X12_writeName_2, if_neg (nI_out (by omega) (by decide)), nI_clamp (by omega), h.1 64 (by decide) (by decide), ← b6, c3, if_neg (nI_nlt (Nat.le_refl _) (by omega))]
    exact ⟨T, rfl, h⟩
  | succ d ih =>
    intro j T out h1 h hlen
    have hj : j < b_sz S0 k := by omega
    have hj4 : j < 4 := by have : b_sz S0 k ≤ 4 := c2; omega
    obtain ⟨a1, a2, a3, a4⟩ := hB.2.2.2.2.2.2.2.1 k j hk hj
    obtain ⟨l1, l2, l3⟩ := hB.2.2.2.2.2.2.2.2.1 _ a1
    have hlp := namep_len (lg := lg) hB hk j (by omega)
    rw [b_X12_writeName_2, if_neg (nI_out (by omega) (by decide)), nI_clamp (by omega), h.1 64 (by decide) (by decide), ← b6, c3, if_pos (nI_lt hj (by omega)), show (4 : Int32) * nI k + nI j = nI (k * 4 + j) by rw [show (4 : Int32) = nI 4 from rfl, pk_mul, nI_add, Nat.mul_comm]]
    have h22 := X12_word22 (lg := lg) hB hk hj (cl (S0.1 14 (b_id S0 k j))) 0 T (out ++ wsl (namef S0 lg k) j) (Nat.zero_add _) (by rw [show wsl (mwordf S0 lg (decide (0 < j)) (b_id S0 k j)) 0 = [] from rfl, List.append_nil]; exact h) (by rw [List.length_append]; omega)
    rw [nI_0] at h22
    obtain ⟨T2, f3, f4⟩ := h22
    rw [f3]
    refine ih (j + 1) T2 out (by omega) ?_ hlen
    have : out ++ wsl (namef S0 lg k) (j + 1) = out ++ wsl (namef S0 lg k) j ++ wsl (mwordf S0 lg (decide (0 < j)) (b_id S0 k j)) (cl (S0.1 14 (b_id S0 k j))) := by
      rw [mword_eq _ _ _ _ _ l1]
      show out ++ (wsl (namef S0 lg k) j ++ ((if 0 < j then [32] else []) ++ wordl S0 lg (b_id S0 k j))) = _
      simp only [List.append_assoc, decide_eq_true_eq]
    rw [this]
    exact f4
theorem X12_writeName {S0 T : a_M} {N W k : Nat} {lg : Bool} {out : List Int32} (hB : i_B N W S0) (hk : k < N) (h : wm S0 out T) (hl : out.length + 132 ≤ 397) : ∃ T', x_X12_writeName [.ref 56, .int (nI k), .int (b2i (lg = true))] T = some (none, T') ∧ wm S0 (out ++ namel S0 lg k) T' := by
  rw [e_X12_writeName]
  have := X12_name2 (lg := lg) hB hk (b_sz S0 k) 0 T out (by omega) (by rw [show wsl (namef S0 lg k) 0 = [] from rfl, List.append_nil]; exact h) hl
  rw [nI_0] at this
  exact this
