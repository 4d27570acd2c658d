/-! ===== canonical: parts, the line ===== -/
/-- a change of the line on both sides, and of scratch -/
theorem i_I_line3 {n m N W H Z T U R G D k : Nat} {S S2 : a_M} (h : i_P n m N W H Z T U R G D S) (h1 : k ≤ 120) (h2 : S2.1 1 1 = nI k) (h3 : S2.1 56 1 = nI k) (h4 : S2.1 2 = S2.1 57) (h0 : S2.1 0 10 = 0)
    (a : ∀ c, 3 ≤ c → c < 7 → S2.1 c = S.1 c) (b : ∀ c, 12 ≤ c → c < 40 → c ≠ 19 → S2.1 c = S.1 c) (c : S2.1 45 11 = S.1 45 11) (d : S2.2 45 10 = S.2 45 10) (f : ∀ k, 57 < k → k < 95 → k ≠ 61 → k ≠ 62 → k ≠ 63 → S2.1 k = S.1 k)
    (g : ∀ j, j ≠ 1 → j ≠ 6 → j ≠ 51 → j ≠ 52 → j ≠ 53 → j ≠ 55 → j ≠ 63 → S2.1 56 j = S.1 56 j) : i_I S2 := by
  refine ⟨⟨k, m, N, W, H, Z, T, U, R, G, D, ?_⟩, i_text_0 h0⟩
  unfold i_P i_L i_F i_B i_H i_Z i_T i_U i_R i_G i_A i_D at h ⊢
  simp (disch := decide) only [a, b, c, d, f, g]
  exact ⟨⟨h1, h2, h3, h4⟩, h.2⟩
theorem wc_D {N Z T D : Nat} {S0 U : a_M} {out : List Int32} (h : wc S0 out U) (hD : i_D N Z T D S0) : i_D N Z T D U := by
  unfold i_D at hD ⊢
  simp (disch := decide) only [h.1]
  exact hD
abbrev usl (S : a_M) (d n : Nat) : List Int32 := wsl (fun i => sg_u (S.1 91 (4 * d + i))) n
theorem X9_unitSigns {S0 : a_M} {N Z T D d u : Nat} (hD : i_D N Z T D S0) (hd : d < D) (hu : S0.1 90 d = nI u) (hu4 : u ≤ 4) : ∀ e i U out, i + e = u → wc S0 (out ++ usl S0 d i) U → out.length ≤ 700 →
    ∃ U', g_X9_writeUnitSigns 13 [.ref 54, .int (nI d), .int (nI u), .int (nI i)] [] U = some (none, U') ∧ wc S0 (out ++ usl S0 d u) U' := by
  intro e
  induction e with
  | zero =>
    intro i U out h1 h hl
    obtain rfl : i = u := by omega
    rw [b_X9_writeUnitSigns_13, if_neg (nI_nlt (Nat.le_refl _) (by omega))]
    exact ⟨U, rfl, h⟩
  | succ e ih =>
    intro i U out h1 h hl
    have hlen : (usl S0 d i).length ≤ 2 * i := wsl2_len (fun i => (sg_u_len _).1) i
    rw [b_X9_writeUnitSigns_13, if_pos (nI_lt (by omega) (by omega)), X1_unitSignAt (wc_D h hD) hd (by omega), h.1 90 (by decide) (by decide), h.1 91 (by decide) (by decide), hu, if_pos (nI_lt (by omega) (by omega))]
    simp only [Option.bind_some, Option.toList_some, List.cons_append, List.nil_append, b_X9_writeUnitSigns_28]
    obtain ⟨U1, f1, f2⟩ := X9_writeSign (S0.1 91 (4 * d + i)) h (by rw [List.length_append]; omega)
    rw [f1]
    simp only [Option.bind_some, Option.toList_none, List.append_nil, b_X9_writeUnitSigns_31]
    rw [nI_1]
    rw [List.append_assoc] at f2
    exact ih (i + 1) U1 out (by omega) f2 hl
theorem X12_unitSigns {S0 : a_M} {d u : Nat} (hd : d < 40) (hu : S0.1 90 d = nI u) (hu4 : u ≤ 4) : ∀ e i U out, i + e = u → wm S0 (out ++ usl S0 d i) U → out.length + 8 ≤ 398 →
    ∃ U', g_X12_writePart 137 [.ref 56, .int (nI d), .null, .int (nI i)] [] U = some (none, U') ∧ wm S0 (out ++ usl S0 d u) U' := by
  intro e
  induction e with
  | zero =>
    intro i U out h1 h hl
    obtain rfl : i = u := by omega
    rw [b_X12_writePart_137, if_neg (nI_out (by omega) (by decide)), nI_clamp (by omega), h.1 90 (by decide) (by decide), hu, if_neg (nI_nlt (Nat.le_refl _) (by omega))]
    exact ⟨U, rfl, h⟩
  | succ e ih =>
    intro i U out h1 h hl
    have hlen : (usl S0 d i).length ≤ 2 * i := wsl2_len (fun i => (sg_u_len _).1) i
    rw [b_X12_writePart_137, if_neg (nI_out (by omega) (by decide)), nI_clamp (by omega), h.1 90 (by decide) (by decide), hu, if_pos (nI_lt (by omega) (by omega)), show (4 : Int32) * nI d + nI i = nI (4 * d + i) by rw [show (4 : Int32) = nI 4 from rfl, pk_mul, nI_add], if_neg (nI_out (by omega) (by decide)), nI_clamp (by omega), h.1 91 (by decide) (by decide)]
    obtain ⟨U1, f1, f2⟩ := X12_write (S0.1 91 (4 * d + i)) h (by rw [List.length_append]; omega)
    rw [f1]
    simp only [Option.bind_some, Option.toList_none, List.append_nil, b_X12_writePart_161]
    rw [nI_1]
    rw [List.append_assoc] at f2
    exact ih (i + 1) U1 out (by omega) f2 hl
/-- what is written of part p of a delivery -/
def partl (S : a_M) (d p : Nat) : List Int32 :=
  if p = 0 then figl (cl (S.1 86 d)) 1 5 ++ (if 0 < S.1 87 d then [S.1 87 d] else [])
  else if p = 1 then namel S true (cl (S.1 21 (cl (S.1 88 d) * 4)))
  else if p = 2 then namel S false (cl (S.1 89 d)) ++ [32] ++ usl S d (cl (S.1 90 d))
  else if p = 3 then namel S true (cl (S.1 23 (cl (S.1 92 d))))
  else figl (cl (S.1 93 d)) 5 5
theorem parts_ok {N W Z T D d p : Nat} {S : a_M} (hB : i_B N W S) (hZ : i_Z N Z S) (hT : i_T N T S) (hD : i_D N Z T D S) (hd : d < D) (hp : p < 5) (hh : S.1 85 (5 * d + p) = 1) :
    (partl S d p).length ≤ (if p = 0 then 6 else if p = 2 then 42 else if p = 4 then 5 else 132) ∧
    (∀ out V, wc S out V → out.length ≤ 400 → ∃ V', x_X9_writePart [.ref 54, .int (nI d), .int (nI p)] V = some (none, V') ∧ wc S (out ++ partl S d p) V') ∧
    ∀ out V, wm S out V → out.length + (if p = 0 then 6 else if p = 2 then 42 else if p = 4 then 5 else 132) ≤ 397 → ∃ V', x_X12_writePart [.ref 56, .int (nI d), .int (nI p)] V = some (none, V') ∧ wm S (out ++ partl S d p) V' := by
  have hD' := hD
  obtain ⟨d1, d2, d3, d4⟩ := hD
  obtain ⟨r1, r2, r3, r4, r5, r6, r7, r8, r9, r10, t1, t2, t3, t4, t5⟩ := d4 d hd
  have hN := hB.1
  have cd : (nI d).toNatClampNeg = d := nI_clamp (by omega)
  have nd : ¬ (nI d < 0 ∨ 40 ≤ d) := nI_out2 (by omega) (by omega)
  have get : ∀ V out, wc S out V → ∀ f, f < 17 → x_X1_get [.ref 38, .int (nI d), .int (nI f)] V = some (some (.int (S.1 39 (d * 17 + f))), V) := by
    intro V out h f hf
    rw [X1_get (by omega) hf, h.1 39 (by decide) (by decide)]
  have one : ¬ (1 : Int32) = 0 := by decide
  have hcase : p = 0 ∨ p = 1 ∨ p = 2 ∨ p = 3 ∨ p = 4 := by omega
  rcases hcase with rfl | rfl | rfl | rfl | rfl
  · -- number
    obtain ⟨-, ⟨v, v1, v2⟩, w, w1, w2⟩ := t1.resolve_right (fun q => one (hh.symm.trans q.1))
    have ev : cl (S.1 86 d) = v := by rw [v2]; exact cl_nI (by omega)
    have hpl : partl S d 0 = figl v 1 5 ++ (if 0 < S.1 87 d then [S.1 87 d] else []) := by unfold partl; rw [if_pos rfl, ev]
    have hfl := figl_len v 1 5
    rw [hpl, if_pos rfl]
    have wlt : S.1 87 d < 65536 := by rw [w2]; exact nI_lt (b := 65536) (by omega) (by decide)
    refine ⟨by rw [List.length_append]; split <;> simp <;> omega, fun out V h hl => ?_, fun out V h hl => ?_⟩
    · rw [nI_0, e_X9_writePart, if_pos rfl, show (5 : Int32) = nI 5 from rfl, get V out h 5 (by omega), r2, v2]
      simp only [Option.bind_some, Option.toList_some, List.cons_append, List.nil_append, b_X9_writePart_42]
      obtain ⟨V1, f1, f2⟩ := X9_figl (v := v) (wanted := 1) (by omega) (by decide) 5 V out (by omega) h (by omega)
      have f1' : x_X9_writeFigures [.ref 54, .int (nI v), .int 1] V = some (none, V1) := by rw [e_X9_writeFigures]; exact f1
      rw [f1']
      simp only [Option.bind_some, Option.toList_none, List.append_nil, b_X9_writePart_46]
      rw [show (6 : Int32) = nI 6 from rfl, get V1 _ f2 6 (by omega), r3]
      simp only [Option.bind_some, Option.toList_some, List.cons_append, List.nil_append, b_X9_writePart_57]
      rw [e_X9_writeLetter]
      by_cases h0 : 0 < S.1 87 d
      · rw [if_pos h0, if_pos h0]
        obtain ⟨V2, g1, g2⟩ := X9_writeUnit (S.1 87 d) f2 (by rw [List.length_append]; omega)
        rw [g1]
        simp only [Option.bind_some, Option.toList_none, List.append_nil, b_X9_writeLetter_9, b_X9_writePart_60]
        rw [List.append_assoc] at g2
        exact ⟨V2, rfl, g2⟩
      · rw [if_neg h0, if_neg h0]
        simp only [Option.bind_some, Option.toList_none, List.append_nil, b_X9_writePart_60]
        exact ⟨V1, rfl, f2⟩
    · rw [nI_0, e_X12_writePart, if_pos rfl, cd, if_neg nd, h.1 86 (by decide) (by decide), v2]
      have h62 : ∃ V', g_X12_writePart 62 [.ref 56, .int (nI d), .null, .null] [.int (nI (pw (nfig v))), .int (nI v), .ref 56] V = some (none, V') ∧ wm S (out ++ (figl v 1 5 ++ (if 0 < S.1 87 d then [S.1 87 d] else []))) V' := by
        have hnf := nfig_le v
        rw [b_X12_writePart_62, e_X12_writeFigures]
        obtain ⟨V1, f1, f2⟩ := X12_figl (v := v) (by omega) (nfig v) V out hnf h (by omega)
        rw [f1]
        simp only [Option.bind_some, Option.toList_none, List.append_nil, b_X12_writePart_65]
        rw [← figl_1 v1] at f2
        rw [cd, if_neg nd, f2.1 87 (by decide) (by decide), if_neg nd]
        by_cases h0 : 0 < S.1 87 d
        · rw [if_pos h0, if_pos h0]
          obtain ⟨V2, g1, g2⟩ := X12_write (S.1 87 d) f2 (by rw [List.length_append]; omega)
          rw [g1]
          simp only [Option.bind_some, Option.toList_none, List.append_nil, b_X12_writePart_84]
          rw [sg_u_1 wlt, List.append_assoc] at g2
          exact ⟨V2, rfl, g2⟩
        · rw [if_neg h0, if_neg h0, List.append_nil]
          exact ⟨V1, rfl, f2⟩
      have cmp : ∀ q : Nat, q < 2 ^ 31 → (nI q < nI v ↔ q < v) := fun q hq => nI_ltI hq (by omega)
      rw [show (9999 : Int32) = nI 9999 from rfl, show (999 : Int32) = nI 999 from rfl, show (99 : Int32) = nI 99 from rfl, show (9 : Int32) = nI 9 from rfl]
      unfold nfig at h62
      by_cases h4 : 9999 < v
      · rw [if_pos ((cmp _ (by decide)).mpr h4)]; rw [if_pos h4] at h62; exact h62
      rw [if_neg (fun q => h4 ((cmp _ (by decide)).mp q))]; rw [if_neg h4] at h62
      by_cases h3 : 999 < v
      · rw [if_pos ((cmp _ (by decide)).mpr h3)]; rw [if_pos h3] at h62; exact h62
      rw [if_neg (fun q => h3 ((cmp _ (by decide)).mp q))]; rw [if_neg h3] at h62
      by_cases h2 : 99 < v
      · rw [if_pos ((cmp _ (by decide)).mpr h2)]; rw [if_pos h2] at h62; exact h62
      rw [if_neg (fun q => h2 ((cmp _ (by decide)).mp q))]; rw [if_neg h2] at h62
      by_cases h1 : 9 < v
      · rw [if_pos ((cmp _ (by decide)).mpr h1)]; rw [if_pos h1] at h62; exact h62
      rw [if_neg (fun q => h1 ((cmp _ (by decide)).mp q))]; rw [if_neg h1] at h62
      exact h62
  · -- street
    obtain ⟨-, s, s1, s2⟩ := t2.resolve_right (fun q => one (hh.symm.trans q.1))
    obtain ⟨z1, z2, z3, z4, z5, z6, z7, z8⟩ := hZ
    have es : cl (S.1 88 d) = s := by rw [s2]; exact cl_nI (by omega)
    obtain ⟨y1, y2⟩ := z7 s 0 s1 (by have := (z6 s s1).1; omega)
    rw [Nat.add_zero] at y1 y2
    obtain ⟨kk, hkk⟩ : ∃ kk, kk = cl (S.1 21 (s * 4)) := ⟨_, rfl⟩
    rw [← hkk] at y1 y2
    have hpl : partl S d 1 = namel S true kk := by unfold partl; rw [if_neg (by decide), if_pos rfl, es, ← hkk]
    have hlen : (namel S true kk).length ≤ 33 * b_sz S kk := namep_len (lg := true) hB y1 (b_sz S kk) (Nat.le_refl _)
    have h4 := (hB.2.2.2.2.2.2.1 _ y1).2.1
    rw [hpl]
    refine ⟨?_, fun out V h hl => ?_, fun out V h hl => ?_⟩
    · show _ ≤ 132
      have : b_sz S kk ≤ 4 := h4
      omega
    · rw [e_X9_writePart, if_neg (by decide), if_pos (by decide), show (7 : Int32) = nI 7 from rfl, get V out h 7 (by omega), r4, s2]
      simp only [Option.bind_some, Option.toList_some, List.cons_append, List.nil_append, b_X9_writePart_79]
      have hn := X6_nameOf1 (s := s) (i := 0) (S := V) (by omega)
      rw [nI_0, Nat.add_zero, h.1 21 (by decide) (by decide), y2] at hn
      rw [hn]
      simp only [Option.bind_some, Option.toList_some, List.cons_append, List.nil_append, b_X9_writePart_83]
      obtain ⟨V1, f1, f2⟩ := X9_writeName (lg := true) hB y1 h (by omega)
      rw [show (1 : Int32) = b2i (true = true) from rfl, f1]
      simp only [Option.bind_some, Option.toList_none, List.append_nil, b_X9_writePart_87]
      exact ⟨V1, rfl, f2⟩
    · rw [e_X12_writePart, if_neg (by decide), if_pos (by decide), cd, if_neg nd, h.1 88 (by decide) (by decide), h.1 70 (by decide) (by decide), s2, show (4 : Int32) * nI s = nI (s * 4) by rw [show (4 : Int32) = nI 4 from rfl, pk_mul, Nat.mul_comm], if_neg (nI_out (by omega) (by decide)), nI_clamp (by omega), ← z5, y2]
      obtain ⟨V1, f1, f2⟩ := X12_writeName (lg := true) hB y1 h (by have hl' : out.length + 132 ≤ 397 := hl; omega)
      rw [show (1 : Int32) = b2i (true = true) from rfl, f1]
      simp only [Option.bind_some, Option.toList_none, List.append_nil, b_X12_writePart_110]
      exact ⟨V1, rfl, f2⟩
  · -- unit
    obtain ⟨-, ⟨k, k1, k2, k3⟩, u, u1, u2, u3⟩ := t3.resolve_right (fun q => one (hh.symm.trans q.1))
    have ek : cl (S.1 89 d) = k := by rw [k3]; exact cl_nI (by omega)
    have eu : cl (S.1 90 d) = u := by rw [u3]; exact cl_nI (by omega)
    have hpl : partl S d 2 = namel S false k ++ [32] ++ usl S d u := by unfold partl; rw [if_neg (by decide), if_neg (by decide), if_pos rfl, ek, eu]
    have hlen := namep_len (lg := false) hB k1 (b_sz S k) (Nat.le_refl _)
    have hz1 : b_sz S k = 1 := k2
    rw [hz1] at hlen
    have hlen' : (namel S false k).length ≤ 33 := by show (wsl (namef S false k) (b_sz S k)).length ≤ 33; rw [hz1]; omega
    have hul := wsl2_len (f := fun i => sg_u (S.1 91 (4 * d + i))) (fun i => (sg_u_len _).1) u
    rw [hpl]
    refine ⟨?_, fun out V h hl => ?_, fun out V h hl => ?_⟩
    · show _ ≤ 42
      rw [List.length_append, List.length_append, List.length_singleton]
      have : (usl S d u).length ≤ 2 * u := hul
      omega
    · rw [e_X9_writePart, if_neg (by decide), if_neg (by decide), if_pos (by decide), show (8 : Int32) = nI 8 from rfl, get V out h 8 (by omega), r5, k3]
      simp only [Option.bind_some, Option.toList_some, List.cons_append, List.nil_append, b_X9_writePart_101]
      obtain ⟨V1, f1, f2⟩ := X9_writeName (lg := false) hB k1 h (by omega)
      rw [show (0 : Int32) = b2i (false = true) from rfl, f1]
      simp only [Option.bind_some, Option.toList_none, List.append_nil, b_X9_writePart_105]
      obtain ⟨V2, g1, g2⟩ := X9_writeUnit 32 f2 (by rw [List.length_append]; omega)
      rw [g1]
      simp only [Option.bind_some, Option.toList_none, List.append_nil, b_X9_writePart_111]
      rw [e_X9_writeUnitSigns, show (9 : Int32) = nI 9 from rfl, get V2 _ g2 9 (by omega), r6, u3]
      simp only [Option.bind_some, Option.toList_some, List.append_nil, b_X9_writeUnitSigns_10]
      obtain ⟨V3, j1, j2⟩ := X9_unitSigns hD' hd u3 u2 u 0 V2 _ (Nat.zero_add _) (by rw [show usl S d 0 = [] from rfl, List.append_nil]; exact g2) (by rw [List.length_append, List.length_append, List.length_singleton]; omega)
      rw [nI_0] at j1
      rw [j1]
      simp only [Option.bind_some, Option.toList_none, List.append_nil, b_X9_writePart_116]
      refine ⟨V3, rfl, ?_⟩
      rw [show out ++ (namel S false k ++ [32] ++ usl S d u) = out ++ namel S false k ++ [32] ++ usl S d u by simp only [List.append_assoc]]
      exact j2
    · have hl' : out.length + 42 ≤ 397 := hl
      rw [e_X12_writePart, if_neg (by decide), if_neg (by decide), if_pos (by decide), cd, if_neg nd, h.1 89 (by decide) (by decide), k3]
      obtain ⟨V1, f1, f2⟩ : ∃ V', x_X12_writeName [.ref 56, .int (nI k), .int (b2i (false = true))] V = some (none, V') ∧ wm S (out ++ namel S false k) V' := by
        rw [e_X12_writeName]
        have hb := hB.2.2.2.2.2.1
        have h22 := X12_word22 (S0 := S) (N := N) (W := W) (k := k) (j := 0) (lg := false) hB k1 (by rw [hz1]; omega) (cl (S.1 14 (b_id S k 0))) 0 V out (Nat.zero_add _) (by rw [show wsl (mwordf S false (decide (0 < 0)) (b_id S k 0)) 0 = [] from rfl, List.append_nil]; exact h) (by omega)
        rw [nI_0, Nat.add_zero] at h22
        obtain ⟨V2, f3, f4⟩ := h22
        obtain ⟨-, -, c3⟩ := hB.2.2.2.2.2.2.1 k k1
        have e16 : S.1 16 k = nI 1 := by rw [c3, k2]
        have ck : (nI k).toNatClampNeg = k := nI_clamp (by omega)
        have nk : ¬ (nI k < 0 ∨ 60 ≤ k) := nI_out2 (by omega) (by omega)
        rw [b_X12_writeName_2, ck, if_neg nk, h.1 64 (by decide) (by decide), ← hb, e16, if_pos (by decide), show (4 : Int32) * nI k + 0 = nI (k * 4) by rw [show (4 : Int32) = nI 4 from rfl, pk_mul, show (0 : Int32) = nI 0 from rfl, nI_add, Nat.add_zero, Nat.mul_comm], f3, b_X12_writeName_2, ck, if_neg nk, f4.1 64 (by decide) (by decide), ← hb, e16, if_neg (nI_nlt (Nat.le_refl _) (by decide))]
        refine ⟨V2, rfl, ?_⟩
        obtain ⟨l1, -, -⟩ := hB.2.2.2.2.2.2.2.2.1 _ (hB.2.2.2.2.2.2.2.1 k 0 k1 (by rw [k2]; omega)).1
        have : out ++ namel S false k = out ++ wsl (mwordf S false (decide (0 < 0)) (b_id S k 0)) (cl (S.1 14 (b_id S k 0))) := by
          rw [mword_eq _ _ _ _ _ l1]
          show out ++ wsl (namef S false k) (b_sz S k) = _
          rw [hz1]
          show out ++ ([] ++ ((if 0 < 0 then [32] else []) ++ wordl S false (b_id S k 0))) = _
          simp
          rfl
        rw [this]
        exact f4
      rw [show (0 : Int32) = b2i (false = true) from rfl, f1]
      simp only [Option.bind_some, Option.toList_none, List.append_nil, b_X12_writePart_129]
      obtain ⟨V2, g1, g2⟩ := X12_write 32 f2 (by rw [List.length_append]; omega)
      rw [g1]
      simp only [Option.bind_some, Option.toList_none, List.append_nil, b_X12_writePart_135]
      rw [sg_u_1 (by decide)] at g2
      obtain ⟨V3, j1, j2⟩ := X12_unitSigns (S0 := S) (by omega) u3 u2 u 0 V2 _ (Nat.zero_add _) (by rw [show usl S d 0 = [] from rfl, List.append_nil]; exact g2) (by rw [List.length_append, List.length_append, List.length_singleton]; omega)
      rw [nI_0] at j1
      rw [j1]
      refine ⟨V3, rfl, ?_⟩
      rw [show out ++ (namel S false k ++ [32] ++ usl S d u) = out ++ namel S false k ++ [32] ++ usl S d u by simp only [List.append_assoc]]
      exact j2
  · -- town
    obtain ⟨-, s, s1, s2⟩ := t4.resolve_right (fun q => one (hh.symm.trans q.1))
    obtain ⟨z1, z2, z3, z4, z5, z6, z7⟩ := hT
    have es : cl (S.1 92 d) = s := by rw [s2]; exact cl_nI (by omega)
    obtain ⟨y1, y2⟩ := z7 s s1
    obtain ⟨kk, hkk⟩ : ∃ kk, kk = cl (S.1 23 s) := ⟨_, rfl⟩
    rw [← hkk] at y1 y2
    have hpl : partl S d 3 = namel S true kk := by unfold partl; rw [if_neg (by decide), if_neg (by decide), if_neg (by decide), if_pos rfl, es, ← hkk]
    have hlen : (namel S true kk).length ≤ 33 * b_sz S kk := namep_len (lg := true) hB y1 (b_sz S kk) (Nat.le_refl _)
    have h4 := (hB.2.2.2.2.2.2.1 _ y1).2.1
    rw [hpl]
    refine ⟨?_, fun out V h hl => ?_, fun out V h hl => ?_⟩
    · show _ ≤ 132
      have : b_sz S kk ≤ 4 := h4
      omega
    · rw [e_X9_writePart, if_neg (by decide), if_neg (by decide), if_neg (by decide), if_pos (by decide), show (10 : Int32) = nI 10 from rfl, get V out h 10 (by omega), r7, s2]
      simp only [Option.bind_some, Option.toList_some, List.cons_append, List.nil_append, b_X9_writePart_135]
      rw [e_X6_nameOf, if_neg (by decide), at_23, av_nI (by omega) (by decide), h.1 23 (by decide) (by decide), y2]
      simp only [Option.bind_some, Option.toList_some, List.cons_append, List.nil_append, List.append_nil, b_X6_nameOf_28, b_X9_writePart_139]
      obtain ⟨V1, f1, f2⟩ := X9_writeName (lg := true) hB y1 h (by omega)
      rw [show (1 : Int32) = b2i (true = true) from rfl, f1]
      simp only [Option.bind_some, Option.toList_none, List.append_nil, b_X9_writePart_143]
      exact ⟨V1, rfl, f2⟩
    · rw [e_X12_writePart, if_neg (by decide), if_neg (by decide), if_neg (by decide), if_pos (by decide), cd, if_neg nd, h.1 92 (by decide) (by decide), h.1 71 (by decide) (by decide), s2, if_neg (nI_out (by omega) (by decide)), nI_clamp (by omega), ← z4, y2]
      obtain ⟨V1, f1, f2⟩ := X12_writeName (lg := true) hB y1 h (by have hl' : out.length + 132 ≤ 397 := hl; omega)
      rw [show (1 : Int32) = b2i (true = true) from rfl, f1]
      simp only [Option.bind_some, Option.toList_none, List.append_nil, b_X12_writePart_191]
      exact ⟨V1, rfl, f2⟩
  · -- code
    obtain ⟨-, v, v1, v2⟩ := t5.resolve_right (fun q => one (hh.symm.trans q.1))
    have ev : cl (S.1 93 d) = v := by rw [v2]; exact cl_nI (by omega)
    have hpl : partl S d 4 = figl v 5 5 := by unfold partl; rw [if_neg (by decide), if_neg (by decide), if_neg (by decide), if_neg (by decide), ev]
    have hfl := figl_len v 5 5
    rw [hpl]
    refine ⟨hfl, fun out V h hl => ?_, fun out V h hl => ?_⟩
    · rw [e_X9_writePart, if_neg (by decide), if_neg (by decide), if_neg (by decide), if_neg (by decide), show (11 : Int32) = nI 11 from rfl, get V out h 11 (by omega), r8, v2]
      simp only [Option.bind_some, Option.toList_some, List.cons_append, List.nil_append, b_X9_writePart_157]
      obtain ⟨V1, f1, f2⟩ := X9_figl (v := v) (wanted := 5) (by omega) (by decide) 5 V out (by omega) h (by omega)
      have f1' : x_X9_writeFigures [.ref 54, .int (nI v), .int 5] V = some (none, V1) := by rw [e_X9_writeFigures]; exact f1
      rw [f1']
      simp only [Option.bind_some, Option.toList_none, List.append_nil, b_X9_writePart_161]
      exact ⟨V1, rfl, f2⟩
    · rw [e_X12_writePart, if_neg (by decide), if_neg (by decide), if_neg (by decide), if_neg (by decide), cd, if_neg nd, h.1 93 (by decide) (by decide), v2, e_X12_writeFigures]
      have hl' : out.length + 5 ≤ 397 := hl
      obtain ⟨V1, f1, f2⟩ := X12_figl (v := v) (by omega) 5 V out (by omega) h (by omega)
      have f1' : g_X12_writeFigures 2 [.ref 56, .int (nI v), .null, .int 10000] [] V = some (none, V1) := f1
      rw [f1']
      simp only [Option.bind_some, Option.toList_none, List.append_nil, b_X12_writePart_207]
      rw [← figl_5] at f2
      exact ⟨V1, rfl, f2⟩
theorem partl_c {S S1 : a_M} (e : ∀ c, 12 ≤ c → c ≠ 54 → c ≠ 55 → S1.1 c = S.1 c) (d p : Nat) : partl S1 d p = partl S d p := by
  unfold partl namel namef wordl wordf b_id b_sz usl
  simp (disch := decide) only [e]
