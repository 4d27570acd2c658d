/-! ===== read ===== -/
/-- records: what a delivery's call leaves, d read once more (or new) -/
theorem op_read (a : Int32) : i_Op (fun S => x_X11_read [.ref 0, .int a] S) (fun S => x_X12_read [.ref 56, .int a] S) := by
  rintro S0 ⟨⟨n, m, N, W, H, Z, T, U, R, G, D, hP0⟩, hX0⟩
  have hG0 := hP0.2.2.2.2.2.2.2.2.1
  have hG8 := hG0.1
  dsimp only
  by_cases ha : ¬ ixp a G
  · refine ⟨-2, S0, S0, ?_, ?_, ⟨⟨n, m, N, W, H, Z, T, U, R, G, D, hP0⟩, hX0⟩⟩
    · rw [e_X11_read, hG0.2.1]
      by_cases h : a < 0
      · rw [if_pos h]
      · rw [if_neg h, if_neg (fun q => ha ⟨h, q⟩)]
    · rw [e_X12_read, hG0.2.2.1, X12_in, b2i_c (in_ixp (by omega))]
      simp only [Option.bind_some, Option.toList_some, List.append_nil, b_X12_read_11, b2i_z]
      rw [if_pos ha]
  · have ha : ixp a G := Decidable.not_not.mp ha
    obtain ⟨g, hg, rfl⟩ := ixp_of (by omega) ha
    obtain ⟨S1, h1, h2, h3, -⟩ := fresh hP0 hX0
    have ok : q_ok (q_pS S1).1 := h3.1
    have hc : q_c (q_pS S1).1 S1 := h3.2.1
    have hn := ok.1.1
    rw [e_X11_read, hG0.2.1, if_neg ha.1, if_pos ha.2, h1]
    simp only [Option.bind_some, Option.toList_some, List.append_nil, b_X11_read_22]
    rw [X10_state h3]
    simp only [Option.bind_some, Option.toList_some, List.append_nil, b_X11_read_25]
    by_cases hq : q_ans (q_pS S1) < 0
    · rw [if_pos hq]
      obtain ⟨S2, g1, g2, g3, -⟩ := taken h2
      refine ⟨_, S1, S2, rfl, ?_, ⟨n, m, N, W, H, Z, T, U, R, G, D, g2⟩, m_same_text g3 (fun _ => h3)⟩
      have hG1 := h2.2.2.2.2.2.2.2.2.1
      rw [e_X12_read, hG1.2.2.1, X12_in, b2i_c (in_ixp (by omega))]
      simp only [Option.bind_some, Option.toList_some, List.append_nil, b_X12_read_11, b2i_z]
      rw [if_neg (fun q => q ha), g1]
      simp only [Option.bind_some, Option.toList_some, List.append_nil, b_X12_read_21]
      rw [if_pos hq]
    · rw [if_neg hq]
      obtain ⟨hx2, hlo, hans, hpos⟩ := q_ans_pos hq
      have hpl : ∀ k, k < (q_pS S1).1.1 → 0 < q_len (q_pS S1).1 k := ok.2 hlo
      obtain ⟨P, hPe⟩ : ∃ P, P = (q_pS S1).1 := ⟨_, rfl⟩
      obtain ⟨hL, hF, hB, hH, hZ, hT, hU, hR, hG, hA, hD⟩ := h2
      have h2 : i_P n m N W H Z T U R G D S1 := ⟨hL, hF, hB, hH, hZ, hT, hU, hR, hG, hA, hD⟩
      obtain ⟨T2, f1, f2, f3, f4, f5, f6⟩ := X7_findBest (g := g) ok hc hB hH hZ hT hU hG hg
      have run := fun Tc e1 e2 => X12_run (g := g) (Tc := Tc) h2 ok hg hq e1 e2
      have hTB := TB_ok (W := W) (H := H) (Z := Z) (TT := T) (U := U) hn hG hg rfl
      rw [← hPe] at ok hc hn f1 f3 f4 f5 f6 run hTB hpl hans hpos
      obtain ⟨sz, hsz⟩ : ∃ sz, sz = cl (S1.1 35 g) := ⟨_, rfl⟩
      rw [← hsz] at f1 f3 run hTB
      rw [f1]
      simp only [Option.bind_some, Option.toList_some, List.append_nil, b_X11_read_40]
      by_cases hf : ¬ (TB P S1 W H Z T U g sz 0 0).1 < 1000000
      · rw [if_neg hf, if_pos rfl]
        obtain ⟨S3, T6, k1, k2, k3, -, -, -, k4, -, -⟩ := run T2 (fun c a => f2.1 c (by omega)) (fun c a => f2.1 c (by omega))
        rw [if_neg hf] at k3
        refine ⟨-1, T2, T6, rfl, k3, ⟨n, m, N, W, H, Z, T, U, R, G, D, i_P_S (i_S_tr (cfb_S f2) (i_S_tr (m_same_S k1) (cf_S k2))) h2⟩, i_text_w (fun _ => h3) (fun c a => k4 c (by omega))⟩
      · have hf : (TB P S1 W H Z T U g sz 0 0).1 < 1000000 := Decidable.not_not.mp hf
        rw [if_pos hf, if_neg (by decide)]
        obtain ⟨T3, d1, d2, d3⟩ := X7_describe ok hc hG hg hsz f2 f3 f4 f5 f6 hf
        rw [d1]
        simp only [Option.bind_some, Option.toList_none, List.append_nil, b_X11_read_53]
        sorry
