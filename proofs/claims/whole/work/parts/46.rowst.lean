/-! ===== rows of the class: towns ===== -/
/-- but for rows and the walk -/
def c50 (B T : a_M) : Prop := (∀ c, c ≠ 44 → c ≠ 50 → c ≠ 51 → T.1 c = B.1 c) ∧ T.2 = B.2
theorem c50_B {N W : Nat} {B T : a_M} (e : c50 B T) (hB : i_B N W B) : i_B N W T := by
  unfold i_B at hB ⊢
  simp (disch := decide) only [e.1]
  exact hB
theorem c50_H {N H : Nat} {B T : a_M} (e : c50 B T) (hH : i_H N H B) : i_H N H T := by
  unfold i_H at hH ⊢
  simp (disch := decide) only [e.1]
  exact hH
theorem X8_lower49 {P : q_P} {B : a_M} {N W H k i s a : Nat} (hn : P.1 ≤ 14) (hB : i_B N W B) (ha : a < N) (he : wname B true k i = a) (hs : s < P.1) (hk : k < 2 ^ 31) (v : Nat → Nat → Nat) (hv : ∀ L, L ≤ 4 → s + L ≤ P.1 → v L (b_sz B a) = nc P B H a L s 0) :
    ∀ d L T, L + d = 5 → 1 ≤ L → c50 B T → wK T v T → rows P.1 (T.1 50) (T.1 51) (emx P B H true k i s L) →
    ∃ T', g_X8_lower 3 [.ref 49, .int (nI a), .int (nI k), .int (nI s), .ref 41, .int (nI L), .null] [] T = some (none, T') ∧ c50 B T' ∧ rows P.1 (T'.1 50) (T'.1 51) (emx P B H true k i s 5) := by
  have hz4 : b_sz B a ≤ 4 := (hB.2.2.2.2.2.2.1 a ha).2.1
  intro d
  induction d with
  | zero =>
    intro L T h1 h2 h3 h4 h5
    obtain rfl : L = 5 := by omega
    rw [b_X8_lower_49_3, if_pos (show (4 : Int32) < nI 5 by decide)]
    exact ⟨T, rfl, h3, h5⟩
  | succ d ih =>
    intro L T h1 h2 h3 h4 h5
    have hBT := c50_B h3 hB
    have ebT : b_sz T a = b_sz B a := by unfold b_sz; rw [h3.1 16 (by decide) (by decide) (by decide)]
    have hcost := X2_costOf (L := L) hBT ha h4 (by omega)
    rw [ebT] at hcost
    obtain ⟨y1, y2⟩ := h4.2.2 L (b_sz B a) (by omega) hz4
    obtain ⟨c, hc⟩ : ∃ c, c = v L (b_sz B a) := ⟨_, rfl⟩
    rw [← hc] at hcost y1
    rw [b_X8_lower_49_3, if_neg (show ¬ (4 : Int32) < nI L from nI_nlt (a := 4) (by omega) (by decide)), hcost]
    simp only [Option.bind_some, Option.toList_some, List.append_nil, b_X8_lower_49_17]
    rw [e_X8_costOf_49, if_neg (show ¬ nI L < 1 from nI_nlt (b := 1) (by omega) (by omega)), if_neg (show ¬ (4 : Int32) < nI L from nI_nlt (a := 4) (by omega) (by decide)), e_X8_cell]
    have ecell : ((nI s * 4) + nI L) - 1 = nI (s * 4 + L - 1) := by
      rw [show (4 : Int32) = nI 4 from rfl, pk_mul, nI_add, show (1 : Int32) = nI 1 from rfl, pk_sub (by omega)]
    simp only [Option.bind_some, Option.toList_some, List.cons_append, List.nil_append, b_X8_costOf_49_19, ecell, at_50]
    rw [av_nI (by omega) (by decide)]
    simp only [Option.bind_some, Option.toList_some, List.cons_append, List.nil_append, List.append_nil, b_X8_costOf_49_22, b_X8_lower_49_28]
    by_cases hlt : nI c < T.1 50 (s * 4 + L - 1)
    · rw [if_pos hlt, e_X8_cell]
      simp only [Option.bind_some, Option.toList_some, List.cons_append, List.nil_append, ecell, b_X8_lower_49_44, put_50]
      rw [pv_nI (by omega) (by decide)]
      simp only [Option.bind_some, Option.toList_none, List.nil_append, List.append_nil, b_X8_lower_49_49]
      rw [e_X8_cell]
      simp only [Option.bind_some, Option.toList_some, List.cons_append, List.nil_append, ecell, b_X8_lower_49_59, put_51]
      rw [pv_nI (by omega) (by decide)]
      simp only [Option.bind_some, Option.toList_none, List.nil_append, List.append_nil, b_X8_lower_49_63]
      rw [nI_1]
      refine ih (L + 1) _ (by omega) (by omega) ⟨fun c h6 h7 h8 => ?_, ?_⟩ ⟨fun _ _ => rfl, rfl, fun i d h6 h7 => ?_⟩ fun s' L' g1 g2 g3 => ?_
      · rw [wi_n h8, wi_n h7]; exact h3.1 c h6 h7 h8
      · rw [wi_2, wi_2]; exact h3.2
      · rw [wi_n (by decide), wi_n (by decide)]; exact h4.2.2 i d h6 h7
      · rw [wi_n (show 50 ≠ 51 by decide), wi_e, wi_e, wi_n (show 51 ≠ 50 by decide)]
        obtain ⟨f1, f2⟩ := h5 s' L' g1 g2 g3
        by_cases hq : s' = s ∧ L' = L
        · obtain ⟨rfl, rfl⟩ := hq
          rw [up_e, up_e]
          have e1 : emx P B H true k i s' (L' + 1) s' L' = ent P B H true s' L' k (i + 1) := if_pos (Or.inr ⟨rfl, by omega⟩)
          have e2 : emx P B H true k i s' L' s' L' = ent P B H true s' L' k i := if_neg (by omega)
          rw [e2] at f1
          have hle := ent_le P B H true s' L' k i
          rw [f1] at hlt
          rw [e1, ent_s, he, ← hv L' (by omega) g3, ← hc, if_pos ((nI_ltI (by omega) (by omega)).mp hlt)]
          exact ⟨rfl, rfl⟩
        · rw [up_n (by omega), up_n (by omega)]
          have e1 : emx P B H true k i s (L + 1) s' L' = emx P B H true k i s L s' L' := by
            unfold emx
            by_cases hw : s' < s ∨ (s' = s ∧ L' < L)
            · rw [if_pos hw, if_pos (by omega)]
            · rw [if_neg hw, if_neg (by omega)]
          rw [e1]
          exact ⟨f1, f2⟩
    · rw [if_neg hlt, nI_1]
      refine ih (L + 1) _ (by omega) (by omega) h3 h4 fun s' L' g1 g2 g3 => ?_
      obtain ⟨f1, f2⟩ := h5 s' L' g1 g2 g3
      by_cases hq : s' = s ∧ L' = L
      · obtain ⟨rfl, rfl⟩ := hq
        have e1 : emx P B H true k i s' (L' + 1) s' L' = ent P B H true s' L' k (i + 1) := if_pos (Or.inr ⟨rfl, by omega⟩)
        have e2 : emx P B H true k i s' L' s' L' = ent P B H true s' L' k i := if_neg (by omega)
        rw [e2] at f1 f2
        have hle := ent_le P B H true s' L' k i
        rw [f1] at hlt
        rw [e1, ent_s, he, ← hv L' (by omega) g3, ← hc, if_neg (fun q => hlt ((nI_ltI (by omega) (by omega)).mpr q))]
        exact ⟨f1, f2⟩
      · have e1 : emx P B H true k i s (L + 1) s' L' = emx P B H true k i s L s' L' := by
          unfold emx
          by_cases hw : s' < s ∨ (s' = s ∧ L' < L)
          · rw [if_pos hw, if_pos (by omega)]
          · rw [if_neg hw, if_neg (by omega)]
        rw [e1]
        exact ⟨f1, f2⟩
theorem X8_starts49 {P : q_P} {B : a_M} {N W H k i a : Nat} (hn : P.1 ≤ 14) (hc : q_c P B) (hB : i_B N W B) (hH : i_H N H B) (hf : fit P B W B) (ha : a < N) (he : wname B true k i = a) (hk : k < 2 ^ 31) :
    ∀ d s T, s + d = P.1 → c50 B T → rows P.1 (T.1 50) (T.1 51) (emx P B H true k i s 0) →
    ∃ T', g_X8_fill 59 [.ref 49, .int 3, .ref 20, .ref 41, .int (nI P.1), .int (nI k), .int (nI i), .int (nI a), .int (nI s)] [] T = g_X8_fill 33 [.ref 49, .int 3, .ref 20, .ref 41, .int (nI P.1), .int (nI k), .int (nI (i + 1)), .null, .null] [] T' ∧ c50 B T' ∧ rows P.1 (T'.1 50) (T'.1 51) (fun s L => ent P B H true s L k (i + 1)) := by
  intro d
  induction d with
  | zero =>
    intro s T h1 h2 h3
    obtain rfl : s = P.1 := by omega
    rw [b_X8_fill_49_59, if_neg (nI_nlt (Nat.le_refl _) (by omega)), nI_1]
    refine ⟨T, rfl, h2, fun s L g1 g2 g3 => ?_⟩
    have := h3 s L g1 g2 g3
    rw [show emx P B H true k i P.1 0 s L = ent P B H true s L k (i + 1) from if_pos (by omega)] at this
    exact this
  | succ d ih =>
    intro s T h1 h2 h3
    rw [b_X8_fill_49_59, if_pos (nI_lt (by omega) (by omega))]
    have e1 : ∀ c, 13 ≤ c → c ≤ 18 → T.1 c = B.1 c := fun c _ _ => h2.1 c (by omega) (by omega) (by omega)
    have hfT : fit P T W T := by
      refine fit_c (S := B) ?_ e1
      unfold fit at hf ⊢
      rw [h2.1 42 (by decide) (by decide) (by decide), h2.1 43 (by decide) (by decide) (by decide)]
      exact hf
    have hcT : q_c P T := q_c_same hc (fun c g1 g2 => h2.1 c (by omega) (by omega) (by omega))
    obtain ⟨T1, v, f1, f2, f3⟩ := X2_walk (T := T) (s := s) hn hcT (c50_B h2 hB) (c50_H h2 hH) hfT ha (by omega) (fun _ _ => rfl) rfl
    rw [f1]
    simp only [Option.bind_some, Option.toList_none, List.append_nil, b_X8_fill_49_74]
    rw [e_X8_lower_49]
    have ebT : b_sz T a = b_sz B a := by unfold b_sz; rw [h2.1 16 (by decide) (by decide) (by decide)]
    obtain ⟨T2, r1, r2, r3⟩ := X8_lower49 (H := H) (N := N) (W := W) hn hB ha he (show s < P.1 by omega) hk v (fun L g1 g2 => by rw [← ebT, f3 L g1 g2, nc_c e1]) 4 1 T1 rfl (Nat.le_refl _)
      ⟨fun c g1 g2 g3 => (f2.1 c g1).trans (h2.1 c g1 g2 g3), f2.2.1.trans h2.2⟩ ⟨fun _ _ => rfl, rfl, f2.2.2⟩ (by
        rw [f2.1 50 (by decide), f2.1 51 (by decide)]
        intro s' L' g1 g2 g3
        have := h3 s' L' g1 g2 g3
        have e3 : emx P B H true k i s 1 s' L' = emx P B H true k i s 0 s' L' := by
          unfold emx
          by_cases hw : s' < s
          · rw [if_pos (Or.inl hw), if_pos (Or.inl hw)]
          · rw [if_neg (by omega), if_neg (by omega)]
        rw [e3]
        exact this)
    rw [show (1 : Int32) = nI 1 from rfl, r1]
    simp only [Option.bind_some, Option.toList_none, List.append_nil, b_X8_fill_49_85]
    rw [nI_1]
    refine ih (s + 1) T2 (by omega) r2 fun s' L' g1 g2 g3 => ?_
    have := r3 s' L' g1 g2 g3
    have e3 : emx P B H true k i s 5 s' L' = emx P B H true k i (s + 1) 0 s' L' := by
      unfold emx
      by_cases hw : s' < s + 1
      · rw [if_pos (by omega), if_pos (by omega)]
      · rw [if_neg (by omega), if_neg (by omega)]
    rw [← e3]
    exact this
theorem X8_names49 {P : q_P} {B : a_M} {N W H Z TT k : Nat} (hn : P.1 ≤ 14) (hc : q_c P B) (hB : i_B N W B) (hH : i_H N H B) (hZ : i_Z N Z B) (hTT : i_T N TT B) (hf : fit P B W B) (hk : k < (if true = true then TT else Z)) (hk2 : k < 2 ^ 31) (hnum : wnum B true k ≤ 4) :
    ∀ d i T, i + d = wnum B true k → c50 B T → rows P.1 (T.1 50) (T.1 51) (fun s L => ent P B H true s L k i) →
    ∃ T', g_X8_fill 33 [.ref 49, .int 3, .ref 20, .ref 41, .int (nI P.1), .int (nI k), .int (nI i), .null, .null] [] T = g_X8_fill 20 [.ref 49, .int 3, .ref 20, .ref 41, .int (nI P.1), .int (nI (k + 1)), .null, .null, .null] [] T' ∧ c50 B T' ∧ rows P.1 (T'.1 50) (T'.1 51) (fun s L => ent P B H true s L (k + 1) 0) := by
  intro d
  induction d with
  | zero =>
    intro i T h1 h2 h3
    obtain rfl : i = wnum B true k := by omega
    have q : x_X6_namesOf [.ref 20, .int 3, .int (nI k)] T = some (some (.int (nI (wnum B true k))), T) := X6_namesOf (T := T) (town := true) hZ hTT hk (h2.1 22 (by decide) (by decide) (by decide))
    rw [b_X8_fill_49_33, q]
    simp only [Option.bind_some, Option.toList_some, List.cons_append, List.nil_append, b_X8_fill_49_42]
    rw [if_neg (nI_nlt (Nat.le_refl _) (by omega)), nI_1]
    refine ⟨T, rfl, h2, fun s L g1 g2 g3 => ?_⟩
    have := h3 s L g1 g2 g3
    show _ = nI (ent P B H true s L (k + 1) 0).1 ∧ _ = (ent P B H true s L (k + 1) 0).2
    rw [← ent_e]
    exact this
  | succ d ih =>
    intro i T h1 h2 h3
    have hi : i < wnum B true k := by omega
    have q : x_X6_namesOf [.ref 20, .int 3, .int (nI k)] T = some (some (.int (nI (wnum B true k))), T) := X6_namesOf (T := T) (town := true) hZ hTT hk (h2.1 22 (by decide) (by decide) (by decide))
    obtain ⟨n1, n2⟩ := X6_nameOf (T := T) hZ hTT hk hi (h2.1 21 (by decide) (by decide) (by decide)) (h2.1 23 (by decide) (by decide) (by decide))
    rw [show wpart true = 3 from rfl] at n1
    rw [b_X8_fill_49_33, q]
    simp only [Option.bind_some, Option.toList_some, List.cons_append, List.nil_append, b_X8_fill_49_42]
    rw [if_pos (nI_lt hi (by omega)), n1]
    simp only [Option.bind_some, Option.toList_some, List.append_nil, b_X8_fill_49_54]
    obtain ⟨T1, r1, r2, r3⟩ := X8_starts49 (H := H) hn hc hB hH hf n2 rfl hk2 P.1 0 T (by omega) h2 (by
      intro s' L' g1 g2 g3
      have := h3 s' L' g1 g2 g3
      rw [show emx P B H true k i 0 0 s' L' = ent P B H true s' L' k i from if_neg (by omega)]
      exact this)
    rw [nI_0] at r1
    rw [r1]
    exact ih (i + 1) T1 (by omega) r2 r3
theorem X8_fill49 {P : q_P} {B : a_M} {N W H Z TT : Nat} (hn : P.1 ≤ 14) (hc : q_c P B) (hB : i_B N W B) (hH : i_H N H B) (hZ : i_Z N Z B) (hTT : i_T N TT B) (hf : fit P B W B) :
    ∃ T', x_X8_fill [.ref 49, .int 3, .ref 20, .ref 41, .int (nI P.1)] B = some (none, T') ∧ c50 B T' ∧ rows P.1 (T'.1 50) (T'.1 51) (fun s L => brw (fun k => fcost P B H true k L s) (if true = true then TT else Z)) := by
  obtain ⟨M, hM⟩ : ∃ M, M = (if true = true then TT else Z) := ⟨_, rfl⟩
  have hM100 : M < 2 ^ 20 := by rw [hM]; exact Nat.lt_of_le_of_lt hTT.1 (by decide)
  have key : ∀ d k T, k + d = M → c50 B T → rows P.1 (T.1 50) (T.1 51) (fun s L => ent P B H true s L k 0) →
      ∃ T', g_X8_fill 20 [.ref 49, .int 3, .ref 20, .ref 41, .int (nI P.1), .int (nI k), .null, .null, .null] [] T = some (none, T') ∧ c50 B T' ∧ rows P.1 (T'.1 50) (T'.1 51) (fun s L => ent P B H true s L M 0) := by
    intro d
    induction d with
    | zero =>
      intro k T h1 h2 h3
      obtain rfl : k = M := by omega
      have q : x_X6_sizeOf [.ref 20, .int 3] T = some (some (.int (nI k)), T) := by
        rw [e_X6_sizeOf]
        rw [if_neg (by decide), h2.1 20 (by decide) (by decide) (by decide), hTT.2.1, hM]; rfl
      rw [b_X8_fill_49_20, q]
      simp only [Option.bind_some, Option.toList_some, List.cons_append, List.nil_append, b_X8_fill_49_27]
      rw [if_neg (nI_nlt (Nat.le_refl _) (by omega))]
      exact ⟨T, rfl, h2, h3⟩
    | succ d ih =>
      intro k T h1 h2 h3
      have q : x_X6_sizeOf [.ref 20, .int 3] T = some (some (.int (nI M)), T) := by
        rw [e_X6_sizeOf]
        rw [if_neg (by decide), h2.1 20 (by decide) (by decide) (by decide), hTT.2.1, hM]; rfl
      rw [b_X8_fill_49_20, q]
      simp only [Option.bind_some, Option.toList_some, List.cons_append, List.nil_append, b_X8_fill_49_27]
      rw [if_pos (nI_lt (by omega) (by omega))]
      have hk : k < (if true = true then TT else Z) := by rw [← hM]; omega
      obtain ⟨T1, r1, r2, r3⟩ := X8_names49 (H := H) hn hc hB hH hZ hTT hf hk (by omega) (by show 1 ≤ 4; omega) _ 0 T (Nat.zero_add _) h2 h3
      rw [nI_0] at r1
      rw [r1]
      exact ih (k + 1) T1 (by omega) r2 r3
  rw [← hM, e_X8_fill_49, fill_50]
  simp only [Option.bind_some, Option.toList_none, List.append_nil, b_X8_fill_49_9]
  rw [fill_51]
  simp only [Option.bind_some, Option.toList_none, List.append_nil, b_X8_fill_49_17]
  obtain ⟨T1, r1, r2, r3⟩ := key M 0 (fv (fv B 50 56 1000000) 51 56 (-1)) (Nat.zero_add _) ⟨fun c h1 h2 h3 => by rw [fv_n h3, fv_n h2], rfl⟩ (by
    intro s L g1 g2 g3
    rw [fv_e, fv_n (by decide), fv_e]
    dsimp only
    rw [if_pos (by omega), if_pos (by omega), ent_0]
    exact ⟨rfl, rfl⟩)
  rw [nI_0] at r1
  rw [r1]
  refine ⟨T1, rfl, r2, fun s L g1 g2 g3 => ?_⟩
  have := r3 s L g1 g2 g3
  show _ = nI (brw (fun k => fcost P B H true k L s) M).1 ∧ _ = (brw (fun k => fcost P B H true k L s) M).2
  rw [← ent_0]
  exact this
