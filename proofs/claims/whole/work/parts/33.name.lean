/-! ===== name ===== -/
abbrev bk_dis (W : Nat) (wl sg : Nat → Int32) : Prop := ∀ w v, w < W → v < W → cl (wl w) = cl (wl v) → (∀ i, i < cl (wl w) → sg (w * 16 + i) = sg (v * 16 + i)) → w = v
theorem wlk_uniq {P : q_P} {wl sg : Nat → Int32} {W k w v : Nat} (hd : bk_dis W wl sg) (hw : w < W) (hv : v < W) (h1 : wlk P wl sg k w) (h2 : wlk P wl sg k v) : w = v := by
  refine hd w v hw hv (h1.1.symm.trans h2.1) (fun i hi => ?_)
  have hi' : i < q_len P k := Nat.lt_of_lt_of_eq hi h1.1.symm
  exact (h1.2 i hi').symm.trans (h2.2 i hi')
/-- the name k has the words of the line -/
abbrev nm (P : q_P) (S : a_M) (k : Nat) : Prop := b_sz S k = P.1 ∧ ∀ j, j < P.1 → wlike P S j (b_id S k j)
def c19 (S T : a_M) : Prop := (∀ c, c ≠ 19 → T.1 c = S.1 c) ∧ T.2 = S.2
theorem q_c_same {P : q_P} {S T : a_M} (h : q_c P S) (e : ∀ c, 7 ≤ c → c ≤ 11 → T.1 c = S.1 c) : q_c P T := by
  obtain ⟨a1, a2, a3, a4, a5⟩ := h
  unfold q_c
  rw [e 7 (by decide) (by decide), e 8 (by decide) (by decide), e 9 (by decide) (by decide), e 10 (by decide) (by decide), e 11 (by decide) (by decide)]
  exact ⟨a1, a2, a3, a4, a5⟩
theorem X0_enter1 {P : q_P} {S : a_M} {W : Nat} (ok : q_ok P) (hc : q_c P S) (hn : P.1 ≤ 4) (hW : W ≤ 240) (h7 : S.1 12 7 = nI W) (hl : bk_len W (S.1 14)) : ∀ d k T, k + d = P.1 → c19 S T → (∀ j, j < k → T.1 19 j = lkf P (S.1 14) (S.1 13) W j) →
    ∃ T', g_X0_enter 2 [.ref 12, .ref 7, .int (nI k), .null] [] T = g_X0_enter 32 [.ref 12, .ref 7, .int 0, .null] [] T' ∧ c19 S T' ∧ ∀ j, j < P.1 → T'.1 19 j = lkf P (S.1 14) (S.1 13) W j := by
  intro d
  induction d with
  | zero =>
    intro k T h1 h2 h3
    obtain rfl : k = P.1 := by omega
    rw [b_X0_enter_2, h2.1 7 (by decide), hc.1, if_neg (nI_nlt (Nat.le_refl _) (by omega))]
    exact ⟨T, rfl, h2, h3⟩
  | succ d ih =>
    intro k T h1 h2 h3
    have hcT : q_c P T := q_c_same hc (fun c _ c2 => h2.1 c (by omega))
    rw [b_X0_enter_2, h2.1 7 (by decide), hc.1, if_pos (nI_lt (by omega) (by omega)), X0_wordLike ok hcT (by omega) hW (by rw [h2.1 12 (by decide)]; exact h7) (by rw [h2.1 14 (by decide)]; exact hl)]
    simp only [Option.bind_some, Option.toList_some, List.cons_append, List.nil_append, b_X0_enter_21, put_19]
    rw [pv_nI (by omega) (by decide), h2.1 14 (by decide), h2.1 13 (by decide)]
    simp only [Option.toList_none, List.append_nil, b_X0_enter_24]
    rw [nI_1]
    refine ih (k + 1) _ (by omega) ⟨fun c hc => (wi_n hc).trans (h2.1 c hc), h2.2⟩ (fun j hj => ?_)
    rw [wi_at, if_pos rfl]
    by_cases e : j = k
    · rw [if_pos e, e]
    · rw [if_neg e]; exact h3 j (by omega)
theorem X0_isFound {n k : Nat} {T : a_M} (hn : n ≤ 4) (hk : k < 60) : x_X0_isFound [.ref 12, .int (nI k), .int (nI n)] T = some (some (.int (b2i (T.1 16 k = nI n ∧ ∀ j, j < n → T.1 15 (k * 4 + j) = T.1 19 j))), T) := by
  rw [e_X0_isFound, X0_sizeOf hk]
  simp only [Option.bind_some, Option.toList_some, List.append_nil, b_X0_isFound_5]
  by_cases h : T.1 16 k = nI n
  · rw [if_pos h]
    have st : ∀ j, j < n → g_X0_isFound 13 [.ref 12, .int (nI k), .int (nI n), .int (nI j)] [] T = if T.1 15 (k * 4 + j) = T.1 19 j then g_X0_isFound 13 [.ref 12, .int (nI k), .int (nI n), .int (nI (j + 1))] [] T else some (some (.int 0), T) := by
      intro j hj
      rw [b_X0_isFound_13, if_pos (nI_lt hj (by omega)), X0_wordOf hk (by omega)]
      simp only [Option.bind_some, Option.toList_some, List.append_nil, b_X0_isFound_24, at_19, List.cons_append, List.nil_append, b_X0_isFound_32]
      rw [av_nI (by omega) (by decide), nI_1]
    have key := lp_find (fun j => g_X0_isFound 13 [.ref 12, .int (nI k), .int (nI n), .int (nI j)] [] T) n (fun j => ¬ T.1 15 (k * 4 + j) = T.1 19 j) (some (some (.int 0), T))
      (fun j hj hq => by rw [st j hj, if_neg hq]) (fun j hj hq => by rw [st j hj, if_pos (Decidable.not_not.mp hq)])
    rw [nI_0] at key
    rcases key with ⟨⟨i, h1, h2⟩, h3⟩ | ⟨h1, h2⟩
    · rw [h3, b2i_f (fun q => h2 (q.2 i h1))]
    · rw [h2, b_X0_isFound_13, if_neg (nI_nlt (Nat.le_refl _) (by omega)), b2i_t ⟨h, fun i hi => Decidable.not_not.mp (h1 i hi)⟩]
  · rw [if_neg h, b2i_f (fun q => h q.1)]
theorem nm_iff {N W k : Nat} {P : q_P} {S T : a_M} (hB : i_B N W S) (hn : P.1 ≤ 14) (hk : k < N) (hT : c19 S T) (h19 : ∀ j, j < P.1 → T.1 19 j = lkf P (S.1 14) (S.1 13) W j) : (T.1 16 k = nI P.1 ∧ ∀ j, j < P.1 → T.1 15 (k * 4 + j) = T.1 19 j) ↔ nm P S k := by
  obtain ⟨b1, b2, b3, b4, b5, b6, b7, b8, b9, b10, b11⟩ := hB
  rw [hT.1 16 (by decide), hT.1 15 (by decide)]
  obtain ⟨c1, c2, c3⟩ := b7 k hk
  have e1 : S.1 16 k = nI P.1 ↔ b_sz S k = P.1 := by
    rw [c3]
    exact nI_eq (by omega) (by omega)
  constructor
  · rintro ⟨h1, h2⟩
    refine ⟨e1.mp h1, fun j hj => ?_⟩
    have hj2 : j < cl (S.1 16 k) := by rw [show cl (S.1 16 k) = P.1 from e1.mp h1]; exact hj
    obtain ⟨a1, a2, a3, a4⟩ := b8 k j hk hj2
    have h3 := h2 j hj
    rw [h19 j hj, a2] at h3
    rcases lkf_spec P (S.1 14) (S.1 13) W j with ⟨w, w1, w2, w3⟩ | ⟨w1, w2⟩
    · rw [w3, nI_eq (by omega) (by omega)] at h3
      show wlike P S j (cl (S.1 15 (k * 4 + j)))
      rw [h3]; exact w2
    · rw [w2] at h3
      have := nI_pos (n := cl (S.1 15 (k * 4 + j))) (by omega)
      rw [h3] at this
      exact absurd (by decide) this
  · rintro ⟨h1, h2⟩
    refine ⟨e1.mpr h1, fun j hj => ?_⟩
    have hj2 : j < cl (S.1 16 k) := by rw [show cl (S.1 16 k) = P.1 from h1]; exact hj
    obtain ⟨a1, a2, a3, a4⟩ := b8 k j hk hj2
    rw [h19 j hj, a2]
    rcases lkf_spec P (S.1 14) (S.1 13) W j with ⟨w, w1, w2, w3⟩ | ⟨w1, w2⟩
    · rw [w3, wlk_uniq b10 w1 a1 w2 (h2 j hj)]
    · exact absurd (h2 j hj) (w1 _ a1)
theorem X0_enter2 {N W : Nat} {P : q_P} {S T : a_M} (hB : i_B N W S) (hc : q_c P S) (hn : P.1 ≤ 4) (hT : c19 S T) (h19 : ∀ j, j < P.1 → T.1 19 j = lkf P (S.1 14) (S.1 13) W j) :
    (∃ k, k < N ∧ nm P S k ∧ (∀ j, j < k → ¬ nm P S j) ∧ g_X0_enter 32 [.ref 12, .ref 7, .int 0, .null] [] T = some (some (.int (nI k)), T)) ∨ ((∀ k, k < N → ¬ nm P S k) ∧ g_X0_enter 32 [.ref 12, .ref 7, .int 0, .null] [] T = if N < 60 then g_X0_enter 74 [.ref 12, .ref 7, .int 0, .null] [] T else some (some (.int (-8)), T)) := by
  have b1 := hB.1
  have b3 := hB.2.2.1
  have e8 : T.1 12 8 = nI N := by rw [hT.1 12 (by decide)]; exact b3
  have e7 : T.1 7 4 = nI P.1 := by rw [hT.1 7 (by decide)]; exact hc.1
  have st : ∀ k, k < N → g_X0_enter 32 [.ref 12, .ref 7, .int (nI k), .null] [] T = if nm P S k then some (some (.int (nI k)), T) else g_X0_enter 32 [.ref 12, .ref 7, .int (nI (k + 1)), .null] [] T := by
    intro k hk
    rw [b_X0_enter_32, e8, if_pos (nI_lt hk (by omega)), e7, X0_isFound hn (by omega)]
    simp only [Option.bind_some, Option.toList_some, List.append_nil, b_X0_enter_49, b2i_z]
    have hi := nm_iff hB (by omega) hk hT h19
    rw [nI_1]
    by_cases h : nm P S k
    · rw [if_neg (not_not_intro (hi.mpr h)), if_pos h]
    · rw [if_pos (fun q => h (hi.mp q)), if_neg h]
  have key := lp_first (fun k => g_X0_enter 32 [.ref 12, .ref 7, .int (nI k), .null] [] T) N (nm P S) (fun k => some (some (.int (nI k)), T))
    (fun k hk hq => by rw [st k hk, if_pos hq]) (fun k hk hq => by rw [st k hk, if_neg hq])
  rw [nI_0] at key
  rcases key with h | ⟨h1, h2⟩
  · exact Or.inl h
  · refine Or.inr ⟨h1, h2.trans ?_⟩
    rw [b_X0_enter_32, e8, if_neg (nI_nlt (Nat.le_refl _) (by omega))]
    by_cases h : N < 60
    · rw [if_pos (show nI N < 60 from nI_lt (b := 60) h (by decide)), if_pos h]
    · rw [if_neg (show ¬ nI N < 60 from nI_nlt (b := 60) (by omega) (by omega)), if_neg h]
/-! a new word of the book -/
theorem X0_addWordl {P : q_P} {k Wk : Nat} (ok : q_ok P) (hk : k < P.1) (hW : Wk < 240) : ∀ d i T, i + d = q_len P k → q_c P T → T.1 12 7 = nI Wk →
    ∃ T', g_X0_addWord 9 [.ref 12, .ref 7, .int (nI k), .int (nI (q_len P k)), .int (nI i)] [] T = some (some (.int (nI Wk)), T') ∧ (∀ c, c ≠ 12 → c ≠ 13 → c ≠ 14 → T'.1 c = T.1 c) ∧ T'.2 = T.2 ∧ T'.1 12 = upd (T.1 12) 7 (nI (Wk + 1)) ∧ T'.1 14 = upd (T.1 14) Wk (nI (q_len P k)) ∧
      ∀ x, T'.1 13 x = if Wk * 16 + i ≤ x ∧ x < Wk * 16 + q_len P k then q_sg P k (x - Wk * 16) else T.1 13 x := by
  have hl16 := ok.1.2.2.1 k hk
  intro d
  induction d with
  | zero =>
    intro i T h1 h2 h3
    rw [b_X0_addWord_9, if_neg (nI_nlt (by omega) (by omega)), h3, put_14, pv_nI hW (by decide)]
    simp only [Option.bind_some, Option.toList_none, List.append_nil, b_X0_addWord_57]
    rw [wi_n (by decide), h3, nI_1, nI_pred]
    refine ⟨_, rfl, fun c c1 c2 c3 => by rw [wi_n c1, wi_n c3], rfl, ?_, ?_, fun x => ?_⟩
    · rw [wi_e, wi_n (by decide)]
    · rw [wi_n (by decide), wi_e]
    · rw [if_neg (by omega), wi_n (by decide), wi_n (by decide)]
  | succ d ih =>
    intro i T h1 h2 h3
    rw [b_X0_addWord_9, if_pos (nI_lt (by omega) (by omega)), h3, X10_signAt ok h2 hk (by omega)]
    simp only [Option.bind_some, Option.toList_some, List.cons_append, List.nil_append, b_X0_addWord_36]
    rw [show (16 : Int32) = nI 16 from rfl, pk_mul, nI_add, put_13, pv_nI (by omega) (by decide)]
    simp only [Option.bind_some, Option.toList_none, List.append_nil, b_X0_addWord_39]
    rw [nI_1]
    obtain ⟨T', f1, f2, f3, f4, f5, f6⟩ := ih (i + 1) (a_wi T 13 (Wk * 16 + i) (q_sat P k i)) (by omega) (q_c_same h2 (fun c _ c2 => wi_n (by omega))) (by rw [wi_n (by decide)]; exact h3)
    rw [f1]
    refine ⟨T', rfl, fun c c1 c2 c3 => by rw [f2 c c1 c2 c3, wi_n c2], f3, by rw [f4, wi_n (by decide)], by rw [f5, wi_n (by decide)], fun x => ?_⟩
    rw [f6, wi_at, if_pos rfl]
    by_cases e : x = Wk * 16 + i
    · rw [if_neg (by omega), if_pos e, if_pos (by omega), e, Nat.add_sub_cancel_left]
      unfold q_sat
      rw [if_pos (by omega)]
    · rw [if_neg e]
      by_cases e2 : Wk * 16 + (i + 1) ≤ x ∧ x < Wk * 16 + q_len P k
      · rw [if_pos e2, if_pos (by omega)]
      · rw [if_neg e2, if_neg (by omega)]
/-- the book while a name's words come into it: k of them so far, Wk words in all -/
def ad (P : q_P) (S : a_M) (N W k Wk : Nat) (T : a_M) : Prop :=
  W ≤ Wk ∧ T.1 12 7 = nI Wk ∧ (∀ j, j ≠ 7 → T.1 12 j = S.1 12 j) ∧ (∀ c, c ≠ 12 → c ≠ 13 → c ≠ 14 → c ≠ 15 → c ≠ 19 → T.1 c = S.1 c) ∧ T.2 = S.2 ∧
  (∀ w, w < W → T.1 14 w = S.1 14 w) ∧ (∀ x, x < W * 16 → T.1 13 x = S.1 13 x) ∧ bk_len Wk (T.1 14) ∧ bk_dis Wk (T.1 14) (T.1 13) ∧ (∀ x, x < N * 4 → T.1 15 x = S.1 15 x) ∧
  ∀ j, j < k → b_id T N j < Wk ∧ T.1 15 (N * 4 + j) = nI (b_id T N j) ∧ wlike P T j (b_id T N j)
theorem X0_enter3 {P : q_P} {S : a_M} {N W : Nat} (ok : q_ok P) (oklen : ∀ k, k < P.1 → 1 ≤ q_len P k) (hc : q_c P S) (hn : P.1 ≤ 4) (hN : N < 60) (hW : W ≤ 4 * N) (h8 : S.1 12 8 = nI N) : ∀ d k Wk T, k + d = P.1 → Wk ≤ W + k → ad P S N W k Wk T →
    ∃ T' Wn, g_X0_enter 74 [.ref 12, .ref 7, .int (nI k), .null] [] T = some (some (.int (nI N)), a_wi (a_wi T' 16 N (nI P.1)) 12 8 (nI (N + 1))) ∧ Wn ≤ W + P.1 ∧ ad P S N W P.1 Wn T' := by
  intro d
  induction d with
  | zero =>
    intro k Wk T h1 hWk hA
    obtain rfl : k = P.1 := by omega
    have hA' := hA
    obtain ⟨a1, a3, a4, a5, a6, a7, a8, a9, a10, a11, a12⟩ := hA
    have e7 : T.1 7 4 = nI P.1 := by rw [a5 7 (by decide) (by decide) (by decide) (by decide) (by decide)]; exact hc.1
    have e8 : T.1 12 8 = nI N := by rw [a4 8 (by decide)]; exact h8
    rw [b_X0_enter_74, e7, if_neg (nI_nlt (Nat.le_refl _) (by omega)), e8, put_16, pv_nI hN (by decide)]
    simp only [Option.bind_some, Option.toList_none, List.append_nil, b_X0_enter_139]
    rw [wi_n (by decide), e8, nI_1, nI_pred]
    exact ⟨T, Wk, rfl, hWk, hA'⟩
  | succ d ih =>
    intro k Wk T h1 a2 hA
    obtain ⟨a1, a3, a4, a5, a6, a7, a8, a9, a10, a11, a12⟩ := hA
    have hk : k < P.1 := by omega
    have e7 : T.1 7 4 = nI P.1 := by rw [a5 7 (by decide) (by decide) (by decide) (by decide) (by decide)]; exact hc.1
    have e8 : T.1 12 8 = nI N := by rw [a4 8 (by decide)]; exact h8
    have hcT : q_c P T := q_c_same hc (fun c c1 c2 => a5 c (by omega) (by omega) (by omega) (by omega) (by omega))
    have hl16 := ok.1.2.2.1 k hk
    have eN : nI N * 4 + nI k = nI (N * 4 + k) := by rw [show (4 : Int32) = nI 4 from rfl, pk_mul, nI_add]
    rw [b_X0_enter_74, e7, if_pos (nI_lt hk (by omega)), X0_wordLike ok hcT hk (by omega) a3 a9]
    simp only [Option.bind_some, Option.toList_some, List.append_nil, b_X0_enter_88]
    rw [e8, eN]
    -- what a place's word comes to
    have next : ∀ (w Wk' : Nat) (T1 : a_M), w < Wk' → Wk' ≤ 240 → T1.1 15 = T.1 15 → ad P S N W k Wk' T1 → wlike P T1 k w → Wk' ≤ W + (k + 1) → ∃ T' Wn, g_X0_enter 115 [.ref 12, .ref 7, .int (nI k), .null] [.int (nI w), .int (nI (N * 4 + k)), .ref 15] T1 = some (some (.int (nI N)), a_wi (a_wi T' 16 N (nI P.1)) 12 8 (nI (N + 1))) ∧ Wn ≤ W + P.1 ∧ ad P S N W P.1 Wn T' := by
      intro w Wk' T1 w1 w2 w3 hA1 w4 w5
      obtain ⟨c1, c3, c4, c5, c6, c7, c8, c9, c10, c11, c12⟩ := hA1
      rw [b_X0_enter_115, put_15, pv_nI (by omega) (by decide)]
      simp only [Option.bind_some, Option.toList_none, List.append_nil, b_X0_enter_118]
      rw [nI_1]
      refine ih (k + 1) Wk' _ (by omega) w5 ⟨c1, ?_, fun j hj => ?_, fun c q1 q2 q3 q4 q5 => ?_, c6, ?_, ?_, ?_, ?_, fun x hx => ?_, fun j hj => ?_⟩
      · rw [wi_n (by decide)]; exact c3
      · rw [wi_n (by decide)]; exact c4 j hj
      · rw [wi_n q4]; exact c5 c q1 q2 q3 q4 q5
      · rw [wi_n (by decide)]; exact c7
      · rw [wi_n (by decide)]; exact c8
      · rw [wi_n (by decide)]; exact c9
      · rw [wi_n (by decide), wi_n (by decide)]; exact c10
      · rw [wi_s (by omega)]; exact c11 x hx
      · unfold wlike b_id
        rw [wi_n (a := 14) (by decide), wi_n (a := 13) (by decide), wi_at, if_pos rfl]
        by_cases e : j = k
        · subst e
          rw [if_pos rfl, cl_nI (by omega)]
          exact ⟨w1, rfl, w4⟩
        · rw [if_neg (by omega)]
          exact c12 j (by omega)
    rcases lkf_spec P (T.1 14) (T.1 13) Wk k with ⟨w, w1, w2, w3⟩ | ⟨w1, w2⟩
    · rw [w3, if_neg (nI_pos (by omega))]
      exact next w Wk T w1 (by omega) rfl ⟨a1, a3, a4, a5, a6, a7, a8, a9, a10, a11, a12⟩ w2 (by omega)
    · rw [w2, if_pos (by decide), e_X0_addWord, X10_lengthOf ok hcT hk]
      simp only [Option.bind_some, Option.toList_some, List.append_nil, b_X0_addWord_5]
      obtain ⟨T1, f1, f2, f3, f4, f5, f6⟩ := X0_addWordl (k := k) (Wk := Wk) ok hk (by omega) (q_len P k) 0 T (by omega) hcT a3
      rw [nI_0] at f1
      rw [f1]
      simp only [Option.bind_some, Option.toList_some, List.cons_append, List.nil_append]
      have g14 : ∀ v, v < Wk → T1.1 14 v = T.1 14 v := fun v hv => by rw [f5, up_n (by omega)]
      have g13 : ∀ v i, v < Wk → i < 16 → T1.1 13 (v * 16 + i) = T.1 13 (v * 16 + i) := fun v i hv hi => by rw [f6, if_neg (by omega)]
      have gW : T1.1 14 Wk = nI (q_len P k) := by rw [f5, up_e]
      have gs : ∀ i, i < q_len P k → T1.1 13 (Wk * 16 + i) = q_sg P k i := fun i hi => by rw [f6, if_pos (by omega), Nat.add_sub_cancel_left]
      refine next Wk (Wk + 1) T1 (by omega) (by omega) (f2 15 (by decide) (by decide) (by decide)) ⟨by omega, ?_, fun j hj => ?_, fun c q1 q2 q3 q4 q5 => ?_, f3.trans a6, fun w hw => ?_, fun x hx => ?_, fun w hw => ?_, fun w v hw hv q1 q2 => ?_, fun x hx => ?_, fun j hj => ?_⟩ ⟨?_, fun i hi => ?_⟩ (by omega)
      · rw [f4, up_e]
      · rw [f4, up_n hj]; exact a4 j hj
      · rw [f2 c q1 q2 q3]; exact a5 c q1 q2 q3 q4 q5
      · rw [g14 w (by omega)]; exact a7 w hw
      · rw [f6, if_neg (by omega)]; exact a8 x hx
      · by_cases e : w = Wk
        · rw [e, gW, cl_nI (by omega)]
          exact ⟨oklen k hk, hl16, rfl⟩
        · rw [g14 w (by omega)]; exact a9 w (by omega)
      · -- the words stay apart
        have old : ∀ v, v < Wk → ¬ (cl (T.1 14 v) = q_len P k ∧ ∀ i, i < q_len P k → T.1 13 (v * 16 + i) = q_sg P k i) := fun v hv q => w1 v hv ⟨q.1.symm, fun i hi => (q.2 i hi).symm⟩
        by_cases ew : w = Wk <;> by_cases ev : v = Wk
        · omega
        · exfalso
          rw [ew, gW, g14 v (by omega), cl_nI (by omega)] at q1
          rw [ew, gW, cl_nI (by omega)] at q2
          exact old v (by omega) ⟨q1.symm, fun i hi => by have := q2 i hi; rw [gs i hi, g13 v i (by omega) (by omega)] at this; exact this.symm⟩
        · exfalso
          rw [ev, gW, g14 w (by omega), cl_nI (by omega)] at q1
          rw [g14 w (by omega), q1] at q2
          exact old w (by omega) ⟨q1, fun i hi => by have := q2 i hi; rw [ev, gs i hi, g13 w i (by omega) (by omega)] at this; exact this⟩
        · rw [g14 w (by omega), g14 v (by omega)] at q1
          rw [g14 w (by omega)] at q2
          refine a10 w v (by omega) (by omega) q1 (fun i hi => ?_)
          have h16 := (a9 w (by omega)).2.1
          have := q2 i hi
          rw [g13 w i (by omega) (by omega), g13 v i (by omega) (by omega)] at this
          exact this
      · rw [f2 15 (by decide) (by decide) (by decide)]; exact a11 x hx
      · obtain ⟨p1, p2, p3, p4⟩ := a12 j hj
        have e15 : T1.1 15 = T.1 15 := f2 15 (by decide) (by decide) (by decide)
        have eb : b_id T1 N j = b_id T N j := by show cl (T1.1 15 _) = _; rw [e15]
        rw [eb, e15]
        have h16 := ok.1.2.2.1 j (by omega)
        refine ⟨by omega, p2, ?_, fun i hi => ?_⟩
        · rw [g14 _ p1]; exact p3
        · rw [g13 _ i p1 (by omega)]; exact p4 i hi
      · rw [gW, cl_nI (by omega)]
      · rw [gs i hi]
