/-! ===== the reference's words of the line ===== -/
theorem X12_in (a b c : Int32) (S : a_M) : x_X12_in [.int a, .int b, .int c] S = some (some (.int (b2i (¬ a < b ∧ ¬ c < a))), S) := by
  rw [e_X12_in]
  by_cases h1 : a < b <;> by_cases h2 : c < a <;> simp [b2i, h1, h2]
/-- outside of the reference's words nothing moves -/
def m_same (S T : a_M) : Prop := (∀ k, k ≠ 56 → k ≠ 61 → k ≠ 62 → k ≠ 63 → T.1 k = S.1 k) ∧ (∀ j, j ≠ 6 → j ≠ 51 → j ≠ 52 → j ≠ 53 → T.1 56 j = S.1 56 j) ∧ T.2 = S.2
theorem m_same_rfl (S : a_M) : m_same S S := ⟨fun _ _ _ _ _ => rfl, fun _ _ _ _ _ => rfl, rfl⟩
theorem m_same_tr {S T U : a_M} (h1 : m_same S T) (h2 : m_same T U) : m_same S U :=
  ⟨fun k a b c d => (h2.1 k a b c d).trans (h1.1 k a b c d), fun j a b c d => (h2.2.1 j a b c d).trans (h1.2.1 j a b c d), h2.2.2.trans h1.2.2⟩
theorem m_same_56 {S T : a_M} (h : m_same S T) {j : Nat} {v : Int32} (hj : j = 6 ∨ j = 51 ∨ j = 52 ∨ j = 53) : m_same S (a_wi T 56 j v) := by
  refine ⟨fun k a b c d => (wi_n a).trans (h.1 k a b c d), fun i a b c d => ?_, h.2.2⟩
  rw [wi_s (by omega)]; exact h.2.1 i a b c d
theorem m_same_6x {S T : a_M} (h : m_same S T) {c j : Nat} {v : Int32} (hc : c = 61 ∨ c = 62 ∨ c = 63) : m_same S (a_wi T c j v) := by
  refine ⟨fun k a b d e => (wi_n (by omega)).trans (h.1 k a b d e), fun i a b d e => ?_, h.2.2⟩
  rw [wi_n (by omega)]; exact h.2.1 i a b d e
theorem X12_foldOf (a : Int32) (S : a_M) {n : Nat} (hn : S.1 56 5 = nI n) (hn30 : n ≤ 30) : ∃ r, x_X12_foldOf [.ref 56, .int a] S = some (some (.int r), S) ∧ ((r = -1 ∧ ∀ i, i < n → S.1 58 i ≠ a) ∨ ∃ i, i < n ∧ r = nI i ∧ S.1 58 i = a) := by
  rw [e_X12_foldOf]
  have key : ∀ d i r, i + d = n → ((r = -1 ∧ ∀ j, j < i → S.1 58 j ≠ a) ∨ ∃ j, j < i ∧ r = nI j ∧ S.1 58 j = a) → ∃ r', g_X12_foldOf 4 [.ref 56, .int a, .int r, .int (nI i)] [] S = some (some (.int r'), S) ∧ ((r' = -1 ∧ ∀ i, i < n → S.1 58 i ≠ a) ∨ ∃ i, i < n ∧ r' = nI i ∧ S.1 58 i = a) := by
    intro d
    induction d with
    | zero =>
      intro i r hi hj
      rw [b_X12_foldOf_4, if_neg (by rw [hn]; exact nI_nlt (by omega) (by omega))]
      obtain rfl : i = n := by omega
      exact ⟨_, rfl, hj⟩
    | succ d ih =>
      intro i r hi hj
      rw [b_X12_foldOf_4, if_pos (by rw [hn]; exact nI_lt (by omega) (by omega)), if_neg (nI_out (by omega) (by decide)), nI_clamp (by omega)]
      by_cases hq : S.1 58 i = a
      · rw [if_pos hq, nI_1]
        exact ih (i + 1) _ (by omega) (Or.inr ⟨i, by omega, rfl, hq⟩)
      · rw [if_neg hq, nI_1]
        refine ih (i + 1) _ (by omega) ?_
        rcases hj with ⟨h1, h2⟩ | ⟨j, h1, h2, h3⟩
        · refine Or.inl ⟨h1, fun j hj' => ?_⟩
          rcases Nat.lt_or_ge j i with h3 | h3
          · exact h2 j h3
          · rw [show j = i by omega]; exact hq
        · exact Or.inr ⟨j, by omega, h2, h3⟩
  have := key n 0 (-1) (by omega) (Or.inl ⟨rfl, fun j hj => by omega⟩)
  rw [nI_0] at this
  exact this
theorem X12_take_w (a : Int32) (T : a_M) : x_X12_take [.ref 56, .int a] T = g_X12_take 34 [.ref 56, .int a, .null, .null] [.int (b2i (p_word a))] T := by
  rw [e_X12_take, X12_in]
  simp only [Option.bind_some, Option.toList_some, List.append_nil, b_X12_take_8, X12_in, b_X12_take_19, b_X12_take_29, b2i_z]
  by_cases h1 : p_small a
  · rw [if_neg (not_not_intro h1), b2i_t (Or.inl h1)]
  · rw [if_pos h1]
    by_cases h2 : p_fig a
    · rw [if_neg (not_not_intro h2), b2i_t (Or.inr (Or.inl h2))]
    · rw [if_pos h2]
      by_cases h3 : a < 128
      · rw [if_pos h3, b2i_f (fun q => q.elim h1 (fun q => q.elim h2 (fun q => q h3)))]
      · rw [if_neg h3, b2i_t (Or.inr (Or.inr h3))]
theorem nar_b2i (p : Prop) [Decidable p] : vp_nar .boolean (b2i p) = b2i p := by
  by_cases h : p
  · rw [b2i_t h]; rfl
  · rw [b2i_f h]; rfl
def m_bg (U : a_M) (k : Nat) : a_M := a_wi (a_wi (a_wi (a_wi U 61 k 0) 63 k (b2i (U.1 56 52 ≠ 0 ∧ 0 < k))) 56 52 0) 56 6 (nI (k + 1))
theorem m_103 {U : a_M} {k : Nat} {a : Int32} (hk : k < 14) (h6 : U.1 56 6 = nI k) : g_X12_take 103 [.ref 56, .int a, .null, .null] [] U = g_X12_take 156 [.ref 56, .int a, .null, .null] [] (m_bg U k) := by
  have e6 : (a_wi U 61 k 0).1 56 6 = nI k := by rw [wi_n (by decide)]; exact h6
  have fin : ∀ w : Int32, vp_nar .boolean w = w → g_X12_take 140 [.ref 56, .int a, .null, .null] [.int w, .int (nI k), .ref 63] (a_wi U 61 k 0) = g_X12_take 156 [.ref 56, .int a, .null, .null] [] (a_wi (a_wi (a_wi (a_wi U 61 k 0) 63 k w) 56 52 0) 56 6 (nI (k + 1))) := by
    intro w hw
    rw [b_X12_take_140, if_neg (nI_out hk (by decide)), nI_clamp (by omega), hw, e6, nI_1]
  rw [b_X12_take_103, h6, if_neg (nI_out hk (by decide)), nI_clamp (by omega)]
  unfold m_bg
  by_cases h52 : U.1 56 52 = 0
  · rw [if_pos h52, b_X12_take_139, fin 0 rfl, b2i_f (fun q => q.1 h52)]
  · rw [if_neg h52]
    have hz : (0 : Int32) < nI k ↔ 0 < k := by rw [← nI_0]; exact nI_ltI (by omega) (by omega)
    by_cases hk0 : 0 < k
    · rw [if_pos (hz.mpr hk0), fin 1 rfl, b2i_t ⟨h52, hk0⟩]
    · rw [if_neg (fun q => hk0 (hz.mp q)), b_X12_take_139, fin 0 rfl, b2i_f (fun q => hk0 q.2)]
def m_ap (a : Int32) (U : a_M) (k l : Nat) : a_M := if l = 16 then a_wi U 56 53 1 else a_wi (a_wi U 62 (16 * k + l) a) 61 k (nI (l + 1))
theorem m_156 {U : a_M} {k l : Nat} {a : Int32} (hk : k < 14) (h6 : U.1 56 6 = nI (k + 1)) (h61 : U.1 61 k = nI l) (hl : l ≤ 16) : g_X12_take 156 [.ref 56, .int a, .null, .null] [] U = some (none, m_ap a U k l) := by
  have hc : (nI k).toNatClampNeg = k := nI_clamp (by omega)
  rw [b_X12_take_156, h6, nI_pred, if_neg (nI_out hk (by decide)), hc, h61]
  unfold m_ap
  by_cases e : l = 16
  · subst e
    rw [if_pos rfl, if_pos (show nI 16 = 16 from rfl)]
  · have e1 : 16 * nI k + nI l = nI (16 * k + l) := by
      rw [show (16 : Int32) = nI 16 from rfl, pk_mul, nI_add]
    rw [if_neg e, if_neg (show ¬ nI l = 16 from fun q => e ((nI_eq (by omega) (by decide)).mp q)), e1, if_neg (show ¬ (nI k < 0 ∨ 14 ≤ k) from by have := nI_out hk (n := 14) (by decide); rw [hc] at this; exact this), if_neg (nI_out (by omega) (by decide)), if_neg (show ¬ (nI k < 0 ∨ 14 ≤ k) from by have := nI_out hk (n := 14) (by decide); rw [hc] at this; exact this), if_neg (show ¬ (nI k < 0 ∨ 14 ≤ k) from by have := nI_out hk (n := 14) (by decide); rw [hc] at this; exact this), nI_clamp (by omega), nI_1]
def m_b (T : a_M) (n' : Nat) : Prop := n' ≤ 14 ∧ T.1 56 6 = nI n' ∧ (T.1 56 51 ≠ 0 → 0 < n') ∧ ∀ k, k < n' → ∃ l, l ≤ 16 ∧ T.1 61 k = nI l
def m_w (P : q_P) (T : a_M) : Prop := ∀ k, k < P.1 → T.1 61 k = nI (q_len P k) ∧ T.1 63 k = b2i (q_br P k = true) ∧ ∀ i, i < q_len P k → T.1 62 (16 * k + i) = q_sg P k i
def m_e (P : q_P) (T : a_M) : Prop := T.1 56 6 = nI P.1 ∧ T.1 56 51 = b2i (q_in P = true) ∧ T.1 56 52 = b2i (q_co P = true) ∧ m_w P T
/-- the reference's cells hold these words (unless they are too long) -/
def q_m (P : q_P) (T : a_M) : Prop := (∃ n', m_b T n') ∧ T.1 56 53 = b2i (q_lo P = true) ∧ (q_lo P = false → m_e P T)
theorem b2i_inj {b c : Bool} (h : b2i (b = true) = b2i (c = true)) : b = c := by
  cases b <;> cases c <;> simp [b2i] at h ⊢
theorem b2i_b0 {b : Bool} (h : b2i (b = true) = 0) : b = false := by
  cases b <;> simp [b2i] at h ⊢
theorem b2i_b1 {b : Bool} (h : b2i (b = true) ≠ 0) : b = true := by
  cases b <;> simp [b2i] at h ⊢
/-- the words when a sign of a word comes: begun -/
abbrev q_bg (P : q_P) : q_P := if q_in P = true then P else q_begin P
theorem q_bg_lo {P : q_P} (h : q_lo P = true) : q_lo (q_bg P) = true := by
  unfold q_bg
  split
  · exact h
  · unfold q_begin
    split
    · exact h
    · rfl
theorem m_stage {P : q_P} {T : a_M} {a : Int32} (ok : q_ok P) (h : q_m P T) : ∃ U k, g_X12_take 34 [.ref 56, .int a, .null, .null] [.int 1] T = g_X12_take 156 [.ref 56, .int a, .null, .null] [] U ∧ m_same T U ∧ m_b U (k + 1) ∧ U.1 56 53 = b2i (q_lo (q_bg P) = true) ∧ (q_lo (q_bg P) = false → m_e (q_bg P) U) := by
  obtain ⟨⟨n', b1, b2, b3, b4⟩, h53, hE⟩ := h
  rw [b_X12_take_34, if_neg (by decide)]
  by_cases h51 : T.1 56 51 = 0
  · rw [if_pos h51, b2]
    by_cases h14 : n' = 14
    · subst h14
      rw [if_pos (show nI 14 = 14 from rfl), show nI 14 - 1 = nI 13 from rfl, m_103 (k := 13) (by omega) (wi_v _ _ _ _)]
      have hlo : q_lo (q_bg P) = true := by
        by_cases hl : q_lo P = true
        · exact q_bg_lo hl
        · have hlf : q_lo P = false := by cases hx : q_lo P <;> simp_all
          obtain ⟨c1, c2, c3, c4⟩ := hE hlf
          have hin : q_in P = false := b2i_b0 (c2.symm.trans h51)
          have hn : P.1 = 14 := by
            rw [b2] at c1
            exact ((nI_eq (by decide) (by have := ok.1.1; omega)).mp c1).symm
          unfold q_bg
          rw [if_neg (by rw [hin]; decide)]
          unfold q_begin
          rw [if_neg (by omega)]
      refine ⟨_, 13, rfl, ?_, ⟨by omega, ?_, fun _ => by omega, ?_⟩, ?_, fun q => by rw [hlo] at q; cases q⟩
      · unfold m_bg
        exact m_same_56 (m_same_56 (m_same_6x (m_same_6x (m_same_56 (m_same_56 (m_same_56 (m_same_rfl T) (by omega)) (by omega)) (by omega)) (by omega)) (by omega)) (by omega)) (by omega)
      · unfold m_bg; rw [wi_v]
      · intro k hk
        by_cases e : k = 13
        · subst e
          exact ⟨0, by omega, by simp [m_bg, wi_at, nI_0]⟩
        · obtain ⟨l, hl1, hl2⟩ := b4 k (by omega)
          exact ⟨l, hl1, by simp [m_bg, wi_at, e, hl2]⟩
      · rw [b2i_t hlo]
        simp [m_bg, wi_at]
    · rw [if_neg (show ¬ nI n' = 14 from fun q => h14 ((nI_eq (by omega) (by decide)).mp q)), m_103 (k := n') (by omega) (by rw [wi_s (by decide)]; exact b2)]
      refine ⟨_, n', rfl, ?_, ⟨by omega, ?_, fun _ => by omega, ?_⟩, ?_, ?_⟩
      · unfold m_bg
        exact m_same_56 (m_same_56 (m_same_6x (m_same_6x (m_same_56 (m_same_rfl T) (by omega)) (by omega)) (by omega)) (by omega)) (by omega)
      · unfold m_bg; rw [wi_v]
      · intro k hk
        by_cases e : k = n'
        · subst e
          exact ⟨0, by omega, by simp [m_bg, wi_at, nI_0]⟩
        · obtain ⟨l, hl1, hl2⟩ := b4 k (by omega)
          exact ⟨l, hl1, by simp [m_bg, wi_at, e, hl2]⟩
      · have e53 : (m_bg (a_wi T 56 51 1) n').1 56 53 = T.1 56 53 := by simp [m_bg, wi_at]
        rw [e53, h53]
        by_cases hl : q_lo P = true
        · rw [b2i_t hl, b2i_t (q_bg_lo hl)]
        · have hlf : q_lo P = false := by cases hx : q_lo P <;> simp_all
          obtain ⟨c1, c2, c3, c4⟩ := hE hlf
          have hin : q_in P = false := b2i_b0 (c2.symm.trans h51)
          have hn : P.1 = n' := by
            rw [b2] at c1
            exact ((nI_eq (by omega) (by have := ok.1.1; omega)).mp c1).symm
          unfold q_bg
          rw [if_neg (by rw [hin]; decide)]
          unfold q_begin
          rw [if_pos (by omega)]
      · intro hq
        have hlf : q_lo P = false := by
          cases hx : q_lo P
          · rfl
          · rw [q_bg_lo hx] at hq; cases hq
        obtain ⟨c1, c2, c3, c4⟩ := hE hlf
        have hin : q_in P = false := b2i_b0 (c2.symm.trans h51)
        have hn : P.1 = n' := by
          rw [b2] at c1
          exact ((nI_eq (by omega) (by have := ok.1.1; omega)).mp c1).symm
        unfold q_bg
        rw [if_neg (by rw [hin]; decide)]
        unfold q_begin
        rw [if_pos (by omega)]
        refine ⟨?_, ?_, ?_, fun k hk => ?_⟩
        · unfold m_bg; rw [wi_v, hn]
        · simp [m_bg, wi_at, b2i]
        · simp [m_bg, wi_at, b2i]
        · dsimp only [q_len, q_sg, q_br, q_in, q_co, q_lo] at hk ⊢
          by_cases e : k = n'
          · subst e
            rw [hn]
            simp only [q_ue]
            refine ⟨by simp [m_bg, wi_at, nI_0], ?_, fun i hi => by omega⟩
            have : (m_bg (a_wi T 56 51 1) k).1 63 k = b2i ((a_wi T 56 51 1).1 56 52 ≠ 0 ∧ 0 < k) := by simp [m_bg, wi_at]
            rw [this, wi_s (by decide), c3]
            show b2i (b2i (q_co P = true) ≠ 0 ∧ 0 < k) = b2i ((q_co P && decide (0 < k)) = true)
            generalize q_co P = c
            cases c <;> by_cases hk0 : 0 < k <;> simp [b2i, hk0]
          · rw [hn]
            simp only [q_un e]
            obtain ⟨d1, d2, d3⟩ := c4 k (by omega)
            refine ⟨by simp [m_bg, wi_at, e, d1], by simp [m_bg, wi_at, e, d2], fun i hi => by simp [m_bg, wi_at, d3 i hi]⟩
  · rw [if_neg h51]
    have hn0 := b3 h51
    have hq : q_lo P = false → q_bg P = P := by
      intro hlf
      obtain ⟨c1, c2, c3, c4⟩ := hE hlf
      unfold q_bg
      rw [if_pos (b2i_b1 (by rw [← c2]; exact h51))]
    refine ⟨T, n' - 1, rfl, m_same_rfl T, ?_, ?_, ?_⟩
    · rw [show n' - 1 + 1 = n' by omega]
      exact ⟨b1, b2, b3, b4⟩
    · rw [h53]
      by_cases hl : q_lo P = true
      · rw [b2i_t hl, b2i_t (q_bg_lo hl)]
      · have hlf : q_lo P = false := by cases hx : q_lo P <;> simp_all
        rw [hq hlf]
    · intro hqf
      have hlf : q_lo P = false := by
        cases hx : q_lo P
        · rfl
        · rw [q_bg_lo hx] at hqf; cases hqf
      rw [hq hlf]
      exact hE hlf
theorem q_bg_ok {P : q_P} (ok : q_ok P) : q_ok0 (q_bg P) := by
  unfold q_bg
  split
  · exact ok.1
  · exact q_begin_ok ok
theorem q_bg_in (P : q_P) : q_in (q_bg P) = true := by
  unfold q_bg
  split
  · assumption
  · exact q_begin_in P
theorem X12_take {P : q_P} {T : a_M} {a : Int32} (ok : q_ok P) (h : q_m P T) : ∃ T', x_X12_take [.ref 56, .int a] T = some (none, T') ∧ q_m (q_take a P) T' ∧ m_same T T' := by
  rw [X12_take_w]
  unfold q_take
  by_cases hw : p_word a
  · rw [if_pos hw, b2i_t hw]
    obtain ⟨U, k, hU, hS, ⟨b1, b2, b3, b4⟩, h53, hE⟩ := m_stage (a := a) ok h
    obtain ⟨l, hl1, hl2⟩ := b4 k (by omega)
    rw [hU, m_156 (by omega) b2 hl2 hl1]
    have okq := q_bg_ok ok
    have hinq := q_bg_in P
    show ∃ T', _ ∧ q_m (q_app a (q_bg P)) T' ∧ _
    generalize q_bg P = Q at h53 hE okq hinq
    refine ⟨_, rfl, ⟨⟨k + 1, b1, ?_, fun _ => by omega, ?_⟩, ?_, ?_⟩, m_same_tr hS ?_⟩
    · unfold m_ap
      split
      · rw [wi_s (by decide)]; exact b2
      · rw [wi_n (by decide), wi_n (by decide)]; exact b2
    · intro j hj
      obtain ⟨l', hl1', hl2'⟩ := b4 j hj
      unfold m_ap
      split
      · exact ⟨l', hl1', by rw [wi_n (by decide)]; exact hl2'⟩
      · by_cases e : j = k
        · subst e
          exact ⟨l + 1, by omega, wi_v _ _ _ _⟩
        · exact ⟨l', hl1', by rw [wi_s e, wi_n (by decide)]; exact hl2'⟩
    · by_cases hlo : q_lo Q = true
      · have : q_lo (q_app a Q) = true := by unfold q_app; rw [if_pos hlo]; exact hlo
        rw [b2i_t this]
        unfold m_ap
        split
        · exact wi_v _ _ _ _
        · rw [wi_n (by decide), wi_n (by decide), h53, b2i_t hlo]
      · have hlf : q_lo Q = false := by cases hx : q_lo Q <;> simp_all
        obtain ⟨c1, c2, c3, c4⟩ := hE hlf
        have hn : Q.1 = k + 1 := by
          rw [b2] at c1
          exact ((nI_eq (by omega) (by have := okq.1; omega)).mp c1).symm
        obtain ⟨d1, d2, d3⟩ := c4 k (by omega)
        have hlen : q_len Q k = l := by
          rw [hl2] at d1
          exact ((nI_eq (by omega) (by have := okq.2.2.1 k (by omega); omega)).mp d1).symm
        unfold q_app m_ap
        rw [if_neg hlo, hn, Nat.add_sub_cancel, hlen]
        by_cases e : l = 16
        · rw [if_pos e, if_pos e, wi_v]; rfl
        · rw [if_neg e, if_neg e, wi_n (by decide), wi_n (by decide), h53]
    · intro hlo'
      by_cases hlo : q_lo Q = true
      · have : q_lo (q_app a Q) = true := by unfold q_app; rw [if_pos hlo]; exact hlo
        rw [this] at hlo'; cases hlo'
      · have hlf : q_lo Q = false := by cases hx : q_lo Q <;> simp_all
        obtain ⟨c1, c2, c3, c4⟩ := hE hlf
        have hn : Q.1 = k + 1 := by
          rw [b2] at c1
          exact ((nI_eq (by omega) (by have := okq.1; omega)).mp c1).symm
        obtain ⟨d1, d2, d3⟩ := c4 k (by omega)
        have hlen : q_len Q k = l := by
          rw [hl2] at d1
          exact ((nI_eq (by omega) (by have := okq.2.2.1 k (by omega); omega)).mp d1).symm
        unfold q_app at hlo' ⊢
        unfold m_ap
        rw [if_neg hlo, hn, Nat.add_sub_cancel, hlen] at hlo' ⊢
        by_cases e : l = 16
        · rw [if_pos e] at hlo'; cases hlo'
        · rw [if_neg e, if_neg e]
          refine ⟨?_, ?_, ?_, fun j hj => ?_⟩
          · rw [wi_n (by decide), wi_n (by decide)]; exact b2
          · rw [wi_n (by decide), wi_n (by decide)]; exact c2
          · rw [wi_n (by decide), wi_n (by decide)]; exact c3
          · dsimp only [q_len, q_sg, q_br, q_in, q_co, q_lo] at hj ⊢
            obtain ⟨f1, f2, f3⟩ := c4 j (by omega)
            by_cases ej : j = k
            · subst ej
              simp only [q_ue]
              refine ⟨wi_v _ _ _ _, ?_, fun i hi => ?_⟩
              · rw [wi_n (by decide), wi_n (by decide)]; exact f2
              · rw [wi_n (by decide), wi_at, if_pos rfl]
                by_cases ei : i = l
                · rw [if_pos (by omega), ei, q_ue]
                · rw [if_neg (by omega), q_un ei]; exact f3 i (by omega)
            · simp only [q_un ej]
              have := okq.2.2.1 j (by omega)
              refine ⟨?_, ?_, fun i hi => ?_⟩
              · rw [wi_s ej, wi_n (by decide)]; exact f1
              · rw [wi_n (by decide), wi_n (by decide)]; exact f2
              · rw [wi_n (by decide), wi_at, if_pos rfl, if_neg (by have hi' : i < q_len Q j := hi; omega)]; exact f3 i hi
    · unfold m_ap
      split
      · exact m_same_56 (m_same_rfl U) (by omega)
      · exact m_same_6x (m_same_6x (m_same_rfl U) (by omega)) (by omega)
  · rw [if_neg hw, b2i_f hw, b_X12_take_34, if_pos rfl]
    obtain ⟨⟨n', b1, b2, b3, b4⟩, h53, hE⟩ := h
    have gen : ∀ v : Int32, (q_lo P = false → v = b2i ((q_co P || decide (a = 44)) = true)) → q_m (P.1, q_len P, q_sg P, q_br P, false, q_co P || decide (a = 44), q_lo P) (a_wi (a_wi T 56 51 0) 56 52 v) ∧ m_same T (a_wi (a_wi T 56 51 0) 56 52 v) := by
      intro v hv
      refine ⟨⟨⟨n', b1, ?_, fun q => ?_, fun k hk => ?_⟩, ?_, fun hq => ?_⟩, m_same_56 (m_same_56 (m_same_rfl T) (by omega)) (by omega)⟩
      · rw [wi_s (by decide), wi_s (by decide)]; exact b2
      · rw [wi_s (by decide), wi_v] at q; exact absurd rfl q
      · rw [wi_n (by decide), wi_n (by decide)]; exact b4 k hk
      · rw [wi_s (by decide), wi_s (by decide)]; exact h53
      · obtain ⟨c1, c2, c3, c4⟩ := hE hq
        refine ⟨?_, ?_, ?_, fun k hk => ?_⟩
        · rw [wi_s (by decide), wi_s (by decide)]; exact c1
        · rw [wi_s (by decide), wi_v]; rfl
        · rw [wi_v]; exact hv hq
        · have e : ∀ c, c ≠ 56 → (a_wi (a_wi T 56 51 0) 56 52 v).1 c = T.1 c := fun c hc => by rw [wi_n hc, wi_n hc]
          rw [e 61 (by decide), e 62 (by decide), e 63 (by decide)]
          exact c4 k hk
    by_cases h52 : T.1 56 52 = 0
    · rw [if_pos h52]
      have hco : q_lo P = false → q_co P = false := fun hq => b2i_b0 ((hE hq).2.2.1.symm.trans h52)
      by_cases h44 : a = 44
      · rw [if_pos h44]
        exact ⟨_, rfl, gen 1 (fun hq => by rw [hco hq]; simp [b2i, h44])⟩
      · rw [if_neg h44]
        exact ⟨_, rfl, gen 0 (fun hq => by rw [hco hq]; simp [b2i, h44])⟩
    · rw [if_neg h52]
      exact ⟨_, rfl, gen 1 (fun hq => by have hc : q_co P = true := b2i_b1 (by rw [← (hE hq).2.2.1]; exact h52); rw [hc]; simp [b2i])⟩
