/-! ===== rows of the class ===== -/
/-! the cheapest of a row: its cost and its number, or none -/
def brw (f : Nat → Nat) : Nat → Nat × Int32
  | 0 => (1000000, -1)
  | k + 1 => if f k < (brw f k).1 then (f k, nI k) else brw f k
theorem brw_le (f : Nat → Nat) : ∀ k, (brw f k).1 ≤ 1000000 := by
  intro k
  induction k with
  | zero => exact Nat.le_refl _
  | succ k ih =>
    show (if f k < (brw f k).1 then (f k, nI k) else brw f k).1 ≤ _
    by_cases h : f k < (brw f k).1
    · rw [if_pos h]; show f k ≤ _; omega
    · rw [if_neg h]; exact ih
/-- among the names of number k the first i are done -/
def ent (P : q_P) (B : a_M) (H : Nat) (town : Bool) (s L k i : Nat) : Nat × Int32 :=
  if mnf (fun i => nc P B H (wname B town k i) L s 0) i < (brw (fun k => fcost P B H town k L s) k).1 then (mnf (fun i => nc P B H (wname B town k i) L s 0) i, nI k) else brw (fun k => fcost P B H town k L s) k
theorem ent_0 (P : q_P) (B : a_M) (H : Nat) (town : Bool) (s L k : Nat) : ent P B H town s L k 0 = brw (fun k => fcost P B H town k L s) k := by
  unfold ent
  rw [if_neg]
  have := brw_le (fun k => fcost P B H town k L s) k
  show ¬ 1000000 < _
  omega
theorem ent_s (P : q_P) (B : a_M) (H : Nat) (town : Bool) (s L k i : Nat) : ent P B H town s L k (i + 1) = if nc P B H (wname B town k i) L s 0 < (ent P B H town s L k i).1 then (nc P B H (wname B town k i) L s 0, nI k) else ent P B H town s L k i := by
  unfold ent
  obtain ⟨b, hb⟩ : ∃ b, b = brw (fun k => fcost P B H town k L s) k := ⟨_, rfl⟩
  obtain ⟨m, hm⟩ : ∃ m, m = mnf (fun i => nc P B H (wname B town k i) L s 0) i := ⟨_, rfl⟩
  obtain ⟨c, hc⟩ : ∃ c, c = nc P B H (wname B town k i) L s 0 := ⟨_, rfl⟩
  have e : mnf (fun i => nc P B H (wname B town k i) L s 0) (i + 1) = min m c := by rw [hm, hc]; rfl
  rw [e, ← hb, ← hm, ← hc]
  by_cases h1 : m < b.1
  · rw [if_pos h1, if_pos (show min m c < b.1 by omega)]
    show _ = if c < m then _ else _
    by_cases h2 : c < m
    · rw [if_pos h2, Nat.min_eq_right (by omega)]
    · rw [if_neg h2, Nat.min_eq_left (by omega)]
  · rw [if_neg h1]
    by_cases h2 : c < b.1
    · rw [if_pos h2, if_pos (show min m c < b.1 by omega), Nat.min_eq_right (by omega)]
    · rw [if_neg h2, if_neg (show ¬ min m c < b.1 by omega)]
theorem ent_e (P : q_P) (B : a_M) (H : Nat) (town : Bool) (s L k : Nat) : ent P B H town s L k (wnum B town k) = ent P B H town s L (k + 1) 0 := by
  rw [ent_0]
  show _ = if fcost P B H town k L s < (brw (fun k => fcost P B H town k L s) k).1 then (fcost P B H town k L s, nI k) else brw (fun k => fcost P B H town k L s) k
  rw [fcost_mnf]
  rfl
theorem ent_le (P : q_P) (B : a_M) (H : Nat) (town : Bool) (s L k i : Nat) : (ent P B H town s L k i).1 ≤ 1000000 := by
  have h1 := brw_le (fun k => fcost P B H town k L s) k
  have h2 := mnf_le (fun i => nc P B H (wname B town k i) L s 0) i
  unfold ent
  by_cases h : mnf (fun i => nc P B H (wname B town k i) L s 0) i < (brw (fun k => fcost P B H town k L s) k).1
  · rw [if_pos h]; exact h2
  · rw [if_neg h]; exact h1
/-- rows of a text, as two arrays have them -/
def rows (n : Nat) (f g : Nat → Int32) (E : Nat → Nat → Nat × Int32) : Prop := ∀ s L, 1 ≤ L → L ≤ 4 → s + L ≤ n → f (s * 4 + L - 1) = nI (E s L).1 ∧ g (s * 4 + L - 1) = (E s L).2
/-- the first L - 1 lengths at start s and all of the starts before have name i too -/
def emx (P : q_P) (B : a_M) (H : Nat) (town : Bool) (k i s L : Nat) (s' L' : Nat) : Nat × Int32 := if s' < s ∨ (s' = s ∧ L' < L) then ent P B H town s' L' k (i + 1) else ent P B H town s' L' k i
/-- but for rows and the walk -/
def c47 (B T : a_M) : Prop := (∀ c, c ≠ 44 → c ≠ 47 → c ≠ 48 → T.1 c = B.1 c) ∧ T.2 = B.2
theorem c47_B {N W : Nat} {B T : a_M} (e : c47 B T) (hB : i_B N W B) : i_B N W T := by
  unfold i_B at hB ⊢
  simp (disch := decide) only [e.1]
  exact hB
theorem c47_H {N H : Nat} {B T : a_M} (e : c47 B T) (hH : i_H N H B) : i_H N H T := by
  unfold i_H at hH ⊢
  simp (disch := decide) only [e.1]
  exact hH
theorem X8_lower46 {P : q_P} {B : a_M} {N W H k i s a : Nat} (hn : P.1 ≤ 14) (hB : i_B N W B) (ha : a < N) (he : wname B false k i = a) (hs : s < P.1) (hk : k < 2 ^ 31) (v : Nat → Nat → Nat) (hv : ∀ L, L ≤ 4 → s + L ≤ P.1 → v L (b_sz B a) = nc P B H a L s 0) :
    ∀ d L T, L + d = 5 → 1 ≤ L → c47 B T → wK T v T → rows P.1 (T.1 47) (T.1 48) (emx P B H false k i s L) →
    ∃ T', g_X8_lower 3 [.ref 46, .int (nI a), .int (nI k), .int (nI s), .ref 41, .int (nI L), .null] [] T = some (none, T') ∧ c47 B T' ∧ rows P.1 (T'.1 47) (T'.1 48) (emx P B H false k i s 5) := by
  have hz4 : b_sz B a ≤ 4 := (hB.2.2.2.2.2.2.1 a ha).2.1
  intro d
  induction d with
  | zero =>
    intro L T h1 h2 h3 h4 h5
    obtain rfl : L = 5 := by omega
    rw [b_X8_lower_46_3, if_pos (show (4 : Int32) < nI 5 by decide)]
    exact ⟨T, rfl, h3, h5⟩
  | succ d ih =>
    intro L T h1 h2 h3 h4 h5
    have hBT := c47_B h3 hB
    have ebT : b_sz T a = b_sz B a := by unfold b_sz; rw [h3.1 16 (by decide) (by decide) (by decide)]
    have hcost := X2_costOf (L := L) hBT ha h4 (by omega)
    rw [ebT] at hcost
    obtain ⟨y1, y2⟩ := h4.2.2 L (b_sz B a) (by omega) hz4
    obtain ⟨c, hc⟩ : ∃ c, c = v L (b_sz B a) := ⟨_, rfl⟩
    rw [← hc] at hcost y1
    rw [b_X8_lower_46_3, if_neg (show ¬ (4 : Int32) < nI L from nI_nlt (a := 4) (by omega) (by decide)), hcost]
    simp only [Option.bind_some, Option.toList_some, List.append_nil, b_X8_lower_46_17]
    rw [e_X8_costOf_46, if_neg (show ¬ nI L < 1 from nI_nlt (b := 1) (by omega) (by omega)), if_neg (show ¬ (4 : Int32) < nI L from nI_nlt (a := 4) (by omega) (by decide)), e_X8_cell]
    have ecell : ((nI s * 4) + nI L) - 1 = nI (s * 4 + L - 1) := by
      rw [show (4 : Int32) = nI 4 from rfl, pk_mul, nI_add, show (1 : Int32) = nI 1 from rfl, pk_sub (by omega)]
    simp only [Option.bind_some, Option.toList_some, List.cons_append, List.nil_append, b_X8_costOf_46_19, ecell, at_47]
    rw [av_nI (by omega) (by decide)]
    simp only [Option.bind_some, Option.toList_some, List.cons_append, List.nil_append, List.append_nil, b_X8_costOf_46_22, b_X8_lower_46_28]
    by_cases hlt : nI c < T.1 47 (s * 4 + L - 1)
    · rw [if_pos hlt, e_X8_cell]
      simp only [Option.bind_some, Option.toList_some, List.cons_append, List.nil_append, ecell, b_X8_lower_46_44, put_47]
      rw [pv_nI (by omega) (by decide)]
      simp only [Option.bind_some, Option.toList_none, List.nil_append, List.append_nil, b_X8_lower_46_49]
      rw [e_X8_cell]
      simp only [Option.bind_some, Option.toList_some, List.cons_append, List.nil_append, ecell, b_X8_lower_46_59, put_48]
      rw [pv_nI (by omega) (by decide)]
      simp only [Option.bind_some, Option.toList_none, List.nil_append, List.append_nil, b_X8_lower_46_63]
      rw [nI_1]
      refine ih (L + 1) _ (by omega) (by omega) ⟨fun c h6 h7 h8 => ?_, ?_⟩ ⟨fun _ _ => rfl, rfl, fun i d h6 h7 => ?_⟩ fun s' L' g1 g2 g3 => ?_
      · rw [wi_n h8, wi_n h7]; exact h3.1 c h6 h7 h8
      · rw [wi_2, wi_2]; exact h3.2
      · rw [wi_n (by decide), wi_n (by decide)]; exact h4.2.2 i d h6 h7
      · rw [wi_n (show 47 ≠ 48 by decide), wi_e, wi_e, wi_n (show 48 ≠ 47 by decide)]
        obtain ⟨f1, f2⟩ := h5 s' L' g1 g2 g3
        by_cases hq : s' = s ∧ L' = L
        · obtain ⟨rfl, rfl⟩ := hq
          rw [up_e, up_e]
          have e1 : emx P B H false k i s' (L' + 1) s' L' = ent P B H false s' L' k (i + 1) := if_pos (Or.inr ⟨rfl, by omega⟩)
          have e2 : emx P B H false k i s' L' s' L' = ent P B H false s' L' k i := if_neg (by omega)
          rw [e2] at f1
          have hle := ent_le P B H false s' L' k i
          rw [f1] at hlt
          rw [e1, ent_s, he, ← hv L' (by omega) g3, ← hc, if_pos ((nI_ltI (by omega) (by omega)).mp hlt)]
          exact ⟨rfl, rfl⟩
        · rw [up_n (by omega), up_n (by omega)]
          have e1 : emx P B H false k i s (L + 1) s' L' = emx P B H false k i s L s' L' := by
            unfold emx
            by_cases hw : s' < s ∨ (s' = s ∧ L' < L)
            · rw [if_pos hw, if_pos (by omega)]
            · rw [if_neg hw, if_neg (by omega)]
          rw [e1]
          exact ⟨f1, f2⟩
    · rw [if_neg hlt, nI_1]
      refine ih (L + 1) _ (by omega) (by omega) h3 h4 fun s' L' g1 g2 g3 => ?_
      obtain ⟨f1, f2⟩ := h5 s' L' g1 g2 g3
      by_cases hq : s' = s ∧ L' = L
      · obtain ⟨rfl, rfl⟩ := hq
        have e1 : emx P B H false k i s' (L' + 1) s' L' = ent P B H false s' L' k (i + 1) := if_pos (Or.inr ⟨rfl, by omega⟩)
        have e2 : emx P B H false k i s' L' s' L' = ent P B H false s' L' k i := if_neg (by omega)
        rw [e2] at f1 f2
        have hle := ent_le P B H false s' L' k i
        rw [f1] at hlt
        rw [e1, ent_s, he, ← hv L' (by omega) g3, ← hc, if_neg (fun q => hlt ((nI_ltI (by omega) (by omega)).mpr q))]
        exact ⟨f1, f2⟩
      · have e1 : emx P B H false k i s (L + 1) s' L' = emx P B H false k i s L s' L' := by
          unfold emx
          by_cases hw : s' < s ∨ (s' = s ∧ L' < L)
          · rw [if_pos hw, if_pos (by omega)]
          · rw [if_neg hw, if_neg (by omega)]
        rw [e1]
        exact ⟨f1, f2⟩
theorem X8_starts46 {P : q_P} {B : a_M} {N W H k i a : Nat} (hn : P.1 ≤ 14) (hc : q_c P B) (hB : i_B N W B) (hH : i_H N H B) (hf : fit P B W B) (ha : a < N) (he : wname B false k i = a) (hk : k < 2 ^ 31) :
    ∀ d s T, s + d = P.1 → c47 B T → rows P.1 (T.1 47) (T.1 48) (emx P B H false k i s 0) →
    ∃ T', g_X8_fill 59 [.ref 46, .int 1, .ref 20, .ref 41, .int (nI P.1), .int (nI k), .int (nI i), .int (nI a), .int (nI s)] [] T = g_X8_fill 33 [.ref 46, .int 1, .ref 20, .ref 41, .int (nI P.1), .int (nI k), .int (nI (i + 1)), .null, .null] [] T' ∧ c47 B T' ∧ rows P.1 (T'.1 47) (T'.1 48) (fun s L => ent P B H false s L k (i + 1)) := by
  intro d
  induction d with
  | zero =>
    intro s T h1 h2 h3
    obtain rfl : s = P.1 := by omega
    rw [b_X8_fill_46_59, if_neg (nI_nlt (Nat.le_refl _) (by omega)), nI_1]
    refine ⟨T, rfl, h2, fun s L g1 g2 g3 => ?_⟩
    have := h3 s L g1 g2 g3
    rw [show emx P B H false k i P.1 0 s L = ent P B H false s L k (i + 1) from if_pos (by omega)] at this
    exact this
  | succ d ih =>
    intro s T h1 h2 h3
    rw [b_X8_fill_46_59, if_pos (nI_lt (by omega) (by omega))]
    have e1 : ∀ c, 13 ≤ c → c ≤ 18 → T.1 c = B.1 c := fun c _ _ => h2.1 c (by omega) (by omega) (by omega)
    have hfT : fit P T W T := by
      refine fit_c (S := B) ?_ e1
      unfold fit at hf ⊢
      rw [h2.1 42 (by decide) (by decide) (by decide), h2.1 43 (by decide) (by decide) (by decide)]
      exact hf
    have hcT : q_c P T := q_c_same hc (fun c g1 g2 => h2.1 c (by omega) (by omega) (by omega))
    obtain ⟨T1, v, f1, f2, f3⟩ := X2_walk (T := T) (s := s) hn hcT (c47_B h2 hB) (c47_H h2 hH) hfT ha (by omega) (fun _ _ => rfl) rfl
    rw [f1]
    simp only [Option.bind_some, Option.toList_none, List.append_nil, b_X8_fill_46_74]
    rw [e_X8_lower_46]
    have ebT : b_sz T a = b_sz B a := by unfold b_sz; rw [h2.1 16 (by decide) (by decide) (by decide)]
    obtain ⟨T2, r1, r2, r3⟩ := X8_lower46 (H := H) (N := N) (W := W) hn hB ha he (show s < P.1 by omega) hk v (fun L g1 g2 => by rw [← ebT, f3 L g1 g2, nc_c e1]) 4 1 T1 rfl (Nat.le_refl _)
      ⟨fun c g1 g2 g3 => (f2.1 c g1).trans (h2.1 c g1 g2 g3), f2.2.1.trans h2.2⟩ ⟨fun _ _ => rfl, rfl, f2.2.2⟩ (by
        rw [f2.1 47 (by decide), f2.1 48 (by decide)]
        intro s' L' g1 g2 g3
        have := h3 s' L' g1 g2 g3
        have e3 : emx P B H false k i s 1 s' L' = emx P B H false k i s 0 s' L' := by
          unfold emx
          by_cases hw : s' < s
          · rw [if_pos (Or.inl hw), if_pos (Or.inl hw)]
          · rw [if_neg (by omega), if_neg (by omega)]
        rw [e3]
        exact this)
    rw [show (1 : Int32) = nI 1 from rfl, r1]
    simp only [Option.bind_some, Option.toList_none, List.append_nil, b_X8_fill_46_85]
    rw [nI_1]
    refine ih (s + 1) T2 (by omega) r2 fun s' L' g1 g2 g3 => ?_
    have := r3 s' L' g1 g2 g3
    have e3 : emx P B H false k i s 5 s' L' = emx P B H false k i (s + 1) 0 s' L' := by
      unfold emx
      by_cases hw : s' < s + 1
      · rw [if_pos (by omega), if_pos (by omega)]
      · rw [if_neg (by omega), if_neg (by omega)]
    rw [← e3]
    exact this
theorem X8_names46 {P : q_P} {B : a_M} {N W H Z TT k : Nat} (hn : P.1 ≤ 14) (hc : q_c P B) (hB : i_B N W B) (hH : i_H N H B) (hZ : i_Z N Z B) (hTT : i_T N TT B) (hf : fit P B W B) (hk : k < (if false = true then TT else Z)) (hk2 : k < 2 ^ 31) (hnum : wnum B false k ≤ 4) :
    ∀ d i T, i + d = wnum B false k → c47 B T → rows P.1 (T.1 47) (T.1 48) (fun s L => ent P B H false s L k i) →
    ∃ T', g_X8_fill 33 [.ref 46, .int 1, .ref 20, .ref 41, .int (nI P.1), .int (nI k), .int (nI i), .null, .null] [] T = g_X8_fill 20 [.ref 46, .int 1, .ref 20, .ref 41, .int (nI P.1), .int (nI (k + 1)), .null, .null, .null] [] T' ∧ c47 B T' ∧ rows P.1 (T'.1 47) (T'.1 48) (fun s L => ent P B H false s L (k + 1) 0) := by
  intro d
  induction d with
  | zero =>
    intro i T h1 h2 h3
    obtain rfl : i = wnum B false k := by omega
    have q : x_X6_namesOf [.ref 20, .int 1, .int (nI k)] T = some (some (.int (nI (wnum B false k))), T) := X6_namesOf (T := T) (town := false) hZ hTT hk (h2.1 22 (by decide) (by decide) (by decide))
    rw [b_X8_fill_46_33, q]
    simp only [Option.bind_some, Option.toList_some, List.cons_append, List.nil_append, b_X8_fill_46_42]
    rw [if_neg (nI_nlt (Nat.le_refl _) (by omega)), nI_1]
    refine ⟨T, rfl, h2, fun s L g1 g2 g3 => ?_⟩
    have := h3 s L g1 g2 g3
    show _ = nI (ent P B H false s L (k + 1) 0).1 ∧ _ = (ent P B H false s L (k + 1) 0).2
    rw [← ent_e]
    exact this
  | succ d ih =>
    intro i T h1 h2 h3
    have hi : i < wnum B false k := by omega
    have q : x_X6_namesOf [.ref 20, .int 1, .int (nI k)] T = some (some (.int (nI (wnum B false k))), T) := X6_namesOf (T := T) (town := false) hZ hTT hk (h2.1 22 (by decide) (by decide) (by decide))
    obtain ⟨n1, n2⟩ := X6_nameOf (T := T) hZ hTT hk hi (h2.1 21 (by decide) (by decide) (by decide)) (h2.1 23 (by decide) (by decide) (by decide))
    rw [show wpart false = 1 from rfl] at n1
    rw [b_X8_fill_46_33, q]
    simp only [Option.bind_some, Option.toList_some, List.cons_append, List.nil_append, b_X8_fill_46_42]
    rw [if_pos (nI_lt hi (by omega)), n1]
    simp only [Option.bind_some, Option.toList_some, List.append_nil, b_X8_fill_46_54]
    obtain ⟨T1, r1, r2, r3⟩ := X8_starts46 (H := H) hn hc hB hH hf n2 rfl hk2 P.1 0 T (by omega) h2 (by
      intro s' L' g1 g2 g3
      have := h3 s' L' g1 g2 g3
      rw [show emx P B H false k i 0 0 s' L' = ent P B H false s' L' k i from if_neg (by omega)]
      exact this)
    rw [nI_0] at r1
    rw [r1]
    exact ih (i + 1) T1 (by omega) r2 r3
theorem X8_fill46 {P : q_P} {B : a_M} {N W H Z TT : Nat} (hn : P.1 ≤ 14) (hc : q_c P B) (hB : i_B N W B) (hH : i_H N H B) (hZ : i_Z N Z B) (hTT : i_T N TT B) (hf : fit P B W B) :
    ∃ T', x_X8_fill [.ref 46, .int 1, .ref 20, .ref 41, .int (nI P.1)] B = some (none, T') ∧ c47 B T' ∧ rows P.1 (T'.1 47) (T'.1 48) (fun s L => brw (fun k => fcost P B H false k L s) (if false = true then TT else Z)) := by
  obtain ⟨M, hM⟩ : ∃ M, M = (if false = true then TT else Z) := ⟨_, rfl⟩
  have hM100 : M < 2 ^ 20 := by rw [hM]; exact Nat.lt_of_le_of_lt hZ.1 (by decide)
  have key : ∀ d k T, k + d = M → c47 B T → rows P.1 (T.1 47) (T.1 48) (fun s L => ent P B H false s L k 0) →
      ∃ T', g_X8_fill 20 [.ref 46, .int 1, .ref 20, .ref 41, .int (nI P.1), .int (nI k), .null, .null, .null] [] T = some (none, T') ∧ c47 B T' ∧ rows P.1 (T'.1 47) (T'.1 48) (fun s L => ent P B H false s L M 0) := by
    intro d
    induction d with
    | zero =>
      intro k T h1 h2 h3
      obtain rfl : k = M := by omega
      have q : x_X6_sizeOf [.ref 20, .int 1] T = some (some (.int (nI k)), T) := by
        rw [e_X6_sizeOf]
        rw [if_pos rfl, h2.1 20 (by decide) (by decide) (by decide), hZ.2.1, hM]; rfl
      rw [b_X8_fill_46_20, q]
      simp only [Option.bind_some, Option.toList_some, List.cons_append, List.nil_append, b_X8_fill_46_27]
      rw [if_neg (nI_nlt (Nat.le_refl _) (by omega))]
      exact ⟨T, rfl, h2, h3⟩
    | succ d ih =>
      intro k T h1 h2 h3
      have q : x_X6_sizeOf [.ref 20, .int 1] T = some (some (.int (nI M)), T) := by
        rw [e_X6_sizeOf]
        rw [if_pos rfl, h2.1 20 (by decide) (by decide) (by decide), hZ.2.1, hM]; rfl
      rw [b_X8_fill_46_20, q]
      simp only [Option.bind_some, Option.toList_some, List.cons_append, List.nil_append, b_X8_fill_46_27]
      rw [if_pos (nI_lt (by omega) (by omega))]
      have hk : k < (if false = true then TT else Z) := by rw [← hM]; omega
      obtain ⟨T1, r1, r2, r3⟩ := X8_names46 (H := H) hn hc hB hH hZ hTT hf hk (by omega) (hZ.2.2.2.2.2.1 k hk).2.1 _ 0 T (Nat.zero_add _) h2 h3
      rw [nI_0] at r1
      rw [r1]
      exact ih (k + 1) T1 (by omega) r2 r3
  rw [← hM, e_X8_fill_46, fill_47]
  simp only [Option.bind_some, Option.toList_none, List.append_nil, b_X8_fill_46_9]
  rw [fill_48]
  simp only [Option.bind_some, Option.toList_none, List.append_nil, b_X8_fill_46_17]
  obtain ⟨T1, r1, r2, r3⟩ := key M 0 (fv (fv B 47 56 1000000) 48 56 (-1)) (Nat.zero_add _) ⟨fun c h1 h2 h3 => by rw [fv_n h3, fv_n h2], rfl⟩ (by
    intro s L g1 g2 g3
    rw [fv_e, fv_n (by decide), fv_e]
    dsimp only
    rw [if_pos (by omega), if_pos (by omega), ent_0]
    exact ⟨rfl, rfl⟩)
  rw [nI_0] at r1
  rw [r1]
  refine ⟨T1, rfl, r2, fun s L g1 g2 g3 => ?_⟩
  have := r3 s L g1 g2 g3
  show _ = nI (brw (fun k => fcost P B H false k L s) M).1 ∧ _ = (brw (fun k => fcost P B H false k L s) M).2
  rw [← ent_0]
  exact this
