/-! ===== the reference lays all ===== -/
def srec (x : Nat) (B T : a_M) : Prop := T.1 86 x = B.1 86 x ∧ T.1 87 x = B.1 87 x ∧ T.1 88 x = B.1 88 x ∧ T.1 89 x = B.1 89 x ∧ T.1 90 x = B.1 90 x ∧ T.1 92 x = B.1 92 x ∧ T.1 93 x = B.1 93 x ∧ T.1 94 x = B.1 94 x ∧ (∀ i, i < 5 → T.1 85 (5 * x + i) = B.1 85 (5 * x + i)) ∧ ∀ i, i < 4 → T.1 91 (4 * x + i) = B.1 91 (4 * x + i)
theorem srec_tr {x : Nat} {A B C : a_M} (h1 : srec x A B) (h2 : srec x B C) : srec x A C := by
  obtain ⟨a1, a2, a3, a4, a5, a6, a7, a8, a9, a10⟩ := h1
  obtain ⟨b1, b2, b3, b4, b5, b6, b7, b8, b9, b10⟩ := h2
  exact ⟨b1.trans a1, b2.trans a2, b3.trans a3, b4.trans a4, b5.trans a5, b6.trans a6, b7.trans a7, b8.trans a8, fun i hi => (b9 i hi).trans (a9 i hi), fun i hi => (b10 i hi).trans (a10 i hi)⟩
theorem srec_R {x : Nat} {f : Nat → Int32} {B T : a_M} (h : srec x B T) (hr : recR x f B) : recR x f T := by
  obtain ⟨b1, b2, b3, b4, b5, b6, b7, b8, b9, b10⟩ := h
  obtain ⟨c1, c2, c3, c4, c5, c6, c7, c8, c9⟩ := hr
  exact ⟨fun i hi => (b9 i hi).trans (c1 i hi), b1.trans c2, b2.trans c3, b3.trans c4, b4.trans c5, b5.trans c6, b6.trans c7, b7.trans c8, fun i hi => by rw [b10 i hi]; exact c9 i hi⟩
/-- kept aside: only these may differ -/
def c99 (S T : a_M) : Prop := (∀ c, c ≠ 99 → c ≠ 100 → c ≠ 101 → T.1 c = S.1 c) ∧ T.2 = S.2
theorem X12_keepNewest {g : Nat → Int32} {S : a_M} (hg : recR 39 g S) (h01 : ∀ i, i < 5 → g i = 0 ∨ g i = 1) : ∃ T', x_X12_keepNewest [.ref 56, .int 39] S = some (none, T') ∧ c99 S T' ∧ recN g T' ∧ (∀ i, i < 5 → T'.1 100 i = g i) ∧ ∀ i, i < 4 → T'.1 99 i = S.1 91 (156 + i) := by
  obtain ⟨f1, f5, f6, f7, f8, f9, f10, f11, f13⟩ := hg
  have n39 : ¬ ((39 : Int32) < 0 ∨ 40 ≤ (39 : Int32).toNatClampNeg) := by decide
  have c39 : (39 : Int32).toNatClampNeg = 39 := by decide
  have lp4 : ∀ e i T1, i + e = 4 → c99 S T1 → (T1.1 101 0 = g 5 ∧ T1.1 101 1 = g 6 ∧ T1.1 101 2 = g 7 ∧ T1.1 101 3 = g 8 ∧ T1.1 101 4 = g 9 ∧ T1.1 101 5 = g 10 ∧ T1.1 101 6 = g 11) → (∀ j, j < 5 → T1.1 100 j = g j) → (∀ j, j < i → T1.1 99 j = S.1 91 (156 + j)) →
      ∃ T', g_X12_keepNewest 116 [.ref 56, .int 39, .int (nI i)] [] T1 = some (none, T') ∧ c99 S T' ∧ recN g T' ∧ (∀ i, i < 5 → T'.1 100 i = g i) ∧ ∀ i, i < 4 → T'.1 99 i = S.1 91 (156 + i) := by
    intro e
    induction e with
    | zero =>
      intro i T1 h1 h2 h3 h4 h5
      obtain rfl : i = 4 := by omega
      obtain ⟨l1, l2, l3, l4, l5, l6, l7⟩ := h3
      rw [b_X12_keepNewest_116, if_neg (show ¬ nI 4 < 4 by decide)]
      exact ⟨T1, rfl, h2, ⟨l1, l2, l3, l4, l5, l6, l7, fun i hi => by rw [h5 i hi]; exact f13 i hi⟩, h4, h5⟩
    | succ e ih =>
      intro i T1 h1 h2 h3 h4 h5
      have e1 : (4 : Int32) * 39 + nI i = nI (156 + i) := nI_add 156 i
      rw [b_X12_keepNewest_116, if_pos (show nI i < 4 from nI_lt (b := 4) (by omega) (by decide)), e1, if_neg (nI_out (by omega) (by decide)), if_neg (nI_out (by omega) (by decide)), nI_clamp (by omega), nI_clamp (by omega), nI_1, h2.1 91 (by decide) (by decide) (by decide)]
      refine ih (i + 1) _ (by omega) ⟨fun c a b c' => (wi_n a).trans (h2.1 c a b c'), h2.2⟩ (by simp (disch := decide) only [wi_n]; exact h3) (fun j hj => by rw [wi_n (by decide)]; exact h4 j hj) (fun j hj => ?_)
      by_cases hji : j = i
      · subst hji; rw [wi_v]
      · rw [wi_s (by omega)]; exact h5 j (by omega)
  have lp5 : ∀ e i T1, i + e = 5 → c99 S T1 → (T1.1 101 0 = g 5 ∧ T1.1 101 1 = g 6 ∧ T1.1 101 2 = g 7 ∧ T1.1 101 3 = g 8 ∧ T1.1 101 4 = g 9 ∧ T1.1 101 5 = g 10 ∧ T1.1 101 6 = g 11) → (∀ j, j < i → T1.1 100 j = g j) →
      ∃ T', g_X12_keepNewest 87 [.ref 56, .int 39, .int (nI i)] [] T1 = some (none, T') ∧ c99 S T' ∧ recN g T' ∧ (∀ i, i < 5 → T'.1 100 i = g i) ∧ ∀ i, i < 4 → T'.1 99 i = S.1 91 (156 + i) := by
    intro e
    induction e with
    | zero =>
      intro i T1 h1 h2 h3 h4
      obtain rfl : i = 5 := by omega
      rw [b_X12_keepNewest_87, if_neg (show ¬ nI 5 < 5 by decide)]
      have := lp4 4 0 T1 rfl h2 h3 h4 (fun j hj => absurd hj (Nat.not_lt_zero _))
      rw [nI_0] at this
      exact this
    | succ e ih =>
      intro i T1 h1 h2 h3 h4
      have e1 : (5 : Int32) * 39 + nI i = nI (195 + i) := nI_add 195 i
      rw [b_X12_keepNewest_87, if_pos (show nI i < 5 from nI_lt (b := 5) (by omega) (by decide)), e1, if_neg (nI_out (by omega) (by decide)), if_neg (nI_out (by omega) (by decide)), nI_clamp (by omega), nI_clamp (by omega), nI_1, h2.1 85 (by decide) (by decide) (by decide)]
      have ev : vp_nar .boolean (S.1 85 (195 + i)) = g i := by
        have := f1 i (by omega)
        rw [show 5 * 39 + i = 195 + i from rfl] at this
        rw [this]
        rcases h01 i (by omega) with q | q <;> rw [q] <;> rfl
      rw [ev]
      refine ih (i + 1) _ (by omega) ⟨fun c a b c' => (wi_n b).trans (h2.1 c a b c'), h2.2⟩ (by simp (disch := decide) only [wi_n]; exact h3) (fun j hj => ?_)
      by_cases hji : j = i
      · subst hji; rw [wi_v]
      · rw [wi_s (by omega)]; exact h4 j (by omega)
  rw [e_X12_keepNewest, if_neg n39, if_neg n39, if_neg n39, if_neg n39, if_neg n39, if_neg n39, if_neg n39, c39]
  have := lp5 5 0 (a_wi (a_wi (a_wi (a_wi (a_wi (a_wi (a_wi S 101 0 (S.1 86 39)) 101 1 (S.1 87 39)) 101 2 (S.1 88 39)) 101 3 (S.1 89 39)) 101 4 (S.1 90 39)) 101 5 (S.1 92 39)) 101 6 (S.1 93 39)) rfl
    ⟨fun c _ _ a => by simp only [wi_n a], rfl⟩ (by simp (disch := decide) only [wi_v, wi_s]; exact ⟨f5, f6, f7, f8, f9, f10, f11⟩) (fun j hj => absurd hj (Nat.not_lt_zero _))
  rw [nI_0] at this
  exact this
/-- what all calls of layAll leave -/
def cdz (B T : a_M) : Prop := (∀ c, c ≠ 56 → c ≠ 95 → c < 85 ∨ (94 < c ∧ c < 99) → T.1 c = B.1 c) ∧ (∀ j, j ≠ 55 → j ≠ 40 → T.1 56 j = B.1 56 j) ∧ T.2 = B.2
theorem X12_putBack {g : Nat → Int32} {S T : a_M} (hS : recR 39 g S) (h01 : ∀ i, i < 5 → g i = 0 ∨ g i = 1) (hN : recN g T) (h100 : ∀ i, i < 5 → T.1 100 i = g i) (h99 : ∀ i, i < 4 → T.1 99 i = S.1 91 (156 + i)) :
    ∃ T', x_X12_putBack [.ref 56, .int 39, .int (S.1 94 39)] T = some (none, T') ∧ cd 39 T T' ∧ srec 39 S T' := by
  obtain ⟨f1, f5, f6, f7, f8, f9, f10, f11, f13⟩ := hS
  obtain ⟨g5, g6, g7, g8, g9, g10, g11, g13⟩ := hN
  have n39 : ¬ ((39 : Int32) < 0 ∨ 40 ≤ (39 : Int32).toNatClampNeg) := by decide
  have c39 : (39 : Int32).toNatClampNeg = 39 := by decide
  have base : ∀ T1, cd 39 T T1 → (T1.1 86 39 = S.1 86 39 ∧ T1.1 87 39 = S.1 87 39 ∧ T1.1 88 39 = S.1 88 39 ∧ T1.1 89 39 = S.1 89 39 ∧ T1.1 90 39 = S.1 90 39 ∧ T1.1 92 39 = S.1 92 39 ∧ T1.1 93 39 = S.1 93 39) → (∀ j, j < 5 → T1.1 85 (195 + j) = g j) → ∀ e i T2, i + e = 4 → cd 39 T T2 → (∀ c, c ≠ 91 → T2.1 c = T1.1 c) → (∀ j, j < i → T2.1 91 (156 + j) = S.1 91 (156 + j)) →
      ∃ T', g_X12_putBack 116 [.ref 56, .int 39, .int (S.1 94 39), .int (nI i)] [] T2 = some (none, T') ∧ cd 39 T T' ∧ srec 39 S T' := by
    intro T1 a1 a2 a3 e
    induction e with
    | zero =>
      intro i T2 h1 h2 h3 h4
      obtain rfl : i = 4 := by omega
      obtain ⟨l1, l2, l3, l4, l5, l6, l7⟩ := a2
      rw [b_X12_putBack_116, if_neg (show ¬ nI 4 < 4 by decide), if_neg n39, c39]
      refine ⟨_, rfl, cd_tr h2 (cd_1 _ _ (by decide)), ⟨?_, ?_, ?_, ?_, ?_, ?_, ?_, wi_v _ _ _ _, fun i hi => ?_, fun i hi => ?_⟩⟩
      · rw [wi_n (by decide), h3 86 (by decide)]; exact l1
      · rw [wi_n (by decide), h3 87 (by decide)]; exact l2
      · rw [wi_n (by decide), h3 88 (by decide)]; exact l3
      · rw [wi_n (by decide), h3 89 (by decide)]; exact l4
      · rw [wi_n (by decide), h3 90 (by decide)]; exact l5
      · rw [wi_n (by decide), h3 92 (by decide)]; exact l6
      · rw [wi_n (by decide), h3 93 (by decide)]; exact l7
      · rw [wi_n (by decide), h3 85 (by decide), f1 i hi]; exact a3 i hi
      · rw [wi_n (by decide)]; exact h4 i hi
    | succ e ih =>
      intro i T2 h1 h2 h3 h4
      have e1 : (4 : Int32) * 39 + nI i = nI (156 + i) := nI_add 156 i
      rw [b_X12_putBack_116, if_pos (show nI i < 4 from nI_lt (b := 4) (by omega) (by decide)), e1, if_neg (nI_out (by omega) (by decide)), if_neg (nI_out (by omega) (by decide)), nI_clamp (by omega), nI_clamp (by omega), nI_1, h2.1 99 (by decide) (by decide) (by decide), h99 i (by omega)]
      refine ih (i + 1) _ (by omega) (cd_tr h2 (cd_91 (d := 39) (i := i) _ _ (by omega))) (fun c a => (wi_n a).trans (h3 c a)) (fun j hj => ?_)
      by_cases hji : j = i
      · subst hji; exact wi_v _ _ _ _
      · rw [wi_s (by omega)]; exact h4 j (by omega)
  have lp5 : ∀ e i T1, i + e = 5 → cd 39 T T1 → (T1.1 86 39 = S.1 86 39 ∧ T1.1 87 39 = S.1 87 39 ∧ T1.1 88 39 = S.1 88 39 ∧ T1.1 89 39 = S.1 89 39 ∧ T1.1 90 39 = S.1 90 39 ∧ T1.1 92 39 = S.1 92 39 ∧ T1.1 93 39 = S.1 93 39) → (∀ j, j < i → T1.1 85 (195 + j) = g j) →
      ∃ T', g_X12_putBack 87 [.ref 56, .int 39, .int (S.1 94 39), .int (nI i)] [] T1 = some (none, T') ∧ cd 39 T T' ∧ srec 39 S T' := by
    intro e
    induction e with
    | zero =>
      intro i T1 h1 h2 h3 h4
      obtain rfl : i = 5 := by omega
      rw [b_X12_putBack_87, if_neg (show ¬ nI 5 < 5 by decide)]
      have := base T1 h2 h3 h4 4 0 T1 rfl h2 (fun _ _ => rfl) (fun j hj => absurd hj (Nat.not_lt_zero _))
      rw [nI_0] at this
      exact this
    | succ e ih =>
      intro i T1 h1 h2 h3 h4
      have e1 : (5 : Int32) * 39 + nI i = nI (195 + i) := nI_add 195 i
      have ev : vp_nar .boolean (g i) = g i := by rcases h01 i (by omega) with q | q <;> rw [q] <;> rfl
      rw [b_X12_putBack_87, if_pos (show nI i < 5 from nI_lt (b := 5) (by omega) (by decide)), e1, if_neg (nI_out (by omega) (by decide)), if_neg (nI_out (by omega) (by decide)), nI_clamp (by omega), nI_clamp (by omega), nI_1, h2.1 100 (by decide) (by decide) (by decide), h100 i (by omega), ev]
      refine ih (i + 1) _ (by omega) (cd_tr h2 (cd_85 (d := 39) (i := i) _ _ (by omega))) (by simp (disch := decide) only [wi_n]; exact h3) (fun j hj => ?_)
      by_cases hji : j = i
      · subst hji; exact wi_v _ _ _ _
      · rw [wi_s (by omega)]; exact h4 j (by omega)
  rw [e_X12_putBack, if_neg n39, if_neg n39, if_neg n39, if_neg n39, if_neg n39, if_neg n39, if_neg n39, c39]
  have C : ∀ (B : a_M) (c : Nat) (v : Int32), c = 86 ∨ c = 87 ∨ c = 88 ∨ c = 89 ∨ c = 90 ∨ c = 92 ∨ c = 93 ∨ c = 94 → cd 39 B (a_wi B c 39 v) := fun B c v h => cd_1 B v h
  have := lp5 5 0 (a_wi (a_wi (a_wi (a_wi (a_wi (a_wi (a_wi T 86 39 (T.1 101 0)) 87 39 (T.1 101 1)) 88 39 (T.1 101 2)) 89 39 (T.1 101 3)) 90 39 (T.1 101 4)) 92 39 (T.1 101 5)) 93 39 (T.1 101 6)) rfl
    (cd_tr (C _ _ _ (by decide)) (cd_tr (C _ _ _ (by decide)) (cd_tr (C _ _ _ (by decide)) (cd_tr (C _ _ _ (by decide)) (cd_tr (C _ _ _ (by decide)) (cd_tr (C _ _ _ (by decide)) (C _ _ _ (by decide)))))))) (by
      simp (disch := decide) only [wi_v, wi_n]
      exact ⟨g5.trans f5.symm, g6.trans f6.symm, g7.trans f7.symm, g8.trans f8.symm, g9.trans f9.symm, g10.trans f10.symm, g11.trans f11.symm⟩) (fun j hj => absurd hj (Nat.not_lt_zero _))
  rw [nI_0] at this
  exact this
