/-! ===== the reference's offer ===== -/
def cellM (n : Nat) (T : a_M) (k p : Nat) (w : Wy) : Prop := T.1 96 (6 * k + p) = nI w.1 ∧ T.1 97 (6 * k + p) = w.2.2 ∧ (w.1 < 1000000 → ∀ j, k ≤ j → j < n → T.1 98 (14 * (6 * k + p) + j) = nI (w.2.1 j))
def cf (B T : a_M) : Prop := (∀ c, c ≠ 56 → c ≠ 95 → c ≠ 96 → c ≠ 97 → c ≠ 98 → T.1 c = B.1 c) ∧ (∀ j, j ≠ 55 → T.1 56 j = B.1 56 j) ∧ T.2 = B.2
def cfm (q : Nat) (B T : a_M) : Prop := cf B T ∧ ∀ x, x ≠ q → T.1 96 x = B.1 96 x ∧ T.1 97 x = B.1 97 x ∧ ∀ j, j < 14 → T.1 98 (14 * x + j) = B.1 98 (14 * x + j)
theorem cf_rfl (B : a_M) : cf B B := ⟨fun _ _ _ _ _ _ => rfl, fun _ _ => rfl, rfl⟩
theorem cf_tr {A B C : a_M} (h1 : cf A B) (h2 : cf B C) : cf A C :=
  ⟨fun c a b d e f => (h2.1 c a b d e f).trans (h1.1 c a b d e f), fun j a => (h2.2.1 j a).trans (h1.2.1 j a), h2.2.2.trans h1.2.2⟩
theorem cfm_rfl (q : Nat) (B : a_M) : cfm q B B := ⟨cf_rfl B, fun _ _ => ⟨rfl, rfl, fun _ _ => rfl⟩⟩
theorem cfm_tr {q : Nat} {A B C : a_M} (h1 : cfm q A B) (h2 : cfm q B C) : cfm q A C :=
  ⟨cf_tr h1.1 h2.1, fun x hx => ⟨(h2.2 x hx).1.trans (h1.2 x hx).1, (h2.2 x hx).2.1.trans (h1.2 x hx).2.1, fun j hj => ((h2.2 x hx).2.2 j hj).trans ((h1.2 x hx).2.2 j hj)⟩⟩
theorem cfm_row {q : Nat} {A B : a_M} (h : crow A B) : cfm q A B :=
  ⟨⟨fun c a b _ _ _ => h.1 c a b, h.2.1, h.2.2⟩, fun x _ => ⟨by rw [h.1 96 (by decide) (by decide)], by rw [h.1 97 (by decide) (by decide)], fun j _ => by rw [h.1 98 (by decide) (by decide)]⟩⟩
theorem cellM_f {q n k p : Nat} {B T : a_M} {w : Wy} (hn : n ≤ 14) (h : cfm q B T) (hq : 6 * k + p ≠ q) (hc : cellM n B k p w) : cellM n T k p w := by
  obtain ⟨a, b, c⟩ := h.2 _ hq
  exact ⟨a.trans hc.1, b.trans hc.2.1, fun g j g1 g2 => (c j (by omega)).trans (hc.2.2 g j g1 g2)⟩
theorem cellM_row {n k p : Nat} {B T : a_M} {w : Wy} (h : crow B T) (hc : cellM n B k p w) : cellM n T k p w := by
  unfold cellM at hc ⊢
  rw [h.1 96 (by decide) (by decide), h.1 97 (by decide) (by decide), h.1 98 (by decide) (by decide)]
  exact hc
theorem X12_offer {n k p fr c L mark : Nat} {r old : Wy} {take : Int32} {T : a_M} (hn : n ≤ 14) (h6 : T.1 56 6 = nI n) (hk : k + L ≤ n) (hp : p ≤ 5) (hfr : fr < 90) (hne : fr ≠ 6 * k + p) (hc1 : r.1 < 1000000 ∨ 1 ≤ c) (hc : c ≤ 20) (hm : mark ≤ 5)
    (ho : cellM n T k p old) (ho1 : old.1 ≤ 1000000) (ho2 : old.1 < 1000000 → old.1 ≤ 1000 ∧ ∀ j, k ≤ j → j < n → old.2.1 j ≤ 5) (hr1 : r.1 ≤ 1000000)
    (hr : r.1 < 1000000 → r.1 ≤ 200 ∧ (∀ j, k + L ≤ j → j < n → r.2.1 j ≤ 5) ∧ ∀ j, k + L ≤ j → j < n → T.1 98 (14 * fr + j) = nI (r.2.1 j)) :
    ∃ T', x_X12_offer [.ref 56, .int (nI (6 * k + p)), .int (nI k), .int (nI (c + r.1)), .int take, .int (nI L), .int (nI mark), .int (nI fr)] T = some (none, T') ∧ cellM n T' k p (off n k old (gen r c k L mark take)) ∧ cfm (6 * k + p) T T' := by
  obtain ⟨q, hq⟩ : ∃ q, q = 6 * k + p := ⟨_, rfl⟩
  have hq90 : q < 90 := by omega
  have o1 : T.1 96 q = nI old.1 := by rw [hq]; exact ho.1
  have nq : ¬ (nI q < 0 ∨ 90 ≤ (nI q).toNatClampNeg) := nI_out (by omega) (by decide)
  have cq : (nI q).toNatClampNeg = q := nI_clamp (by omega)
  rw [← hq]
  rw [e_X12_offer, if_neg nq, cq, o1]
  by_cases hrf : r.1 < 1000000
  · obtain ⟨r1, r2, r3⟩ := hr hrf
    have eg : gen r c k L mark take = (c + r.1, fun j => if j < k + L then mark else r.2.1 j, take) := if_pos hrf
    obtain ⟨nw, hnw⟩ : ∃ nw : Nat → Nat, nw = fun j => if j < k + L then mark else r.2.1 j := ⟨_, rfl⟩
    rw [← hnw] at eg
    have hn5 : ∀ j, k ≤ j → j < n → nw j ≤ 5 := by
      intro j a b
      rw [hnw]
      show (if j < k + L then mark else _) ≤ 5
      by_cases hj : j < k + L
      · rw [if_pos hj]; exact hm
      · rw [if_neg hj]; exact r2 j (by omega) b
    obtain ⟨eN, eNl⟩ := enc_lt (w := (c + r.1, nw, take)) (k := k) hn (by omega) (show c + r.1 < 1000000 by omega) (show c + r.1 ≤ 1000 by omega) hn5
    have msn := e_ms_lt (w := nw) (n - k) k (fun j a b => by have := hn5 j a (by omega); omega)
    have p8 : 8 ^ (n - k) ≤ 8 ^ 14 := Nat.pow_le_pow_right (by decide) (by omega)
    rw [eg]
    -- what writing does
    have wr : ∃ T', g_X12_offer 97 [.ref 56, .int (nI q), .int (nI k), .int (nI (c + r.1)), .int take, .int (nI L), .int (nI mark), .int (nI fr), .int (-1), .null, .null] [] T = some (none, T') ∧ cellM n T' k p (c + r.1, nw, take) ∧ cfm q T T' := by
      rw [b_X12_offer_97, if_pos (by decide), if_neg nq, if_neg nq, cq]
      have loop : ∀ d j T1, j + d = n → k ≤ j → cfm q T T1 → T1.1 96 q = nI (c + r.1) → T1.1 97 q = take → (∀ i, k ≤ i → i < j → T1.1 98 (14 * q + i) = nI (nw i)) →
          ∃ T', g_X12_offer 121 [.ref 56, .int (nI q), .int (nI k), .null, .null, .int (nI L), .int (nI mark), .int (nI fr), .null, .int (nI j), .null] [] T1 = some (none, T') ∧ cellM n T' k p (c + r.1, nw, take) ∧ cfm q T T' := by
        intro d
        induction d with
        | zero =>
          intro j T1 h1 h2 h3 h4 h5 h7
          obtain rfl : j = n := by omega
          rw [b_X12_offer_121, h3.1.2.1 6 (by decide), h6, if_neg (nI_nlt (Nat.le_refl _) (by omega))]
          refine ⟨T1, rfl, ⟨by rw [← hq]; exact h4, by rw [← hq]; exact h5, fun _ i a b => by rw [← hq]; exact h7 i a b⟩, h3⟩
        | succ d ih =>
          intro j T1 h1 h2 h3 h4 h5 h7
          have e1 : (14 : Int32) * nI q + nI j = nI (14 * q + j) := by rw [show (14 : Int32) = nI 14 from rfl, pk_mul, nI_add]
          have e2 : (14 : Int32) * nI fr + nI j = nI (14 * fr + j) := by rw [show (14 : Int32) = nI 14 from rfl, pk_mul, nI_add]
          have fin : ∀ v, v = nI (nw j) → ∃ T', g_X12_offer 121 [.ref 56, .int (nI q), .int (nI k), .null, .null, .int (nI L), .int (nI mark), .int (nI fr), .null, .int (nI (j + 1)), .null] [] (a_wi T1 98 (14 * q + j) v) = some (none, T') ∧ cellM n T' k p (c + r.1, nw, take) ∧ cfm q T T' := by
            intro v hv
            refine ih (j + 1) _ (by omega) (by omega) (cfm_tr h3 ⟨⟨fun c _ _ _ _ a => wi_n a, fun j _ => by rw [wi_n (by decide)], rfl⟩, fun x hx => ⟨by rw [wi_n (by decide)], by rw [wi_n (by decide)], fun i hi => wi_s (by omega)⟩⟩) (by rw [wi_n (by decide)]; exact h4) (by rw [wi_n (by decide)]; exact h5) (fun i a b => ?_)
            by_cases hi : i = j
            · subst hi; rw [wi_v]; exact hv
            · rw [wi_s (by omega)]; exact h7 i a (by omega)
          rw [b_X12_offer_121, h3.1.2.1 6 (by decide), h6, if_pos (nI_lt (by omega) (by omega)), nI_add, e1, e2, if_neg (nI_out (by omega) (by decide)), if_neg (nI_out (by omega) (by decide)), if_neg (nI_out (by omega) (by decide)), nI_clamp (by omega), nI_clamp (by omega), nI_1]
          by_cases hj : j < k + L
          · rw [if_pos (nI_lt hj (by omega))]
            exact fin _ (by rw [hnw]; show nI mark = nI (if j < k + L then mark else _); rw [if_pos hj])
          · rw [if_neg (nI_nlt (by omega) (by omega))]
            refine fin _ ?_
            rw [(h3.2 fr (by omega)).2.2 j (by omega), r3 j (by omega) (by omega), hnw]
            show _ = nI (if j < k + L then mark else _)
            rw [if_neg hj]
      refine loop (n - k) k _ (by omega) (Nat.le_refl _) ⟨⟨fun c _ _ a b _ => by rw [wi_n b, wi_n a], fun j _ => by rw [wi_n (by decide), wi_n (by decide)], rfl⟩, fun x hx => ⟨by rw [wi_n (by decide), wi_s hx], by rw [wi_s hx, wi_n (by decide)], fun i hi => by rw [wi_n (by decide), wi_n (by decide)]⟩⟩ (by rw [wi_n (by decide), wi_v]) (wi_v _ _ _ _) (fun i a b => by omega)
    have p97 : ∀ a : Int32, a < 0 → g_X12_offer 97 [.ref 56, .int (nI q), .int (nI k), .int (nI (c + r.1)), .int take, .int (nI L), .int (nI mark), .int (nI fr), .int a, .null, .null] [] T = g_X12_offer 97 [.ref 56, .int (nI q), .int (nI k), .int (nI (c + r.1)), .int take, .int (nI L), .int (nI mark), .int (nI fr), .int (-1), .null, .null] [] T := by
      intro a ha
      rw [b_X12_offer_97, b_X12_offer_97, if_pos ha, if_pos (show (-1 : Int32) < 0 by decide)]
    have p31 : ∀ (a : Int32) (j : Nat), ¬ a = 0 → g_X12_offer 31 [.ref 56, .int (nI q), .int (nI k), .int (nI (c + r.1)), .int take, .int (nI L), .int (nI mark), .int (nI fr), .int a, .int (nI j), .null] [] T = g_X12_offer 97 [.ref 56, .int (nI q), .int (nI k), .int (nI (c + r.1)), .int take, .int (nI L), .int (nI mark), .int (nI fr), .int a, .null, .null] [] T := by
      intro a j ha
      rw [b_X12_offer_31, if_neg ha]
      split <;> rfl
    by_cases h1 : old.1 < c + r.1
    · rw [if_pos (nI_lt h1 (by omega))]
      obtain ⟨eo, eol⟩ := enc_lt (w := old) (k := k) hn (by omega) (by omega) (ho2 (by omega)).1 (ho2 (by omega)).2
      have mso := e_ms_lt (w := old.2.1) (n - k) k (fun j a b => by have := (ho2 (by omega)).2 j a (by omega); omega)
      have hof : off n k old (c + r.1, nw, take) = old := by
        refine if_neg ?_
        rw [eN, eo]
        show ¬ (c + r.1) * 8 ^ 14 + e_ms nw k (n - k) < _
        have : (old.1 + 1) * 8 ^ 14 ≤ (c + r.1) * 8 ^ 14 := Nat.mul_le_mul_right _ h1
        rw [Nat.add_mul, Nat.one_mul] at this
        omega
      rw [hof]
      exact ⟨T, rfl, ho, cfm_rfl _ _⟩
    · rw [if_neg (nI_nlt (by omega) (by omega)), if_neg (show ¬ (nI q < 0 ∨ 90 ≤ q) from nI_out2 hq90 (by omega))]
      by_cases h2 : c + r.1 < old.1
      · rw [if_pos (nI_lt h2 (by omega)), p31 (-1) k (by decide)]
        have hof : off n k old (c + r.1, nw, take) = (c + r.1, nw, take) := by
          refine if_pos ?_
          by_cases hof : old.1 < 1000000
          · obtain ⟨eo, eol⟩ := enc_lt (w := old) (k := k) hn (by omega) hof (ho2 hof).1 (ho2 hof).2
            rw [eN, eo]
            show (c + r.1) * 8 ^ 14 + e_ms nw k (n - k) < _
            have : (c + r.1 + 1) * 8 ^ 14 ≤ old.1 * 8 ^ 14 := Nat.mul_le_mul_right _ h2
            rw [Nat.add_mul (c + r.1) 1, Nat.one_mul] at this
            omega
          · have eo : enc n k old = 2 ^ 62 := if_neg hof
            rw [eo]
            omega
        rw [hof]
        exact wr
      · have he : old.1 = c + r.1 := by omega
        rw [if_neg (nI_nlt (by omega) (by omega))]
        obtain ⟨ob, om⟩ := ho2 (by omega)
        obtain ⟨eo, eol⟩ := enc_lt (w := old) (k := k) hn (by omega) (by omega) ob om
        have om98 := ho.2.2 (by omega)
        rw [← hq] at om98
        have cmp : ∀ d j, j + d = n → k ≤ j → g_X12_offer 31 [.ref 56, .int (nI q), .int (nI k), .int (nI (c + r.1)), .int take, .int (nI L), .int (nI mark), .int (nI fr), .int 0, .int (nI j), .null] [] T = if e_ms nw j d < e_ms old.2.1 j d then g_X12_offer 97 [.ref 56, .int (nI q), .int (nI k), .int (nI (c + r.1)), .int take, .int (nI L), .int (nI mark), .int (nI fr), .int (-1), .null, .null] [] T else some (none, T) := by
          intro d
          induction d with
          | zero =>
            intro j hj _
            obtain rfl : j = n := by omega
            rw [b_X12_offer_31, h6, if_neg (nI_nlt (Nat.le_refl _) (by omega)), b_X12_offer_97, if_neg (by decide)]
            exact (if_neg (Nat.lt_irrefl 0)).symm
          | succ d ih =>
            intro j hj hkj
            have e1 : (14 : Int32) * nI q + nI j = nI (14 * q + j) := by rw [show (14 : Int32) = nI 14 from rfl, pk_mul, nI_add]
            have e2 : (14 : Int32) * nI fr + nI j = nI (14 * fr + j) := by rw [show (14 : Int32) = nI 14 from rfl, pk_mul, nI_add]
            have hdig : g_X12_offer 31 [.ref 56, .int (nI q), .int (nI k), .int (nI (c + r.1)), .int take, .int (nI L), .int (nI mark), .int (nI fr), .int 0, .int (nI j), .null] [] T = g_X12_offer 31 [.ref 56, .int (nI q), .int (nI k), .int (nI (c + r.1)), .int take, .int (nI L), .int (nI mark), .int (nI fr), .int (nI (nw j) - nI (old.2.1 j)), .int (nI (j + 1)), .null] [] T := by
              rw [b_X12_offer_31, h6, if_pos (nI_lt (by omega) (by omega)), if_pos rfl, nI_add, e2, if_neg (nI_out (by omega) (by decide)), nI_clamp (by omega), b_X12_offer_72, b_X12_offer_72, e1, if_neg (nI_out (by omega) (by decide)), nI_clamp (by omega), om98 j hkj (by omega), nI_1]
              by_cases hjl : j < k + L
              · rw [if_pos (nI_lt hjl (by omega)), show nw j = mark by rw [hnw]; exact if_pos hjl]
              · rw [if_neg (nI_nlt (by omega) (by omega)), r3 j (by omega) (by omega), show nw j = r.2.1 j by rw [hnw]; exact if_neg hjl, if_neg (show ¬ (nI (14 * q + j) < 0 ∨ 1260 ≤ 14 * q + j) from nI_out2 (by omega) (by omega))]
            have b1 := hn5 j hkj (by omega)
            have b2 := om j hkj (by omega)
            have m1 := e_ms_lt (w := nw) d (j + 1) (fun i a b => by have := hn5 i (by omega) (by omega); omega)
            have m2 := e_ms_lt (w := old.2.1) d (j + 1) (fun i a b => by have := om i (by omega) (by omega); omega)
            have es : ∀ w : Nat → Nat, e_ms w j (d + 1) = w j * 8 ^ d + e_ms w (j + 1) d := fun _ => rfl
            rw [hdig, es, es]
            rcases Nat.lt_trichotomy (nw j) (old.2.1 j) with hl | hl | hl
            · have hs : nI (nw j) - nI (old.2.1 j) < 0 := pk_sneg (by omega) hl
              rw [p31 _ _ (fun q => by rw [q] at hs; exact absurd hs (by decide)), p97 _ hs, if_pos]
              have : (nw j + 1) * 8 ^ d ≤ old.2.1 j * 8 ^ d := Nat.mul_le_mul_right _ hl
              rw [Nat.add_mul, Nat.one_mul] at this
              omega
            · rw [hl, pk_sub (Nat.le_refl _), Nat.sub_self]
              have := ih (j + 1) (by omega) (by omega)
              rw [nI_0, this]
              by_cases hlt : e_ms nw (j + 1) d < e_ms old.2.1 (j + 1) d
              · rw [if_pos hlt, if_pos (by omega)]
              · rw [if_neg hlt, if_neg (by omega)]
            · rw [pk_sub (by omega), p31 _ _ (nI_ne0 (by omega) (by omega)), b_X12_offer_97, if_neg (nI_pos (by omega)), if_neg]
              have : (old.2.1 j + 1) * 8 ^ d ≤ nw j * 8 ^ d := Nat.mul_le_mul_right _ hl
              rw [Nat.add_mul, Nat.one_mul] at this
              omega
        rw [cmp (n - k) k (by omega) (Nat.le_refl _)]
        by_cases hlt : e_ms nw k (n - k) < e_ms old.2.1 k (n - k)
        · have hof : off n k old (c + r.1, nw, take) = (c + r.1, nw, take) := by
            refine if_pos ?_
            rw [eN, eo, he]
            show (c + r.1) * 8 ^ 14 + e_ms nw k (n - k) < _
            omega
          rw [if_pos hlt, hof]
          exact wr
        · have hof : off n k old (c + r.1, nw, take) = old := by
            refine if_neg ?_
            rw [eN, eo, he]
            show ¬ (c + r.1) * 8 ^ 14 + e_ms nw k (n - k) < _
            omega
          rw [if_neg hlt, hof]
          exact ⟨T, rfl, ho, cfm_rfl _ _⟩
  · have eg : gen r c k L mark take = far := if_neg hrf
    have hc1' : 1 ≤ c := hc1.resolve_left hrf
    have ef : enc n k far = 2 ^ 62 := if_neg (Nat.lt_irrefl _)
    have eo : enc n k old ≤ 2 ^ 62 := by
      by_cases hof : old.1 < 1000000
      · have := (enc_lt (w := old) (k := k) hn (by omega) hof (ho2 hof).1 (ho2 hof).2).2
        omega
      · unfold enc; rw [if_neg hof]; exact Nat.le_refl _
    rw [if_pos (nI_lt (by omega) (by omega)), eg]
    have hof : off n k old far = old := if_neg (by rw [ef]; omega)
    rw [hof]
    exact ⟨T, rfl, ho, cfm_rfl _ _⟩
