/-! ===== the class keeps the draft: all ===== -/
def ckd (S T : a_M) : Prop := (∀ c, c ≠ 38 → c ≠ 39 → c ≠ 40 → T.1 c = S.1 c) ∧ (∀ j, j ≠ 2 → T.1 38 j = S.1 38 j) ∧ T.2 = S.2
theorem X1_keepDraft {N Z TT D : Nat} {sz : Nat → Int32} {F : Nat → Int32} {T : a_M} (hN : N ≤ 60) (hZ : Z ≤ 30) (hT : TT ≤ 20) (hD : D ≤ 40) (h38 : T.1 38 2 = nI D) (h40 : ∀ x, x < 17 → T.1 40 x = F x) (r1 : recF N Z TT sz F) (r2 : ∀ d, d < D → recF N Z TT sz (fun x => T.1 39 (d * 17 + x))) :
    (∃ d, d < D ∧ eqF F (fun x => T.1 39 (d * 17 + x)) ∧ (∀ d', d' < d → ¬ eqF F (fun x => T.1 39 (d' * 17 + x))) ∧ x_X1_keepDraft [.ref 38] T = some (some (.int (nI d)), a_wi T 39 (d * 17 + 12) (T.1 39 (d * 17 + 12) + 1))) ∨
    ((∀ d, d < D → ¬ eqF F (fun x => T.1 39 (d * 17 + x))) ∧ D < 40 ∧ ∃ T', x_X1_keepDraft [.ref 38] T = some (some (.int (nI D)), T') ∧ ckd T T' ∧ T'.1 38 2 = nI (D + 1) ∧ (∀ x, x < 17 → T'.1 39 (D * 17 + x) = upd F 12 1 x) ∧ ∀ y, y < D * 17 → T'.1 39 y = T.1 39 y) ∨
    ((∀ d, d < D → ¬ eqF F (fun x => T.1 39 (d * 17 + x))) ∧ D = 40 ∧ x_X1_keepDraft [.ref 38] T = some (some (.int (-8)), T)) := by
  have key := lp_first (fun i => g_X1_keepDraft 2 [.ref 38, .int (nI i)] [] T) D (fun d => eqF F (fun x => T.1 39 (d * 17 + x))) (fun d => some (some (.int (nI d)), a_wi T 39 (d * 17 + 12) (T.1 39 (d * 17 + 12) + 1)))
    (fun d hd hq => by
      rw [b_X1_keepDraft_2, h38, if_pos (nI_lt hd (by omega))]
      rcases X1_isDrafted hN hZ hT (show d < 40 by omega) h40 (fun x hx => rfl) r1 (r2 d hd) with ⟨-, q⟩ | ⟨q, -⟩
      · rw [q]
        simp only [Option.bind_some, Option.toList_some, List.append_nil, b_X1_keepDraft_15]
        have hget := X1_get (d := d) (f := 12) (S := T) (by omega) (by decide)
        have hget' : x_X1_get [.ref 38, .int (nI d), .int 12] T = some (some (.int (T.1 39 (d * 17 + 12))), T) := hget
        have e1 : (nI d * 17) + 12 = nI (d * 17 + 12) := by rw [show (17 : Int32) = nI 17 from rfl, pk_mul, show (12 : Int32) = nI 12 from rfl, nI_add]
        rw [if_neg (by decide), hget', e1]
        simp only [Option.bind_some, Option.toList_some, List.cons_append, List.nil_append, b_X1_keepDraft_39]
        rw [put_39, pv_nI (by omega) (by decide)]
        simp only [Option.bind_some, Option.toList_none, List.append_nil, b_X1_keepDraft_44]
      · exact absurd hq q)
    (fun d hd hq => by
      rw [b_X1_keepDraft_2, h38, if_pos (nI_lt hd (by omega))]
      rcases X1_isDrafted hN hZ hT (show d < 40 by omega) h40 (fun x hx => rfl) r1 (r2 d hd) with ⟨q, -⟩ | ⟨-, q⟩
      · exact absurd q hq
      · rw [q]
        simp only [Option.bind_some, Option.toList_some, List.append_nil, b_X1_keepDraft_15]
        rw [if_pos trivial, nI_1])
  rw [nI_0] at key
  rw [e_X1_keepDraft]
  rcases key with ⟨d, k1, k2, k3, k4⟩ | ⟨k1, k2⟩
  · exact Or.inl ⟨d, k1, k2, k3, k4⟩
  · right
    rw [k2, b_X1_keepDraft_2, h38, if_neg (nI_nlt (Nat.le_refl _) (by omega))]
    by_cases h : D < 40
    · left
      refine ⟨k1, h, ?_⟩
      have hdr : x_X1_draft [.ref 38, .int 12, .int 1] T = some (none, a_wi T 40 12 1) := X1_draft (i := 12) (by decide)
      rw [if_pos (show nI D < 40 from nI_lt (b := 40) h (by decide)), hdr]
      simp only [Option.bind_some, Option.toList_none, List.append_nil, b_X1_keepDraft_71]
      have loop : ∀ e i T1, i + e = 17 → (∀ c, c ≠ 39 → T1.1 c = (a_wi T 40 12 1).1 c) → T1.2 = T.2 → (∀ x, x < i → T1.1 39 (D * 17 + x) = upd F 12 1 x) → (∀ y, y < D * 17 → T1.1 39 y = T.1 39 y) →
          ∃ T', g_X1_keepDraft 73 [.ref 38, .int (nI i)] [] T1 = some (some (.int (nI D)), T') ∧ ckd T T' ∧ T'.1 38 2 = nI (D + 1) ∧ (∀ x, x < 17 → T'.1 39 (D * 17 + x) = upd F 12 1 x) ∧ ∀ y, y < D * 17 → T'.1 39 y = T.1 39 y := by
        intro e
        induction e with
        | zero =>
          intro i T1 h1 h2 h3 h4 h5
          obtain rfl : i = 17 := by omega
          rw [b_X1_keepDraft_73, if_neg (show ¬ nI 17 < 17 by decide), h2 38 (by decide), wi_n (by decide), h38, nI_1, nI_pred]
          refine ⟨_, rfl, ⟨fun c a b c' => by rw [wi_n a, h2 c b, wi_n c'], fun j hj => by rw [wi_s hj, h2 38 (by decide), wi_n (by decide)], h3⟩, wi_v _ _ _ _, fun x hx => by rw [wi_n (by decide)]; exact h4 x hx, fun y hy => by rw [wi_n (by decide)]; exact h5 y hy⟩
        | succ e ih =>
          intro i T1 h1 h2 h3 h4 h5
          have e1 : (nI D * 17) + nI i = nI (D * 17 + i) := by rw [show (17 : Int32) = nI 17 from rfl, pk_mul, nI_add]
          rw [b_X1_keepDraft_73, if_pos (show nI i < 17 from nI_lt (b := 17) (by omega) (by decide)), h2 38 (by decide), wi_n (by decide), h38, e1, at_40, av_nI (by omega) (by decide), h2 40 (by decide)]
          simp only [Option.bind_some, Option.toList_some, List.cons_append, List.nil_append, b_X1_keepDraft_100]
          rw [put_39, pv_nI (by omega) (by decide)]
          simp only [Option.bind_some, Option.toList_none, List.append_nil, b_X1_keepDraft_103]
          rw [nI_1]
          refine ih (i + 1) _ (by omega) (fun c a => (wi_n a).trans (h2 c a)) h3 (fun x hx => ?_) (fun y hy => by rw [wi_s (by omega)]; exact h5 y hy)
          by_cases hxi : x = i
          · subst hxi
            rw [wi_v, wi_e, up_x, up_x]
            by_cases h12 : x = 12
            · rw [if_pos h12, if_pos h12]
            · rw [if_neg h12, if_neg h12]; exact h40 x (by omega)
          · rw [wi_s (by omega)]; exact h4 x (by omega)
      have := loop 17 0 (a_wi T 40 12 1) rfl (fun _ _ => rfl) rfl (fun x hx => absurd hx (Nat.not_lt_zero _)) (fun y _ => by rw [wi_n (by decide)])
      rw [nI_0] at this
      exact this
    · right
      rw [if_neg (show ¬ nI D < 40 from nI_nlt (b := 40) (by omega) (by omega))]
      exact ⟨k1, by omega, rfl⟩
