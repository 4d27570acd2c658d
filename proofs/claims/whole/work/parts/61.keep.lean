/-! ===== the class keeps the draft ===== -/
def eqF (f g : Nat → Int32) : Prop := f 5 = g 5 ∧ f 6 = g 6 ∧ f 7 = g 7 ∧ f 8 = g 8 ∧ f 9 = g 9 ∧ f 10 = g 10 ∧ f 11 = g 11 ∧ ∀ i, i < 4 → f (13 + i) = g (13 + i)
theorem nI_m1 {v : Nat} (h : v < 2 ^ 31) : ¬ nI v = -1 := fun q => nI_pos h (by rw [q]; decide)
theorem eqF_has {N Z TT : Nat} {sz : Nat → Int32} {f g : Nat → Int32} (hN : N ≤ 60) (hZ : Z ≤ 30) (hT : TT ≤ 20) (hf : recF N Z TT sz f) (hg : recF N Z TT sz g) (h : eqF f g) : ∀ x, x < 5 → f x = g x := by
  obtain ⟨f0, f1, f2, f3, f4⟩ := hf
  obtain ⟨g0, g1, g2, g3, g4⟩ := hg
  obtain ⟨e5, e6, e7, e8, e9, e10, e11, -⟩ := h
  have k0 : f 0 = g 0 := by
    rcases f0 with ⟨a, ⟨v, v1, v2⟩, -⟩ | ⟨a, b, -⟩ <;> rcases g0 with ⟨c, ⟨w, w1, w2⟩, -⟩ | ⟨c, d, -⟩
    · rw [a, c]
    · exact absurd (v2.symm.trans (e5.trans d)) (nI_m1 (by omega))
    · exact absurd (w2.symm.trans (e5.symm.trans b)) (nI_m1 (by omega))
    · rw [a, c]
  have k1 : f 1 = g 1 := by
    rcases f1 with ⟨a, v, v1, v2⟩ | ⟨a, b⟩ <;> rcases g1 with ⟨c, w, w1, w2⟩ | ⟨c, d⟩
    · rw [a, c]
    · exact absurd (v2.symm.trans (e7.trans d)) (nI_m1 (by omega))
    · exact absurd (w2.symm.trans (e7.symm.trans b)) (nI_m1 (by omega))
    · rw [a, c]
  have k2 : f 2 = g 2 := by
    rcases f2 with ⟨a, ⟨v, v1, -, v2⟩, -⟩ | ⟨a, b, -⟩ <;> rcases g2 with ⟨c, ⟨w, w1, -, w2⟩, -⟩ | ⟨c, d, -⟩
    · rw [a, c]
    · exact absurd (v2.symm.trans (e8.trans d)) (nI_m1 (by omega))
    · exact absurd (w2.symm.trans (e8.symm.trans b)) (nI_m1 (by omega))
    · rw [a, c]
  have k3 : f 3 = g 3 := by
    rcases f3 with ⟨a, v, v1, v2⟩ | ⟨a, b⟩ <;> rcases g3 with ⟨c, w, w1, w2⟩ | ⟨c, d⟩
    · rw [a, c]
    · exact absurd (v2.symm.trans (e10.trans d)) (nI_m1 (by omega))
    · exact absurd (w2.symm.trans (e10.symm.trans b)) (nI_m1 (by omega))
    · rw [a, c]
  have k4 : f 4 = g 4 := by
    rcases f4 with ⟨a, v, v1, v2⟩ | ⟨a, b⟩ <;> rcases g4 with ⟨c, w, w1, w2⟩ | ⟨c, d⟩
    · rw [a, c]
    · exact absurd (v2.symm.trans (e11.trans d)) (nI_m1 (by omega))
    · exact absurd (w2.symm.trans (e11.symm.trans b)) (nI_m1 (by omega))
    · rw [a, c]
  intro x hx
  rcases (show x = 0 ∨ x = 1 ∨ x = 2 ∨ x = 3 ∨ x = 4 by omega) with rfl | rfl | rfl | rfl | rfl
  · exact k0
  · exact k1
  · exact k2
  · exact k3
  · exact k4
theorem X1_isDrafted {N Z TT d : Nat} {sz : Nat → Int32} {F fd : Nat → Int32} {T : a_M} (hN : N ≤ 60) (hZ : Z ≤ 30) (hT : TT ≤ 20) (hd : d < 40) (h40 : ∀ x, x < 17 → T.1 40 x = F x) (h39 : ∀ x, x < 17 → T.1 39 (d * 17 + x) = fd x) (r1 : recF N Z TT sz F) (r2 : recF N Z TT sz fd) :
    (eqF F fd ∧ x_X1_isDrafted [.ref 38, .int (nI d)] T = some (some (.int 1), T)) ∨ (¬ eqF F fd ∧ x_X1_isDrafted [.ref 38, .int (nI d)] T = some (some (.int 0), T)) := by
  have st : ∀ i, i < 17 → g_X1_isDrafted 2 [.ref 38, .int (nI d), .int (nI i)] [] T = if i ≠ 12 ∧ ¬ fd i = F i then some (some (.int 0), T) else g_X1_isDrafted 2 [.ref 38, .int (nI d), .int (nI (i + 1))] [] T := by
    intro i hi
    rw [b_X1_isDrafted_2, if_pos (show nI i < 17 from nI_lt (b := 17) hi (by decide))]
    by_cases h12 : i = 12
    · rw [if_pos (show nI i = 12 by rw [h12]; rfl), if_neg (fun q => q.1 h12), nI_1]
    · have hget : x_X1_get [.ref 38, .int (nI d), .int (nI i)] T = some (some (.int (fd i)), T) := by
        rw [X1_get (by omega) hi]
        rw [h39 i hi]
      rw [if_neg (show ¬ nI i = 12 from nI_ne (b := 12) (by omega) (by decide) h12), hget]
      simp only [Option.bind_some, Option.toList_some, List.append_nil, b_X1_isDrafted_20]
      rw [at_40, av_nI hi (by decide), h40 i hi]
      simp only [Option.bind_some, Option.toList_some, List.cons_append, List.nil_append, b_X1_isDrafted_28]
      by_cases he : fd i = F i
      · rw [if_pos he, if_neg (fun q => q.2 he), nI_1]
      · rw [if_neg he, if_pos ⟨h12, he⟩]
  have key := lp_find (fun i => g_X1_isDrafted 2 [.ref 38, .int (nI d), .int (nI i)] [] T) 17 (fun i => i ≠ 12 ∧ ¬ fd i = F i) (some (some (.int 0), T)) (fun i hi hq => by rw [st i hi, if_pos hq]) (fun i hi hq => by rw [st i hi, if_neg hq])
  rw [nI_0] at key
  rw [e_X1_isDrafted]
  rcases key with ⟨⟨i, k1, k2, k3⟩, k4⟩ | ⟨k1, k2⟩
  · refine Or.inr ⟨fun q => ?_, k4⟩
    have hh := eqF_has hN hZ hT r1 r2 q
    obtain ⟨e5, e6, e7, e8, e9, e10, e11, e13⟩ := q
    apply k3
    rcases (show i < 5 ∨ i = 5 ∨ i = 6 ∨ i = 7 ∨ i = 8 ∨ i = 9 ∨ i = 10 ∨ i = 11 ∨ ∃ j, j < 4 ∧ i = 13 + j by
      by_cases h13 : 13 ≤ i
      · exact Or.inr (Or.inr (Or.inr (Or.inr (Or.inr (Or.inr (Or.inr (Or.inr ⟨i - 13, by omega, by omega⟩)))))))
      · omega) with h | h | h | h | h | h | h | h | ⟨j, h1, h2⟩
    · exact (hh i h).symm
    · rw [h]; exact e5.symm
    · rw [h]; exact e6.symm
    · rw [h]; exact e7.symm
    · rw [h]; exact e8.symm
    · rw [h]; exact e9.symm
    · rw [h]; exact e10.symm
    · rw [h]; exact e11.symm
    · rw [h2]; exact (e13 j h1).symm
  · have hx : ∀ i, i < 17 → i ≠ 12 → F i = fd i := fun i hi h12 => by
      have := k1 i hi
      exact (Decidable.not_not.mp (fun q => this ⟨h12, q⟩)).symm
    refine Or.inl ⟨⟨hx 5 (by decide) (by decide), hx 6 (by decide) (by decide), hx 7 (by decide) (by decide), hx 8 (by decide) (by decide), hx 9 (by decide) (by decide), hx 10 (by decide) (by decide), hx 11 (by decide) (by decide), fun i hi => hx (13 + i) (by omega) (by omega)⟩, ?_⟩
    rw [k2, b_X1_isDrafted_2, if_neg (show ¬ nI 17 < 17 by decide)]
