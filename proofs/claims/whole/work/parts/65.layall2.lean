/-! ===== the reference lays all: which it is ===== -/
theorem lay_loop {N Z TT M dd : Nat} {sz : Nat → Int32} {F : Nat → Int32} {fd : Nat → Nat → Int32} {T : a_M} {a2 a4 : Int32} (hM : M ≤ 40) (hdd : dd < 40) (rF : recF N Z TT sz F) (hF : recR dd F T) (hfd : ∀ x, x < M → recR x (fd x) T)
    (hb : ∀ a5 a6, g_X12_layAll 59 [.ref 56, .null, .int a2, .int (nI dd), .int a4, .int a5, .int a6] [] T = g_X12_layAll 74 [.ref 56, .null, .int a2, .int (nI dd), .int a4, .int a5, .int a6] [.int (nI M), .int a6] T) :
    (∃ d, d < M ∧ eqF F (fd d) ∧ (∀ d', d' < d → ¬ eqF F (fd d')) ∧ g_X12_layAll 59 [.ref 56, .null, .int a2, .int (nI dd), .int a4, .int (-1), .int 0] [] T = g_X12_layAll 74 [.ref 56, .null, .int a2, .int (nI dd), .int a4, .int (nI d), .int (nI M)] [.int (nI M), .int (nI M)] T) ∨
    ((∀ d, d < M → ¬ eqF F (fd d)) ∧ g_X12_layAll 59 [.ref 56, .null, .int a2, .int (nI dd), .int a4, .int (-1), .int 0] [] T = g_X12_layAll 74 [.ref 56, .null, .int a2, .int (nI dd), .int a4, .int (-1), .int (nI M)] [.int (nI M), .int (nI M)] T) := by
  have cont : ∀ d e i, i + e = M → d < 2 ^ 31 → g_X12_layAll 59 [.ref 56, .null, .int a2, .int (nI dd), .int a4, .int (nI d), .int (nI i)] [] T = g_X12_layAll 74 [.ref 56, .null, .int a2, .int (nI dd), .int a4, .int (nI d), .int (nI M)] [.int (nI M), .int (nI M)] T := by
    intro d e
    induction e with
    | zero =>
      intro i h1 h2
      obtain rfl : i = M := by omega
      exact hb _ _
    | succ e ih =>
      intro i h1 h2
      rw [hb, b_X12_layAll_74, if_pos (nI_lt (by omega) (by omega)), if_neg (nI_pos h2), b_X12_layAll_97, nI_1]
      exact ih (i + 1) (by omega) h2
  have key := lp_first (fun i => g_X12_layAll 59 [.ref 56, .null, .int a2, .int (nI dd), .int a4, .int (-1), .int (nI i)] [] T) M (fun d => eqF F (fd d)) (fun d => g_X12_layAll 74 [.ref 56, .null, .int a2, .int (nI dd), .int a4, .int (nI d), .int (nI M)] [.int (nI M), .int (nI M)] T)
    (fun d hd hq => by
      rw [hb, b_X12_layAll_74, if_pos (nI_lt (by omega) (by omega)), if_pos (by decide)]
      rcases X12_isAlike hdd (by omega) hF (hfd d hd) rF with ⟨-, q⟩ | ⟨q, -⟩
      · rw [q]
        simp only [Option.bind_some, Option.toList_some, List.append_nil, b_X12_layAll_89]
        rw [if_neg (by decide), nI_1]
        exact cont d (M - (d + 1)) (d + 1) (by omega) (by omega)
      · exact absurd hq q)
    (fun d hd hq => by
      rw [hb, b_X12_layAll_74, if_pos (nI_lt (by omega) (by omega)), if_pos (by decide)]
      rcases X12_isAlike hdd (by omega) hF (hfd d hd) rF with ⟨q, -⟩ | ⟨-, q⟩
      · exact absurd q hq
      · rw [q]
        simp only [Option.bind_some, Option.toList_some, List.append_nil, b_X12_layAll_89]
        rw [if_pos trivial, b_X12_layAll_97, nI_1])
  rw [nI_0] at key
  rcases key with ⟨d, k1, k2, k3, k4⟩ | ⟨k1, k2⟩
  · exact Or.inl ⟨d, k1, k2, k3, k4⟩
  · exact Or.inr ⟨k1, k2.trans (hb _ _)⟩
theorem cd_z {d : Nat} {B T : a_M} (h : cd d B T) : cdz B T := ⟨fun c a b e => h.1 c a b (by omega), fun j a _ => h.2.1 j a, h.2.2.1⟩
theorem cd_s {d : Nat} {B T : a_M} (h : cd d B T) : ∀ x, x ≠ d → srec x B T := fun x hx => h.2.2.2 x hx
theorem c99_z {B T : a_M} (h : c99 B T) : cdz B T := ⟨fun c a b e => h.1 c (by omega) (by omega) (by omega), fun j a _ => by rw [h.1 56 (by decide) (by decide) (by decide)], h.2⟩
theorem c99_s {B T : a_M} (h : c99 B T) (x : Nat) : srec x B T := by
  unfold srec
  rw [h.1 86 (by decide) (by decide) (by decide), h.1 87 (by decide) (by decide) (by decide), h.1 88 (by decide) (by decide) (by decide), h.1 89 (by decide) (by decide) (by decide), h.1 90 (by decide) (by decide) (by decide), h.1 92 (by decide) (by decide) (by decide), h.1 93 (by decide) (by decide) (by decide), h.1 94 (by decide) (by decide) (by decide), h.1 85 (by decide) (by decide) (by decide), h.1 91 (by decide) (by decide) (by decide)]
  exact ⟨rfl, rfl, rfl, rfl, rfl, rfl, rfl, rfl, fun _ _ => rfl, fun _ _ => rfl⟩
theorem cdz_tr {A B C : a_M} (h1 : cdz A B) (h2 : cdz B C) : cdz A C := ⟨fun c a b e => (h2.1 c a b e).trans (h1.1 c a b e), fun j a b => (h2.2.1 j a b).trans (h1.2.1 j a b), h2.2.2.trans h1.2.2⟩
theorem X12_layAll {N Z TT D g : Nat} {sz : Nat → Int32} {F : Nat → Int32} {fd : Nat → Nat → Int32} {S : a_M} (hD : D ≤ 40) (h40 : S.1 56 40 = nI D) (rF : recF N Z TT sz F) (hfd : ∀ x, x < D → recR x (fd x) S) (rfd : ∀ x, x < D → recF N Z TT sz (fd x))
    (hlay : ∀ d S', d < 40 → c99 S S' → ∃ T', x_X12_layRows [.ref 56, .int (nI g), .int (nI d)] S' = some (none, T') ∧ cd d S' T' ∧ recR d F T' ∧ T'.1 94 d = 0) :
    (∃ d, d < D ∧ eqF F (fd d) ∧ (∀ d', d' < d → ¬ eqF F (fd d')) ∧ ∃ T', x_X12_layAll [.ref 56, .int (nI g)] S = some (some (.int (nI d)), T') ∧ cdz S T' ∧ T'.1 56 40 = nI D ∧ ∀ x, x < D → srec x S T') ∨
    ((∀ d, d < D → ¬ eqF F (fd d)) ∧ D < 40 ∧ ∃ T', x_X12_layAll [.ref 56, .int (nI g)] S = some (some (.int (nI D)), T') ∧ cdz S T' ∧ T'.1 56 40 = nI (D + 1) ∧ (∀ x, x < D → srec x S T') ∧ recR D F T' ∧ T'.1 94 D = 0) ∨
    ((∀ d, d < D → ¬ eqF F (fd d)) ∧ D = 40 ∧ ∃ T', x_X12_layAll [.ref 56, .int (nI g)] S = some (some (.int (-1)), T') ∧ cdz S T' ∧ T'.1 56 40 = nI D ∧ ∀ x, x < D → srec x S T') := by
  rw [e_X12_layAll, h40]
  by_cases h : D = 40
  · obtain ⟨T1, a1, a2, a3, a4, a5⟩ := X12_keepNewest (g := fd 39) (S := S) (hfd 39 (by omega)) (by
      have := i_rec_01 (rfd 39 (by omega))
      intro i hi
      rcases (show i = 0 ∨ i = 1 ∨ i = 2 ∨ i = 3 ∨ i = 4 by omega) with rfl | rfl | rfl | rfl | rfl
      · exact this.1
      · exact this.2.1
      · exact this.2.2.1
      · exact this.2.2.2.1
      · exact this.2.2.2.2)
    obtain ⟨T2, b1, b2, b3, b4⟩ := hlay 39 T1 (by decide) a2
    have b1' : x_X12_layRows [.ref 56, .int (nI g), .int 39] T1 = some (none, T2) := b1
    have h402 : T2.1 56 40 = nI D := by rw [b2.2.1 40 (by decide), a2.1 56 (by decide) (by decide) (by decide), h40]
    have hR : ∀ x, x < 39 → recR x (fd x) T2 := fun x hx => srec_R (srec_tr (c99_s a2 x) (cd_s b2 x (by omega))) (hfd x (by omega))
    have hNew : recN (fd 39) T2 := by
      unfold recN at a3 ⊢
      rw [b2.1 101 (by decide) (by decide) (by decide), b2.1 99 (by decide) (by decide) (by decide)]
      exact a3
    obtain ⟨T3, c1, c2, c3⟩ := X12_putBack (g := fd 39) (S := S) (T := T2) (hfd 39 (by omega)) (by
      have := i_rec_01 (rfd 39 (by omega))
      intro i hi
      rcases (show i = 0 ∨ i = 1 ∨ i = 2 ∨ i = 3 ∨ i = 4 by omega) with rfl | rfl | rfl | rfl | rfl
      · exact this.1
      · exact this.2.1
      · exact this.2.2.1
      · exact this.2.2.2.1
      · exact this.2.2.2.2) hNew (fun i hi => by rw [b2.1 100 (by decide) (by decide) (by decide)]; exact a4 i hi) (fun i hi => by rw [b2.1 99 (by decide) (by decide) (by decide)]; exact a5 i hi)
    have z3 : cdz S T3 := cdz_tr (c99_z a2) (cdz_tr (cd_z b2) (cd_z c2))
    have s3 : ∀ x, x < D → srec x S T3 := by
      intro x hx
      by_cases h39 : x = 39
      · rw [h39]; exact c3
      · exact srec_tr (c99_s a2 x) (srec_tr (cd_s b2 x h39) (cd_s c2 x h39))
    have h403 : T3.1 56 40 = nI D := by rw [c2.2.1 40 (by decide), h402]
    have hb : ∀ a5 a6, g_X12_layAll 59 [.ref 56, .null, .int 1, .int (nI 39), .int (S.1 94 39), .int a5, .int a6] [] T2 = g_X12_layAll 74 [.ref 56, .null, .int 1, .int (nI 39), .int (S.1 94 39), .int a5, .int a6] [.int (nI 39), .int a6] T2 := by
      intro a5 a6
      rw [b_X12_layAll_59, if_neg (by decide)]
      rfl
    have loop := lay_loop (M := 39) (dd := 39) (T := T2) (by decide) (by decide) rF b3 hR hb
    have fin : ∀ a5 : Int32, (eqF F (fd 39) ∧ g_X12_layAll 74 [.ref 56, .null, .int 1, .int (nI 39), .int (S.1 94 39), .int a5, .int (nI 39)] [.int (nI 39), .int (nI 39)] T2 = if a5 < 0 then some (some (.int 39), T3) else some (some (.int a5), T3)) ∨ (¬ eqF F (fd 39) ∧ g_X12_layAll 74 [.ref 56, .null, .int 1, .int (nI 39), .int (S.1 94 39), .int a5, .int (nI 39)] [.int (nI 39), .int (nI 39)] T2 = if a5 < 0 then some (some (.int (-1)), T3) else some (some (.int a5), T3)) := by
      intro a5
      rw [b_X12_layAll_74, if_neg (nI_nlt (Nat.le_refl _) (by decide)), if_neg (by decide)]
      rcases X12_isAlikeNewest (a := 39) (by decide) b3 hNew rF with ⟨q1, q2⟩ | ⟨q1, q2⟩
      · refine Or.inl ⟨q1, ?_⟩
        rw [q2]
        simp only [Option.bind_some, Option.toList_some, List.append_nil, b_X12_layAll_116]
        have c1' : x_X12_putBack [.ref 56, .int (nI 39), .int (S.1 94 39)] T2 = some (none, T3) := c1
        rw [c1']
        simp only [Option.bind_some, Option.toList_none, List.append_nil, b_X12_layAll_125]
        rw [if_neg (show ¬ (1 : Int32) = 0 by decide)]
      · refine Or.inr ⟨q1, ?_⟩
        rw [q2]
        simp only [Option.bind_some, Option.toList_some, List.append_nil, b_X12_layAll_116]
        have c1' : x_X12_putBack [.ref 56, .int (nI 39), .int (S.1 94 39)] T2 = some (none, T3) := c1
        rw [c1']
        simp only [Option.bind_some, Option.toList_none, List.append_nil, b_X12_layAll_125]
        rw [if_pos trivial]
    have start : g_X12_layAll 14 [.ref 56, .int (nI g), .null, .null, .null, .null, .null] [.int 1] S = g_X12_layAll 59 [.ref 56, .null, .int 1, .int (nI 39), .int (S.1 94 39), .int (-1), .int 0] [] T2 := by
      rw [b_X12_layAll_14, if_neg (by decide), b_X12_layAll_28, if_neg (by decide), a1]
      simp only [Option.bind_some, Option.toList_none, List.append_nil, b_X12_layAll_47]
      rw [b1']
      simp only [Option.bind_some, Option.toList_none, List.append_nil, b_X12_layAll_53]
      rfl
    rw [if_pos (show nI D = 40 by rw [h]; rfl), start]
    rcases loop with ⟨d, k1, k2, k3, k4⟩ | ⟨k1, k2⟩
    · refine Or.inl ⟨d, by omega, k2, k3, T3, ?_, z3, h403, s3⟩
      rw [k4]
      rcases fin (nI d) with ⟨-, q⟩ | ⟨-, q⟩
      · rw [q, if_neg (nI_pos (by omega))]
      · rw [q, if_neg (nI_pos (by omega))]
    · rw [k2]
      rcases fin (-1) with ⟨q1, q⟩ | ⟨q1, q⟩
      · exact Or.inl ⟨39, by omega, q1, k1, T3, by rw [q, if_pos (by decide)]; rfl, z3, h403, s3⟩
      · refine Or.inr (Or.inr ⟨fun d hd => ?_, h, T3, by rw [q, if_pos (by decide)], z3, h403, s3⟩)
        by_cases hd39 : d = 39
        · rw [hd39]; exact q1
        · exact k1 d (by omega)
  · obtain ⟨T2, b1, b2, b3, b4⟩ := hlay D S (by omega) ⟨fun _ _ _ _ => rfl, rfl⟩
    have h402 : T2.1 56 40 = nI D := by rw [b2.2.1 40 (by decide), h40]
    have hb : ∀ a5 a6, g_X12_layAll 59 [.ref 56, .null, .int 0, .int (nI D), .int (S.1 94 39), .int a5, .int a6] [] T2 = g_X12_layAll 74 [.ref 56, .null, .int 0, .int (nI D), .int (S.1 94 39), .int a5, .int a6] [.int (nI D), .int a6] T2 := by
      intro a5 a6
      rw [b_X12_layAll_59, if_pos rfl, h402]
    have s2 : ∀ x, x < D → srec x S T2 := fun x hx => cd_s b2 x (by omega)
    have loop := lay_loop (M := D) (dd := D) (T := T2) hD (by omega) rF b3 (fun x hx => srec_R (s2 x hx) (hfd x hx)) hb
    have start : g_X12_layAll 14 [.ref 56, .int (nI g), .null, .null, .null, .null, .null] [.int 0] S = g_X12_layAll 59 [.ref 56, .null, .int 0, .int (nI D), .int (S.1 94 39), .int (-1), .int 0] [] T2 := by
      rw [b_X12_layAll_14, if_pos rfl, b_X12_layAll_28, if_pos rfl, h40, b_X12_layAll_47, b1]
      simp only [Option.bind_some, Option.toList_none, List.append_nil, b_X12_layAll_53]
    rw [if_neg (show ¬ nI D = 40 from nI_ne (b := 40) (by omega) (by decide) h), start]
    rcases loop with ⟨d, k1, k2, k3, k4⟩ | ⟨k1, k2⟩
    · refine Or.inl ⟨d, k1, k2, k3, T2, ?_, cd_z b2, h402, s2⟩
      rw [k4, b_X12_layAll_74, if_neg (nI_nlt (Nat.le_refl _) (by omega)), if_pos rfl, if_neg (nI_pos (by omega))]
    · refine Or.inr (Or.inl ⟨k1, by omega, a_wi T2 56 40 (nI (D + 1)), ?_, ⟨fun c a b e => (wi_n a).trans ((cd_z b2).1 c a b e), fun j a b => (wi_s b).trans ((cd_z b2).2.1 j a b), (cd_z b2).2.2⟩, wi_v _ _ _ _, fun x hx => ?_, ?_, ?_⟩)
      · rw [k2, b_X12_layAll_74, if_neg (nI_nlt (Nat.le_refl _) (by omega)), if_pos rfl, if_pos (by decide), h402, nI_1]
      · have := s2 x hx
        unfold srec at this ⊢
        simp (disch := decide) only [wi_n]
        exact this
      · unfold recR at b3 ⊢
        simp (disch := decide) only [wi_n]
        exact b3
      · rw [wi_n (by decide)]; exact b4
