/-! ===== what the best way describes: the reference ===== -/
theorem layF_x {P : q_P} {E0 E1 : Nat → Nat → Nat × Int32} {u : Nat → Int32} {part s L : Nat} {f : Nat → Int32} {x : Nat} (hp : part ≤ 4) (hx : x < 5) : layF P E0 E1 u part s L f x = if x = part then 1 else f x := by
  unfold layF
  rcases (show part = 0 ∨ part = 1 ∨ part = 2 ∨ part = 3 ∨ part = 4 by omega) with rfl | rfl | rfl | rfl | rfl
  · rw [if_pos rfl, up_n (by omega), up_n (by omega)]; rfl
  · rw [if_neg (by decide), if_pos rfl, up_n (by omega)]; rfl
  · rw [if_neg (by decide), if_neg (by decide), if_pos rfl, sgF_x, if_neg (by omega), up_n (by omega), up_n (by omega)]; rfl
  · rw [if_neg (by decide), if_neg (by decide), if_neg (by decide), if_pos rfl, up_n (by omega)]; rfl
  · rw [if_neg (by decide), if_neg (by decide), if_neg (by decide), if_neg (by decide), up_n (by omega)]; rfl
theorem X12_blank {d : Nat} {T : a_M} {f : Nat → Int32} (hd : d < 40) (hf : ∀ x, x < 17 → f x = if x < 5 then 0 else -1) : ∃ T', x_X12_blank [.ref 56, .int (nI d)] T = some (none, T') ∧ cd d T T' ∧ recR d f T' ∧ T'.1 94 d = 0 := by
  have nd : ¬ (nI d < 0 ∨ 40 ≤ (nI d).toNatClampNeg) := nI_out (by omega) (by decide)
  have nd2 : ¬ (nI d < 0 ∨ 40 ≤ d) := nI_out2 (by omega) (by omega)
  have cdd : (nI d).toNatClampNeg = d := nI_clamp (by omega)
  have loop : ∀ e i T1, i + e = 5 → cd d T T1 → (∀ j, j < i → T1.1 85 (5 * d + j) = 0) → ∃ T', g_X12_blank 2 [.ref 56, .int (nI d), .int (nI i)] [] T1 = some (none, T') ∧ cd d T T' ∧ recR d f T' ∧ T'.1 94 d = 0 := by
    intro e
    induction e with
    | zero =>
      intro i T1 h1 h2 h3
      obtain rfl : i = 5 := by omega
      rw [b_X12_blank_2, if_neg (show ¬ nI 5 < 5 by decide), if_neg nd, if_neg nd, if_neg nd, if_neg nd, if_neg nd, if_neg nd, if_neg nd, if_neg nd, cdd]
      refine ⟨_, rfl, cd_tr h2 (cd_tr (cd_1 _ _ (by decide)) (cd_tr (cd_1 _ _ (by decide)) (cd_tr (cd_1 _ _ (by decide)) (cd_tr (cd_1 _ _ (by decide)) (cd_tr (cd_1 _ _ (by decide)) (cd_tr (cd_1 _ _ (by decide)) (cd_tr (cd_1 _ _ (by decide)) (cd_1 _ _ (by decide))))))))), ⟨fun i hi => ?_, ?_, ?_, ?_, ?_, ?_, ?_, ?_, fun i hi => ?_⟩, ?_⟩
      · simp (disch := decide) only [wi_n]
        rw [h3 i hi, hf i (by omega), if_pos hi]
      · simp (disch := decide) only [wi_n, wi_v]
        rw [hf 5 (by decide)]; rfl
      · simp (disch := decide) only [wi_n, wi_v]
        rw [hf 6 (by decide)]; rfl
      · simp (disch := decide) only [wi_n, wi_v]
        rw [hf 7 (by decide)]; rfl
      · simp (disch := decide) only [wi_n, wi_v]
        rw [hf 8 (by decide)]; rfl
      · simp (disch := decide) only [wi_n, wi_v]
        rw [hf 9 (by decide)]; rfl
      · simp (disch := decide) only [wi_n, wi_v]
        rw [hf 10 (by decide)]; rfl
      · simp (disch := decide) only [wi_n, wi_v]
        rw [hf 11 (by decide)]; rfl
      · rw [hf (13 + i) (by omega), hf 9 (by decide), if_neg (by omega), if_neg (show ¬ 9 < 5 by decide), if_neg]
        exact fun q => nI_pos (n := i) (by omega) (Int32.lt_trans q (by decide))
      · exact wi_v _ _ _ _
    | succ e ih =>
      intro i T1 h1 h2 h3
      have e5 : (5 : Int32) * nI d + nI i = nI (5 * d + i) := by rw [show (5 : Int32) = nI 5 from rfl, pk_mul, nI_add]
      rw [b_X12_blank_2, if_pos (show nI i < 5 from nI_lt (b := 5) (by omega) (by decide)), e5, if_neg (nI_out (by omega) (by decide)), nI_clamp (by omega), nI_1]
      refine ih (i + 1) _ (by omega) (cd_tr h2 (cd_85 _ _ (by omega))) (fun j hj => ?_)
      by_cases hji : j = i
      · subst hji; rw [wi_v]
      · rw [wi_s (by omega)]; exact h3 j (by omega)
  have := loop 5 0 T rfl (cd_rfl d T) (fun j hj => absurd hj (Nat.not_lt_zero _))
  rw [nI_0] at this
  rw [e_X12_blank]
  exact this
theorem X12_rows10 {P : q_P} {S : a_M} {N W H Z TT U G g d sz : Nat} {t : Nat → Nat → Wy} (ok : q_ok P) (hpos : ∀ k, k < P.1 → 0 < q_len P k) (hB : i_B N W S) (hH : i_H N H S) (hZ : i_Z N Z S) (hTT : i_T N TT S) (hU : i_U N U S) (hG : i_G G S) (hm : m_w P S) (h6 : S.1 56 6 = nI P.1) (hg : g < G) (hsz : sz = cl (S.1 35 g)) (hd : d < 40)
    (hok : ∀ k p, k ≤ P.1 → p ≤ sz → okW P.1 sz (RC P S W H Z TT U g) t k p (t k p)) (hcell : ∀ k p, k ≤ P.1 → p ≤ sz → cellM P.1 S k p (t k p)) :
    ∀ e k p T f, (P.1 - k) + (sz - p) ≤ e → k ≤ P.1 → p ≤ sz → (t k p).1 < 1000000 → cd d S T → recR d f T → recF N Z TT (S.1 16) f → (∀ p', p ≤ p' → p' < sz → f (pts S g p') = 0) →
    ∃ T', g_X12_layRows 10 [.ref 56, .int (nI g), .int (nI d), .int (nI k), .int (nI p), .null] [] T = some (none, T') ∧ cd d S T' ∧ recR d (pf P (R0 P S H Z false) (R0 P S H TT true) (un P S W U) sz (pts S g) t e k p f) T' ∧ recF N Z TT (S.1 16) (pf P (R0 P S H Z false) (R0 P S H TT true) (un P S W U) sz (pts S g) t e k p f) ∧ (T.1 94 d = 0 → T'.1 94 d = 0) := by
  have hn := ok.1.1
  obtain ⟨z1, z2, z3, -⟩ := X4_facts hG hg
  obtain ⟨gg1, gg2, gg3, gg4, gg5⟩ := hG
  obtain ⟨-, -, a3, a4, a5⟩ := gg5 g hg
  rw [← hsz] at z1 z2 z3 a3 a4 a5
  have ng : ¬ (nI g < 0 ∨ 8 ≤ (nI g).toNatClampNeg) := nI_out (by omega) (by decide)
  have cg : (nI g).toNatClampNeg = g := nI_clamp (by omega)
  have f81 : ∀ T, cd d S T → T.1 81 g = nI sz := fun T h => by rw [h.1 81 (by decide) (by decide) (by decide), ← gg4, a3]
  have fin : ∀ T, cd d S T → g_X12_layRows 10 [.ref 56, .int (nI g), .int (nI d), .int (nI P.1), .int (nI sz), .null] [] T = some (none, T) := by
    intro T h
    rw [b_X12_layRows_10, h.2.1 6 (by decide), h6, if_neg (nI_nlt (Nat.le_refl _) (by omega)), if_neg ng, cg, f81 T h, if_neg (nI_nlt (Nat.le_refl _) (by omega))]
  have st : ∀ T k p, cd d S T → k ≤ P.1 → p ≤ sz → ¬ (k = P.1 ∧ p = sz) → g_X12_layRows 10 [.ref 56, .int (nI g), .int (nI d), .int (nI k), .int (nI p), .null] [] T = g_X12_layRows 29 [.ref 56, .int (nI g), .int (nI d), .int (nI k), .int (nI p), .null] [] T := by
    intro T k p h hk hp hne
    rw [b_X12_layRows_10, h.2.1 6 (by decide), h6]
    by_cases h1 : k < P.1
    · rw [if_pos (nI_lt h1 (by omega))]
    · rw [if_neg (nI_nlt (by omega) (by omega)), if_neg ng, cg, f81 T h, if_pos (nI_lt (by omega) (by omega))]
  have e6 : ∀ k p, (6 : Int32) * nI k + nI p = nI (6 * k + p) := fun k p => by rw [show (6 : Int32) = nI 6 from rfl, pk_mul, nI_add]
  have f97 : ∀ T k p, cd d S T → k ≤ P.1 → p ≤ sz → T.1 97 (6 * k + p) = (t k p).2.2 := fun T k p h hk hp => by rw [h.1 97 (by decide) (by decide) (by decide)]; exact (hcell k p hk hp).2.1
  intro e
  induction e with
  | zero =>
    intro k p T f he hk hp hf h2 h3 h4 h5
    obtain rfl : p = sz := by omega
    obtain rfl : k = P.1 := by omega
    rw [fin T h2]
    exact ⟨T, rfl, h2, h3, h4, id⟩
  | succ e ih =>
    intro k p T f he hk hp hf h2 h3 h4 h5
    rcases ((hok k p hk hp).2 hf).2.2 with ⟨r1, r2⟩ | ⟨r1, r2, r3, r4, r5⟩ | ⟨r1, r2, r3, r4⟩ | ⟨L, r1, r2, r3, r4, r5, r6, r7, r8, r9⟩
    · have ep : pf P (R0 P S H Z false) (R0 P S H TT true) (un P S W U) sz (pts S g) t (e + 1) k p f = f := if_pos ⟨r1, r2⟩
      rw [ep, r1, r2, fin T h2]
      exact ⟨T, rfl, h2, h3, h4, id⟩
    · have ep : pf P (R0 P S H Z false) (R0 P S H TT true) (un P S W U) sz (pts S g) t (e + 1) k p f = pf P (R0 P S H Z false) (R0 P S H TT true) (un P S W U) sz (pts S g) t e (k + 1) p f := by
        show (if k = P.1 ∧ p = sz then _ else if (t k p).2.2 < 0 then _ else _) = _
        rw [if_neg (by omega), r1, if_pos (by decide)]
      rw [ep, st T k p h2 hk hp (by omega), b_X12_layRows_29, e6, if_neg (nI_out (by omega) (by decide)), nI_clamp (by omega), f97 T k p h2 hk hp, r1, if_pos (by decide), nI_1]
      exact ih (k + 1) p T f (by omega) (by omega) hp r3 h2 h3 h4 h5
    · have ep : pf P (R0 P S H Z false) (R0 P S H TT true) (un P S W U) sz (pts S g) t (e + 1) k p f = pf P (R0 P S H Z false) (R0 P S H TT true) (un P S W U) sz (pts S g) t e k (p + 1) f := by
        show (if k = P.1 ∧ p = sz then _ else if (t k p).2.2 < 0 then _ else if (0 : Int32) < (t k p).2.2 then _ else _) = _
        rw [if_neg (by omega), r1, if_neg (by decide), if_neg (by decide)]
      rw [ep, st T k p h2 hk hp (by omega), b_X12_layRows_29, e6, if_neg (nI_out (by omega) (by decide)), nI_clamp (by omega), f97 T k p h2 hk hp, r1, if_neg (by decide), if_neg (by decide), b_X12_layRows_80, nI_1, Int32.add_zero]
      exact ih k (p + 1) T f (by omega) hk (by omega) r3 h2 h3 h4 (fun p' a b => h5 p' (by omega) b)
    · have eL : cl (t k p).2.2 = L := by rw [r5]; exact cl_nI (by omega)
      have ep : pf P (R0 P S H Z false) (R0 P S H TT true) (un P S W U) sz (pts S g) t (e + 1) k p f = pf P (R0 P S H Z false) (R0 P S H TT true) (un P S W U) sz (pts S g) t e (k + L) (p + 1) (layF P (R0 P S H Z false) (R0 P S H TT true) (un P S W U) (pts S g p) k L f) := by
        show (if k = P.1 ∧ p = sz then _ else if (t k p).2.2 < 0 then _ else if (0 : Int32) < (t k p).2.2 then pf P (R0 P S H Z false) (R0 P S H TT true) (un P S W U) sz (pts S g) t e (k + cl (t k p).2.2) (p + 1) (layF P (R0 P S H Z false) (R0 P S H TT true) (un P S W U) (pts S g p) k (cl (t k p).2.2) f) else _) = _
        rw [eL, if_neg (by omega), r5, if_neg (nI_pos (by omega)), if_pos (show (0 : Int32) < nI L from nI_lt (a := 0) (by omega) (by omega))]
      have e5 : (5 : Int32) * nI g + nI p = nI (5 * g + p) := by rw [show (5 : Int32) = nI 5 from rfl, pk_mul, nI_add]
      have e82 : T.1 82 (5 * g + p) = nI (pts S g p) := by
        rw [h2.1 82 (by decide) (by decide) (by decide)]
        exact (a4 p r4).2.2.1
      have hr : rcost P (R0 P T H Z false) (R0 P T H TT true) (un P T W U) (pts S g p) k L < 1000000 := by
        rw [cd_R0 h2, cd_R0 h2, cd_un h2]; exact r6
      have e16 : T.1 16 = S.1 16 := h2.1 16 (by decide) (by decide) (by decide)
      obtain ⟨T1, d1, d2, d3, d4, d5⟩ := X12_lay (d := d) ok hpos (cd_B h2 hB) (cd_H h2 hH) (cd_Z h2 hZ) (cd_T h2 hTT) (cd_U h2 hU) (cd_w h2 hm) hd h3 (by rw [e16]; exact h4) (z3 p r4) (h5 p (Nat.le_refl _) r4) r1 r2 r3 hr
      rw [cd_R0 h2, cd_R0 h2, cd_un h2] at d3 d4
      rw [e16] at d4
      rw [ep, st T k p h2 hk hp (by omega), b_X12_layRows_29, e6, if_neg (nI_out (by omega) (by decide)), nI_clamp (by omega), f97 T k p h2 hk hp, r5, if_neg (nI_pos (by omega)), if_pos (show (0 : Int32) < nI L from nI_lt (a := 0) (by omega) (by omega)), e5, if_neg (nI_out (by omega) (by decide)), nI_clamp (by omega), e82, nI_add, d1]
      simp only [Option.bind_some, Option.toList_none, List.append_nil, b_X12_layRows_80]
      rw [nI_add, nI_1]
      obtain ⟨T', x1, x2, x3, x4, x5⟩ := ih (k + L) (p + 1) T1 _ (by omega) r3 (by omega) r7 (cd_tr h2 d2) d3 d4 (fun p' a b => by
        rw [layF_x (z3 p r4) (by have := z3 p' b; omega), if_neg, h5 p' (by omega) b]
        intro q
        have q2 : S.1 82 (5 * g + p') = S.1 82 (5 * g + p) := by
          rw [(a4 p' b).2.2.1, (a4 p r4).2.2.1]
          exact congrArg nI q
        have := a5 p' p b r4 q2
        omega)
      exact ⟨T', x1, x2, x3, x4, fun q => x5 (by rw [d5]; exact q)⟩
