/-! ===== the class's best way ===== -/
theorem wm_1 (S : a_M) (k i : Nat) (v : Int64) : (a_wl S k i v).1 = S.1 := rfl
theorem wm_n {S : a_M} {k i : Nat} {v : Int64} {a : Nat} (h : a ≠ k) : (a_wl S k i v).2 a = S.2 a := if_neg h
theorem wl_v (S : a_M) (k i : Nat) (v : Int64) : (a_wl S k i v).2 k i = v := by
  show (if k = k then vp_updL (S.2 k) i v else S.2 k) i = v
  rw [if_pos rfl]
  exact if_pos rfl
theorem wl_s {S : a_M} {k i j : Nat} {v : Int64} (h : j ≠ i) : (a_wl S k i v).2 k j = S.2 k j := by
  show (if k = k then vp_updL (S.2 k) i v else S.2 k) j = _
  rw [if_pos rfl]
  exact if_neg h
theorem brw_far (f : Nat → Nat) : ∀ k, (brw f k).1 < 1000000 → ∃ j, j < k ∧ (brw f k).1 = f j ∧ (brw f k).2 = nI j := by
  intro k
  induction k with
  | zero => intro h; exact absurd h (Nat.lt_irrefl _)
  | succ k ih =>
    intro h
    have e : brw f (k + 1) = if f k < (brw f k).1 then (f k, nI k) else brw f k := rfl
    by_cases hq : f k < (brw f k).1
    · rw [e, if_pos hq]; exact ⟨k, Nat.lt_succ_self _, rfl, rfl⟩
    · rw [e, if_neg hq] at h ⊢
      obtain ⟨j, h1, h2⟩ := ih h
      exact ⟨j, by omega, h2⟩
theorem mnf_far (f : Nat → Nat) : ∀ k, mnf f k < 1000000 → ∃ j, j < k ∧ mnf f k = f j := by
  intro k
  induction k with
  | zero => intro h; exact absurd h (Nat.lt_irrefl _)
  | succ k ih =>
    intro h
    have e : mnf f (k + 1) = min (mnf f k) (f k) := rfl
    by_cases hq : f k < mnf f k
    · rw [e, Nat.min_eq_right (by omega)]; exact ⟨k, Nat.lt_succ_self _, rfl⟩
    · rw [e, Nat.min_eq_left (by omega)] at h ⊢
      obtain ⟨j, h1, h2⟩ := ih h
      exact ⟨j, by omega, h2⟩
theorem Pth_le (P : q_P) (S : a_M) (H a : Nat) : ∀ L t d d' c, Pth P S H a L t d d' c → c ≤ 3 * L := by
  intro L
  induction L with
  | zero => intro t d d' c h; have := h.2; omega
  | succ L ih =>
    rintro t d d' c ⟨d1, c1, c2, h1, h2, h3⟩
    have g2 := ih _ _ _ _ h2
    have g1 : c1 ≤ 3 := by
      rcases h1.2 with ⟨-, q1, q2⟩ | ⟨h, -, -, -, q⟩
      · rw [q1] at q2 ⊢; exact wcost_3 _ _ _ _ q2
      · omega
    omega
theorem fcost_12 {P : q_P} {S : a_M} {H : Nat} {town : Bool} {k L t : Nat} (h : fcost P S H town k L t < 1000000) : fcost P S H town k L t ≤ 3 * L := by
  rw [fcost_mnf] at h ⊢
  obtain ⟨j, h1, h2⟩ := mnf_far _ _ h
  rw [h2] at h ⊢
  exact Pth_le _ _ _ _ _ _ _ _ _ (nc_sound _ _ _ _ _ _ _ h)
abbrev R0 (P : q_P) (S : a_M) (H Z : Nat) (town : Bool) : Nat → Nat → Nat × Int32 := fun s L => brw (fun k => fcost P S H town k L s) Z
theorem R0_12 {P : q_P} {S : a_M} {H Z : Nat} {town : Bool} {s L : Nat} (h : (R0 P S H Z town s L).1 < 1000000) : (R0 P S H Z town s L).1 ≤ 3 * L := by
  obtain ⟨j, h1, h2, h3⟩ := brw_far _ _ h
  show (brw _ _).1 ≤ _
  rw [h2]
  exact fcost_12 (by rw [← h2]; exact h)
abbrev mus (S : a_M) (g : Nat) : Nat → Prop := fun i => (S.1 37 g >>> (nI i &&& 31)) &&& 1 = 1
abbrev pts (S : a_M) (g : Nat) : Nat → Nat := fun i => cl (S.1 82 (5 * g + i))
abbrev RC (P : q_P) (S : a_M) (W H Z TT U g : Nat) : Nat → Nat → Nat → Nat := fun p k L => rcost P (R0 P S H Z false) (R0 P S H TT true) (un P S W U) (pts S g p) k L
abbrev TB (P : q_P) (S : a_M) (W H Z TT U g sz : Nat) : Nat → Nat → Wy := tab P.1 sz (mus S g) (RC P S W H Z TT U g) (bkc P)
theorem RC_le (P : q_P) (S : a_M) (W H Z TT U g p k L : Nat) : RC P S W H Z TT U g p k L ≤ 1000000 := by
  show rcost _ _ _ _ _ _ _ ≤ _
  unfold rcost
  have h0 := brw_le (fun j => fcost P S H false j L k) Z
  have h1 := brw_le (fun j => fcost P S H true j L k) TT
  repeat' split
  all_goals first | omega | exact h0 | exact h1 | exact Nat.zero_le _ | exact Nat.le_refl _
theorem RC_20 (P : q_P) (S : a_M) (W H Z TT U g p k L : Nat) (h4 : L ≤ 4) (h : RC P S W H Z TT U g p k L < 1000000) : RC P S W H Z TT U g p k L + bkc P k L ≤ 20 := by
  have hb := bkc_le P k L
  have h12 : RC P S W H Z TT U g p k L ≤ 12 := by
    revert h
    show rcost _ _ _ _ _ _ _ < _ → rcost _ _ _ _ _ _ _ ≤ _
    unfold rcost
    intro h
    have r0 := R0_12 (P := P) (S := S) (H := H) (Z := Z) (town := false) (s := k) (L := L)
    have r1 := R0_12 (P := P) (S := S) (H := H) (Z := TT) (town := true) (s := k) (L := L)
    by_cases p0 : pts S g p = 0
    · rw [if_pos p0] at h ⊢
      split at h
      · rename_i hh; rw [if_pos hh]; omega
      · omega
    · rw [if_neg p0] at h ⊢
      by_cases p1 : pts S g p = 1
      · rw [if_pos p1] at h ⊢
        have := r0 h
        omega
      · rw [if_neg p1] at h ⊢
        by_cases p2 : pts S g p = 2
        · rw [if_pos p2] at h ⊢
          split at h
          · rename_i hh; rw [if_pos hh]; omega
          · omega
        · rw [if_neg p2] at h ⊢
          by_cases p3 : pts S g p = 3
          · rw [if_pos p3] at h ⊢
            have := r1 h
            omega
          · rw [if_neg p3] at h ⊢
            split at h
            · rename_i hh; rw [if_pos hh]; omega
            · omega
  omega
theorem X4_facts {G g : Nat} {S : a_M} (hG : i_G G S) (hg : g < G) : 1 ≤ cl (S.1 35 g) ∧ cl (S.1 35 g) ≤ 5 ∧ (∀ i, i < cl (S.1 35 g) → pts S g i ≤ 4) ∧ ∀ T : a_M, T.1 35 = S.1 35 → T.1 36 = S.1 36 → T.1 37 = S.1 37 →
    x_X4_sizeOf [.ref 34, .int (nI g)] T = some (some (.int (nI (cl (S.1 35 g)))), T) ∧ (∀ i, i < cl (S.1 35 g) → x_X4_mustBe [.ref 34, .int (nI g), .int (nI i)] T = some (some (.int (b2i (mus S g i))), T)) ∧
    ∀ i, i < cl (S.1 35 g) → x_X4_partOf [.ref 34, .int (nI g), .int (nI i)] T = some (some (.int (nI (pts S g i))), T) := by
  obtain ⟨g1, g2, g3, g4, g5⟩ := hG
  obtain ⟨a1, a2, a3, a4, a5⟩ := g5 g hg
  refine ⟨a1, a2, fun i hi => (a4 i hi).2.1, fun T e1 e2 e3 => ⟨?_, fun i hi => ?_, fun i hi => ?_⟩⟩
  · rw [e_X4_sizeOf, at_35, av_nI (by omega) (by decide), e1]
    simp only [Option.bind_some, Option.toList_some, List.append_nil, b_X4_sizeOf_8]
    show some (some (Value.int (S.1 35 g)), T) = some (some (Value.int (nI (cl (S.1 35 g)))), T)
    rw [← a3]
  · rw [e_X4_mustBe, at_37, av_nI (by omega) (by decide), e3]
    simp only [Option.bind_some, Option.toList_some, List.append_nil, b_X4_mustBe_8]
    by_cases h : mus S g i
    · rw [if_pos h, b2i_t h]
    · rw [if_neg h, b2i_f h]
  · obtain ⟨p1, p2, p3, p4⟩ := a4 i hi
    rw [e_X4_partOf, at_36, av_nI (by omega) (by decide), e2]
    simp only [Option.bind_some, Option.toList_some, List.append_nil, b_X4_partOf_8]
    rw [e_X4_partAt]
    simp only [Option.bind_some, Option.toList_some, List.append_nil, b_X4_partOf_12]
    show some (some (Value.int (g_at (S.1 36 g) i)), T) = some (some (Value.int (nI (cl (S.1 82 (5 * g + i))))), T)
    rw [← p3, ← p1]
/-- what finding the best way may change -/
def cfb (S T : a_M) : Prop := (∀ c, c < 42 ∨ c = 45 ∨ c = 46 ∨ c = 49 ∨ 53 ≤ c → T.1 c = S.1 c) ∧ ∀ a b, ¬ a = 53 → ¬ (a = 45 ∧ b = 9) → T.2 a b = S.2 a b
theorem X7_findBest {P : q_P} {S : a_M} {N W H Z TT U G g : Nat} (ok : q_ok P) (hc : q_c P S) (hB : i_B N W S) (hH : i_H N H S) (hZ : i_Z N Z S) (hTT : i_T N TT S) (hU : i_U N U S) (hG : i_G G S) (hg : g < G) :
    ∃ T, x_X7_findBest [.ref 45, .int (nI g)] S = some (some (.int (if (TB P S W H Z TT U g (cl (S.1 35 g)) 0 0).1 < 1000000 then 1 else 0)), T) ∧ cfb S T ∧ T.2 45 9 = lN (enc P.1 0 (TB P S W H Z TT U g (cl (S.1 35 g)) 0 0)) ∧
      rows P.1 (T.1 47) (T.1 48) (R0 P S H Z false) ∧ rows P.1 (T.1 50) (T.1 51) (R0 P S H TT true) ∧ ∀ k, k < P.1 → T.1 52 k = un P S W U k := by
  have hn := ok.1.1
  have hN := hB.1
  have hW := hB.2.1
  obtain ⟨T1, f1, f2, f3⟩ := X2_prepare ok hc hB
  have e62 : (4611686018427387904 : Int64) = lN (2 ^ 62) := by decide +kernel
  rw [e_X7_findBest, f1]
  simp only [Option.bind_some, Option.toList_none, List.append_nil, b_X7_findBest_7]
  -- the unit words
  have c_a : ∀ T : a_M, (∀ c, c ≠ 42 → c ≠ 43 → c ≠ 52 → T.1 c = S.1 c) → q_c P T ∧ i_B N W T ∧ i_H N H T ∧ i_Z N Z T ∧ i_T N TT T ∧ i_U N U T := by
    intro T h
    refine ⟨q_c_same hc (fun c g1 g2 => h c (by omega) (by omega) (by omega)), ?_, ?_, ?_, ?_, ?_⟩
    · unfold i_B at hB ⊢; simp (disch := decide) only [h]; exact hB
    · unfold i_H at hH ⊢; simp (disch := decide) only [h]; exact hH
    · unfold i_Z at hZ ⊢; simp (disch := decide) only [h]; exact hZ
    · unfold i_T at hTT ⊢; simp (disch := decide) only [h]; exact hTT
    · unfold i_U at hU ⊢; simp (disch := decide) only [h]; exact hU
  have units : ∀ d k T, k + d = P.1 → (∀ c, c ≠ 52 → T.1 c = T1.1 c) → T.2 = T1.2 → (∀ j, j < k → T.1 52 j = un P S W U j) →
      ∃ T', g_X7_findBest 9 [.ref 45, .int (nI g), .int (nI k), .null] [] T = ((x_X8_fill [.ref 46, .int 1, .ref 20, .ref 41, .int (nI P.1)] T').bind fun q => g_X7_findBest 72 [.ref 45, .int (nI g), .null, .null] q.1.toList q.2) ∧ (∀ c, c ≠ 52 → T'.1 c = T1.1 c) ∧ T'.2 = T1.2 ∧ ∀ j, j < P.1 → T'.1 52 j = un P S W U j := by
    intro d
    induction d with
    | zero =>
      intro k T h1 h2 h3 h4
      obtain rfl : k = P.1 := by omega
      rw [b_X7_findBest_9, h2 7 (by decide), f2.1 7 (by decide) (by decide), hc.1, if_neg (nI_nlt (Nat.le_refl _) (by omega))]
      simp only [List.append_nil]
      exact ⟨T, rfl, h2, h3, h4⟩
    | succ d ih =>
      intro k T h1 h2 h3 h4
      obtain ⟨q1, q2, q3, q4, q5, q6⟩ := c_a T (fun c a b c' => (h2 c c').trans (f2.1 c a b))
      rw [b_X7_findBest_9, h2 7 (by decide), f2.1 7 (by decide) (by decide), hc.1, if_pos (nI_lt (by omega) (by omega)), e_X2_bookWordOf, at_42, av_nI (by omega) (by decide), h2 42 (by decide), f3.1 k (by omega)]
      simp only [Option.bind_some, Option.toList_some, List.cons_append, List.nil_append, List.append_nil, b_X2_bookWordOf_8, b_X7_findBest_37]
      rw [X6_unitNameOf q2 q6]
      simp only [Option.bind_some, Option.toList_some, List.cons_append, List.nil_append, b_X7_findBest_40]
      rw [put_52, pv_nI (by omega) (by decide)]
      simp only [Option.bind_some, Option.toList_none, List.append_nil, b_X7_findBest_43]
      rw [nI_1]
      have e5 : unm (T.1 26) (T.1 27) (lkf P (S.1 14) (S.1 13) W k) U = un P S W U k := by
        unfold un
        rw [h2 26 (by decide), h2 27 (by decide), f2.1 26 (by decide) (by decide), f2.1 27 (by decide) (by decide)]
      rw [e5]
      refine ih (k + 1) _ (by omega) (fun c a => (wi_n a).trans (h2 c a)) h3 (fun j hj => ?_)
      rw [wi_e]
      by_cases hjk : j = k
      · rw [hjk, up_e]
      · rw [up_n hjk]; exact h4 j (by omega)
  obtain ⟨T2, u1, u2, u3, u4⟩ := units P.1 0 T1 (Nat.zero_add _) (fun _ _ => rfl) rfl (fun j hj => absurd hj (Nat.not_lt_zero _))
  rw [nI_0] at u1
  rw [u1]
  have s2 : ∀ c, c ≠ 42 → c ≠ 43 → c ≠ 52 → T2.1 c = S.1 c := fun c a b c' => (u2 c c').trans (f2.1 c a b)
  obtain ⟨q1, q2, q3, q4, q5, q6⟩ := c_a T2 s2
  have fit2 : fit P T2 W T2 := by
    refine fit_c (S := S) ?_ (fun c _ _ => s2 c (by omega) (by omega) (by omega))
    unfold fit at f3 ⊢
    rw [u2 42 (by decide), u2 43 (by decide)]
    exact f3
  obtain ⟨T3, v1, v2, v3⟩ := X8_fill46 (H := H) hn q1 q2 q3 q4 q5 fit2
  rw [v1]
  simp only [Option.bind_some, Option.toList_none, List.append_nil, b_X7_findBest_72]
  have s3 : ∀ c, c < 42 ∨ c = 45 ∨ c = 46 ∨ c = 49 ∨ c = 50 ∨ c = 51 ∨ 53 ≤ c → T3.1 c = S.1 c := fun c a => (v2.1 c (by omega) (by omega) (by omega)).trans (s2 c (by omega) (by omega) (by omega))
  have c_b : ∀ T : a_M, (∀ c, c < 42 ∨ c = 45 ∨ c = 46 ∨ c = 49 ∨ 53 ≤ c → T.1 c = S.1 c) → q_c P T ∧ i_B N W T ∧ i_H N H T ∧ i_Z N Z T ∧ i_T N TT T := by
    intro T h
    refine ⟨q_c_same hc (fun c g1 g2 => h c (by omega)), ?_, ?_, ?_, ?_⟩
    · unfold i_B at hB ⊢; simp (disch := decide) only [h]; exact hB
    · unfold i_H at hH ⊢; simp (disch := decide) only [h]; exact hH
    · unfold i_Z at hZ ⊢; simp (disch := decide) only [h]; exact hZ
    · unfold i_T at hTT ⊢; simp (disch := decide) only [h]; exact hTT
  obtain ⟨p1, p2, p3, p4, p5⟩ := c_b T3 (fun c a => s3 c (by omega))
  have fit3 : fit P T3 W T3 := by
    refine fit_c (S := T2) ?_ (fun c _ _ => v2.1 c (by omega) (by omega) (by omega))
    unfold fit at fit2 ⊢
    rw [v2.1 42 (by decide) (by decide) (by decide), v2.1 43 (by decide) (by decide) (by decide)]
    exact fit2
  obtain ⟨T4, w1, w2, w3⟩ := X8_fill49 (H := H) hn p1 p2 p3 p4 p5 fit3
  rw [s3 7 (by decide), hc.1, w1]
  simp only [Option.bind_some, Option.toList_none, List.append_nil, b_X7_findBest_95]
  have s4 : ∀ c, c < 42 ∨ c = 45 ∨ c = 46 ∨ c = 49 ∨ 53 ≤ c → T4.1 c = S.1 c := fun c a => (w2.1 c (by omega) (by omega) (by omega)).trans (s3 c (by omega))
  have s42 : T4.2 = S.2 := by rw [w2.2, v2.2, u3, f2.2]
  have r46 : rows P.1 (T4.1 47) (T4.1 48) (R0 P S H Z false) := by
    rw [w2.1 47 (by decide) (by decide) (by decide), w2.1 48 (by decide) (by decide) (by decide)]
    intro s L g1 g2 g3
    have := v3 s L g1 g2 g3
    have e : ∀ k, fcost P T2 H false k L s = fcost P S H false k L s := fun k => fcost_c (fun c _ _ => s2 c (by omega) (by omega) (by omega)) (s2 21 (by decide) (by decide) (by decide)) (s2 22 (by decide) (by decide) (by decide)) (s2 23 (by decide) (by decide) (by decide)) H false k L s
    simp only [e] at this
    exact this
  have r49 : rows P.1 (T4.1 50) (T4.1 51) (R0 P S H TT true) := by
    intro s L g1 g2 g3
    have := w3 s L g1 g2 g3
    have e : ∀ k, fcost P T3 H true k L s = fcost P S H true k L s := fun k => fcost_c (fun c _ _ => s3 c (by omega)) (s3 21 (by decide)) (s3 22 (by decide)) (s3 23 (by decide)) H true k L s
    simp only [e] at this
    exact this
  have r52 : ∀ k, k < P.1 → T4.1 52 k = un P S W U k := by
    intro k hk
    rw [w2.1 52 (by decide) (by decide) (by decide), v2.1 52 (by decide) (by decide) (by decide)]
    exact u4 k hk
  rw [s4 7 (by decide), hc.1]
  obtain ⟨z1, z2, z3, z4⟩ := X4_facts hG hg
  obtain ⟨sz, hsz⟩ : ∃ sz, sz = cl (S.1 35 g) := ⟨_, rfl⟩
  rw [← hsz]
  rw [← hsz] at z1 z2 z3 z4
  have tabok : ∀ k p, k ≤ P.1 → p ≤ sz → okW P.1 sz (RC P S W H Z TT U g) (TB P S W H Z TT U g sz) k p (TB P S W H Z TT U g sz k p) := fun k p hk hp => tab_ok (mu := mus S g) (rc := RC P S W H Z TT U g) (bk := bkc P) hn z2 (fun p k L _ h4 h => RC_20 P S W H Z TT U g p k L h4 h) _ k p hk hp rfl
  -- the table
  have same : ∀ T : a_M, T.1 = T4.1 → (∀ a b, ¬ a = 53 → T.2 a b = T4.2 a b) → ∀ k p, k ≤ P.1 → p ≤ sz → (∀ k' p', k' ≤ P.1 → p' ≤ sz → k < k' ∨ (k = k' ∧ p < p') → T.2 53 (k' * 6 + p') = lN (enc P.1 k' (TB P S W H Z TT U g sz k' p'))) →
      x_X7_leastWay [.ref 45, .int (nI g), .int (nI k), .int (nI p)] T = some (some (.long (lN (enc P.1 k (TB P S W H Z TT U g sz k p)))), T) := by
    intro T h1 h2 k p hk hp h3
    obtain ⟨y1, y2, y3⟩ := z4 T (by rw [h1, s4 35 (by decide)]) (by rw [h1, s4 36 (by decide)]) (by rw [h1, s4 37 (by decide)])
    have q := X7_leastWay (g := g) (t := TB P S W H Z TT U g sz) ok (q_c_same hc (fun c g1 g2 => by rw [h1]; exact s4 c (by omega))) (by rw [h1]; exact r46) (by rw [h1]; exact r49) (by rw [h1]; exact r52) z2 y1 y2 y3 z3
      (fun p k L _ h4 h => RC_20 P S W H Z TT U g p k L h4 h) (fun p k L => RC_le P S W H Z TT U g p k L) hk hp (fun k' p' a b c d e => ⟨tabok k' p' b d, h3 k' p' b d (by omega)⟩)
    rw [q]
    have e := tab_step P.1 sz (mus S g) (RC P S W H Z TT U g) (bkc P) hk hp
    show some (some (Value.long (lN (enc P.1 k (stepW _ _ _ _ _ _ _ _)))), T) = some (some (Value.long (lN (enc P.1 k (tab P.1 sz (mus S g) (RC P S W H Z TT U g) (bkc P) k p)))), T)
    rw [e]
  have inner : ∀ p k T, k ≤ P.1 → p ≤ sz → T.1 = T4.1 → (∀ a b, ¬ a = 53 → T.2 a b = T4.2 a b) → (∀ k' p', k' ≤ P.1 → p' ≤ sz → k < k' ∨ (k = k' ∧ p < p') → T.2 53 (k' * 6 + p') = lN (enc P.1 k' (TB P S W H Z TT U g sz k' p'))) →
      ∃ T', g_X7_findBest 116 [.ref 45, .int (nI g), .int (nI k), .int (nI p)] [] T = g_X7_findBest 103 [.ref 45, .int (nI g), .int (nI k + (-1)), .null] [] T' ∧ T'.1 = T4.1 ∧ (∀ a b, ¬ a = 53 → T'.2 a b = T4.2 a b) ∧ ∀ k' p', k' ≤ P.1 → p' ≤ sz → k ≤ k' → T'.2 53 (k' * 6 + p') = lN (enc P.1 k' (TB P S W H Z TT U g sz k' p')) := by
    intro p
    induction p with
    | zero =>
      intro k T hk hp h1 h2 h3
      rw [b_X7_findBest_116, if_neg (by decide), same T h1 h2 k 0 hk hp h3]
      simp only [Option.bind_some, Option.toList_some, List.cons_append, List.nil_append, b_X7_findBest_130]
      have e1 : nI k * 6 + nI 0 = nI (k * 6 + 0) := by rw [show (6 : Int32) = nI 6 from rfl, pk_mul, nI_add]
      rw [e_X7_putWay, e1, if_neg (nI_pos (by omega)), if_pos (show nI (k * 6 + 0) < 90 from nI_lt (b := 90) (by omega) (by decide)), if_neg (nI_out (by omega) (by decide)), nI_clamp (by omega)]
      simp only [Option.bind_some, Option.toList_none, List.append_nil, b_X7_findBest_133]
      rw [b_X7_findBest_116, if_pos (by decide)]
      refine ⟨_, rfl, h1, fun a b hab => by rw [wm_n hab]; exact h2 a b hab, fun k' p' a b c => ?_⟩
      by_cases hq : k' = k ∧ p' = 0
      · obtain ⟨rfl, rfl⟩ := hq; rw [wl_v]
      · rw [wl_s (by omega)]; exact h3 k' p' a b (by omega)
    | succ p ih =>
      intro k T hk hp h1 h2 h3
      rw [b_X7_findBest_116, if_neg (nI_pos (by omega)), same T h1 h2 k (p + 1) hk hp h3]
      simp only [Option.bind_some, Option.toList_some, List.cons_append, List.nil_append, b_X7_findBest_130]
      have e1 : nI k * 6 + nI (p + 1) = nI (k * 6 + (p + 1)) := by rw [show (6 : Int32) = nI 6 from rfl, pk_mul, nI_add]
      rw [e_X7_putWay, e1, if_neg (nI_pos (by omega)), if_pos (show nI (k * 6 + (p + 1)) < 90 from nI_lt (b := 90) (by omega) (by decide)), if_neg (nI_out (by omega) (by decide)), nI_clamp (by omega)]
      simp only [Option.bind_some, Option.toList_none, List.append_nil, b_X7_findBest_133]
      rw [pk_m1]
      refine ih k _ hk (by omega) h1 (fun a b hab => by rw [wm_n hab]; exact h2 a b hab) (fun k' p' a b c => ?_)
      by_cases hq : k' = k ∧ p' = p + 1
      · obtain ⟨rfl, rfl⟩ := hq; rw [wl_v]
      · rw [wl_s (by omega)]; exact h3 k' p' a b (by omega)
  have outer : ∀ k T, k ≤ P.1 → T.1 = T4.1 → (∀ a b, ¬ a = 53 → T.2 a b = T4.2 a b) → (∀ k' p', k' ≤ P.1 → p' ≤ sz → k < k' → T.2 53 (k' * 6 + p') = lN (enc P.1 k' (TB P S W H Z TT U g sz k' p'))) →
      ∃ T', g_X7_findBest 103 [.ref 45, .int (nI g), .int (nI k), .null] [] T = ((x_X7_wayAt [.ref 45, .int 0, .int 0] T').bind fun q => g_X7_findBest 152 [.ref 45, .null, .null, .null] (q.1.toList ++ [.ref 45]) q.2) ∧ T'.1 = T4.1 ∧ (∀ a b, ¬ a = 53 → T'.2 a b = T4.2 a b) ∧ T'.2 53 0 = lN (enc P.1 0 (TB P S W H Z TT U g sz 0 0)) := by
    have hsz' : ∀ T : a_M, T.1 = T4.1 → x_X4_sizeOf [.ref 34, .int (nI g)] T = some (some (.int (nI sz)), T) := fun T h1 => (z4 T (by rw [h1, s4 35 (by decide)]) (by rw [h1, s4 36 (by decide)]) (by rw [h1, s4 37 (by decide)])).1
    intro k
    induction k with
    | zero =>
      intro T hk h1 h2 h3
      rw [b_X7_findBest_103, if_neg (by decide), hsz' T h1]
      simp only [Option.bind_some, Option.toList_some, List.append_nil, b_X7_findBest_115]
      obtain ⟨T', r1, r2, r3, r4⟩ := inner sz 0 T hk (Nat.le_refl _) h1 h2 (fun k' p' a b c => h3 k' p' a b (by omega))
      rw [r1, b_X7_findBest_103, if_pos (by decide)]
      exact ⟨T', rfl, r2, r3, r4 0 0 (Nat.zero_le _) (Nat.zero_le _) (Nat.zero_le _)⟩
    | succ k ih =>
      intro T hk h1 h2 h3
      rw [b_X7_findBest_103, if_neg (nI_pos (by omega)), hsz' T h1]
      simp only [Option.bind_some, Option.toList_some, List.append_nil, b_X7_findBest_115]
      obtain ⟨T', r1, r2, r3, r4⟩ := inner sz (k + 1) T hk (Nat.le_refl _) h1 h2 (fun k' p' a b c => h3 k' p' a b (by omega))
      rw [r1, pk_m1]
      exact ih T' (by omega) r2 r3 (fun k' p' a b c => r4 k' p' a b (by omega))
  obtain ⟨T5, x1, x2, x3, x4⟩ := outer P.1 T4 (Nat.le_refl _) rfl (fun _ _ _ => rfl) (fun k' p' a b c => by omega)
  rw [x1, ← nI_0, X7_wayAt (by decide) (by decide)]
  simp only [Option.bind_some, Option.toList_some, List.cons_append, List.nil_append, b_X7_findBest_152]
  rw [show 0 * 6 + 0 = 0 from rfl, x4]
  have okb := tabok 0 0 (Nat.zero_le _) (Nat.zero_le _)
  refine ⟨a_wl T5 45 9 (lN (enc P.1 0 (TB P S W H Z TT U g sz 0 0))), ?_, ⟨fun c a => by rw [wm_1, x2]; exact s4 c a, fun a b h1 h2 => ?_⟩, wl_v _ _ _ _, by rw [wm_1, x2]; exact r46, by rw [wm_1, x2]; exact r49, by rw [wm_1, x2]; exact r52⟩
  · by_cases hq : (TB P S W H Z TT U g sz 0 0).1 < 1000000
    · obtain ⟨b1, b2, b3⟩ := okb.2 hq
      have hlt := (enc_lt (w := TB P S W H Z TT U g sz 0 0) hn (Nat.zero_le _) hq (by omega) b2).2
      rw [if_pos hq, if_neg (by rw [e62, lg_c0, lN_eq63 (by omega) (by omega)]; omega)]
    · have e : enc P.1 0 (TB P S W H Z TT U g sz 0 0) = 2 ^ 62 := if_neg hq
      rw [if_neg hq, e, if_pos (by rw [e62, lg_c0])]
      rfl
  · by_cases ha : a = 45
    · subst ha
      rw [wl_s (fun q => h2 ⟨rfl, q⟩), x3 45 b (by decide), s42]
    · rw [wm_n ha, x3 a b h1, s42]
