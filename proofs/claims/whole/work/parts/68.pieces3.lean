/-! ===== the reference's read up to deliver ===== -/
theorem cfb_S {S T : a_M} (h : cfb S T) : i_S S T :=
  ⟨fun k _ _ => h.1 k (by omega), fun k _ _ _ => h.1 k (by omega), by rw [h.1 45 (by decide)], h.2 45 10 (by decide) (by decide), fun k _ _ _ _ _ => h.1 k (by omega), fun j _ _ _ _ _ _ => by rw [h.1 56 (by decide)]⟩
theorem cf_S {S T : a_M} (h : cf S T) : i_S S T :=
  ⟨fun k _ _ => h.1 k (by omega) (by omega) (by omega) (by omega) (by omega), fun k _ _ _ => h.1 k (by omega) (by omega) (by omega) (by omega) (by omega), by rw [h.1 45 (by decide) (by decide) (by decide) (by decide) (by decide)], by rw [h.2.2], fun k _ _ _ _ _ => h.1 k (by omega) (by omega) (by omega) (by omega) (by omega), fun j _ _ _ _ a _ => h.2.1 j a⟩
theorem dl_rec {N Z TT D : Nat} {S : a_M} (hD : i_D N Z TT D S) {d : Nat} (hd : d < D) : recR d (fun x => S.1 39 (d * 17 + x)) S ∧ recF N Z TT (S.1 16) (fun x => S.1 39 (d * 17 + x)) := by
  obtain ⟨d1, d2, d3, d4⟩ := hD
  obtain ⟨e0, e5, e6, e7, e8, e9, e10, e11, e12, e13, er⟩ := d4 d hd
  have h0 := e0 0 (by decide)
  have h1 := e0 1 (by decide)
  have h2 := e0 2 (by decide)
  have h3 := e0 3 (by decide)
  have h4 := e0 4 (by decide)
  refine ⟨⟨fun i hi => (e0 i hi).symm, e5.symm, e6.symm, e7.symm, e8.symm, e9.symm, e10.symm, e11.symm, fun i hi => ?_⟩, ?_⟩
  · show S.1 39 (d * 17 + (13 + i)) = if nI i < S.1 39 (d * 17 + 9) then _ else -1
    rw [e9, ← Nat.add_assoc]
    exact e13 i hi
  · show i_rec N Z TT (S.1 16) (S.1 39 (d * 17 + 0)) (S.1 39 (d * 17 + 1)) (S.1 39 (d * 17 + 2)) (S.1 39 (d * 17 + 3)) (S.1 39 (d * 17 + 4)) (S.1 39 (d * 17 + 5)) (S.1 39 (d * 17 + 6)) (S.1 39 (d * 17 + 7)) (S.1 39 (d * 17 + 8)) (S.1 39 (d * 17 + 9)) (S.1 39 (d * 17 + 10)) (S.1 39 (d * 17 + 11))
    rw [h0, h1, h2, h3, h4, e5, e6, e7, e8, e9, e10, e11]
    exact er
theorem q_ans_pos {x : q_P × Bool} (h : ¬ q_ans x < 0) : x.2 = false ∧ q_lo x.1 = false ∧ q_ans x = nI x.1.1 ∧ 0 < x.1.1 := by
  unfold q_ans at h ⊢
  by_cases h1 : x.2 = true
  · rw [if_pos h1] at h; exact absurd (by decide) h
  · rw [if_neg h1] at h ⊢
    by_cases h2 : q_lo x.1 = true
    · rw [if_pos h2] at h; exact absurd (by decide) h
    · rw [if_neg h2] at h ⊢
      by_cases h3 : x.1.1 = 0
      · rw [if_pos h3] at h; exact absurd (by decide) h
      · rw [if_neg h3]
        exact ⟨by cases hx : x.2 <;> simp_all, by cases hx : q_lo x.1 <;> simp_all, rfl, by omega⟩
theorem X12_run {n m N W H Z T U R G D g : Nat} {S Tc : a_M} (hP : i_P n m N W H Z T U R G D S) (ok : q_ok (q_pS S).1) (hg : g < G) (hq : ¬ q_ans (q_pS S) < 0) (e1 : ∀ c, c < 38 → Tc.1 c = S.1 c) (e2 : ∀ c, 56 ≤ c → Tc.1 c = S.1 c) :
    ∃ S3 T6, m_same Tc S3 ∧ cf S3 T6 ∧ x_X12_read [.ref 56, .int (nI g)] Tc = (if (TB (q_pS S).1 S W H Z T U g (cl (S.1 35 g)) 0 0).1 < 1000000 then ((x_X12_deliver [.ref 56, .int (nI g)] T6).bind fun q => g_X12_read 85 [.null, .null, .null, .null, .null] q.1.toList q.2) else some (some (.int (-1)), T6)) ∧
      (∀ k p, k ≤ (q_pS S).1.1 → p ≤ cl (S.1 35 g) → cellM (q_pS S).1.1 T6 k p (TB (q_pS S).1 S W H Z T U g (cl (S.1 35 g)) k p)) ∧ m_w (q_pS S).1 T6 ∧ T6.1 56 6 = nI (q_pS S).1.1 ∧
      (∀ c, c < 38 → T6.1 c = S.1 c) ∧ (∀ c, 57 ≤ c → c ≠ 61 → c ≠ 62 → c ≠ 63 → c < 95 ∨ 98 < c → T6.1 c = S.1 c) ∧ (∀ j, j ≠ 6 → j ≠ 51 → j ≠ 52 → j ≠ 53 → j ≠ 55 → T6.1 56 j = S.1 56 j) := by
  obtain ⟨hx2, hlo, hans, hpos⟩ := q_ans_pos hq
  have hn := ok.1.1
  have hG8 := hP.2.2.2.2.2.2.2.2.1.1
  obtain ⟨S3, g1, g2, g3⟩ := taken' (S1 := Tc) hP e2
  obtain ⟨-, -, hme⟩ := g3 hx2
  obtain ⟨m1, -, -, m4⟩ := hme hlo
  have x1 : ∀ c, c < 38 → S3.1 c = S.1 c := fun c a => (g2.1 c (by omega) (by omega) (by omega) (by omega)).trans (e1 c a)
  have x2 : ∀ c, 57 ≤ c → c ≠ 61 → c ≠ 62 → c ≠ 63 → S3.1 c = S.1 c := fun c a b d e => (g2.1 c (by omega) b d e).trans (e2 c (by omega))
  have x3 : ∀ j, j ≠ 6 → j ≠ 51 → j ≠ 52 → j ≠ 53 → S3.1 56 j = S.1 56 j := fun j a b d e => (g2.2.1 j a b d e).trans (by rw [e2 56 (by decide)])
  obtain ⟨hL, hF, hB, hH, hZ, hT, hU, hR, hG, hA, hD⟩ := hP
  have hB' : i_B N W S3 := by unfold i_B at hB ⊢; simp (disch := decide) only [x1, x2, x3]; exact hB
  have hH' : i_H N H S3 := by unfold i_H at hH ⊢; simp (disch := decide) only [x1, x2, x3]; exact hH
  have hZ' : i_Z N Z S3 := by unfold i_Z at hZ ⊢; simp (disch := decide) only [x1, x2, x3]; exact hZ
  have hT' : i_T N T S3 := by unfold i_T at hT ⊢; simp (disch := decide) only [x1, x2, x3]; exact hT
  have hU' : i_U N U S3 := by unfold i_U at hU ⊢; simp (disch := decide) only [x1, x2, x3]; exact hU
  have hG' : i_G G S3 := by unfold i_G at hG ⊢; simp (disch := decide) only [x1, x2, x3]; exact hG
  obtain ⟨T6, r1, r2, r3⟩ := X12_table (g := g) ok hB' hH' hZ' hT' hU' hG' m4 m1 hg rfl
  obtain ⟨t1, -, -, -⟩ := TB_c (P := (q_pS S).1) (S := S) (T := S3) (H := H) (fun c a b => x1 c (by omega)) (x2 82 (by decide) (by decide) (by decide) (by decide)) W Z T U g (cl (S.1 35 g))
  rw [x1 35 (by decide), t1] at r1 r3
  refine ⟨S3, T6, g2, r2, ?_, r3, cf_w r2 m4, by rw [r2.2.1 6 (by decide)]; exact m1, fun c a => (r2.1 c (by omega) (by omega) (by omega) (by omega) (by omega)).trans (x1 c a), fun c a b d e f => (r2.1 c (by omega) (by omega) (by omega) (by omega) (by omega)).trans (x2 c a b d e), fun j a b d e f => (r2.2.1 j f).trans (x3 j a b d e)⟩
  rw [e_X12_read, e2 56 (by decide), hG.2.2.1, X12_in, b2i_c (in_ixp (by omega))]
  simp only [Option.bind_some, Option.toList_some, List.append_nil, b_X12_read_11, b2i_z]
  rw [if_neg (fun q => q (show ixp (nI g) G from ⟨nI_pos (by omega), nI_lt hg (by omega)⟩)), g1]
  simp only [Option.bind_some, Option.toList_some, List.append_nil, b_X12_read_21]
  rw [if_neg hq, hans]
  exact r1
