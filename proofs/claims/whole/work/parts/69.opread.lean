/-! ===== read ===== -/
/-- records: what a delivery's call leaves, d read once more (or new) -/
theorem del_of {N Z TT D' : Nat} {T : a_M} (h1 : D' ≤ 40) (h2 : T.1 38 2 = nI D') (h3 : T.1 56 40 = nI D') (h : ∀ d, d < D' → ∃ f, recR d f T ∧ recF N Z TT (T.1 16) f ∧ (∀ x, x < 17 → x ≠ 12 → T.1 39 (d * 17 + x) = f x) ∧ T.1 39 (d * 17 + 12) = T.1 94 d) : i_D N Z TT D' T := by
  refine ⟨h1, h2, h3, fun d hd => ?_⟩
  obtain ⟨f, ⟨r0, r5, r6, r7, r8, r9, r10, r11, r13⟩, g, e, e12⟩ := h d hd
  refine ⟨fun p hp => by rw [e p (by omega) (by omega), r0 p hp], by rw [e 5 (by decide) (by decide), r5], by rw [e 6 (by decide) (by decide), r6], by rw [e 7 (by decide) (by decide), r7], by rw [e 8 (by decide) (by decide), r8], by rw [e 9 (by decide) (by decide), r9], by rw [e 10 (by decide) (by decide), r10], by rw [e 11 (by decide) (by decide), r11], e12, fun i hi => ?_, ?_⟩
  · rw [Nat.add_assoc, e (13 + i) (by omega) (by omega), r13 i hi, r9]
  · have k0 : T.1 85 (5 * d) = f 0 := r0 0 (by decide)
    rw [k0, r0 1 (by decide), r0 2 (by decide), r0 3 (by decide), r0 4 (by decide), r5, r6, r7, r8, r9, r10, r11]
    exact g
theorem op_read (a : Int32) : i_Op (fun S => x_X11_read [.ref 0, .int a] S) (fun S => x_X12_read [.ref 56, .int a] S) := by
  rintro S0 ⟨⟨n, m, N, W, H, Z, T, U, R, G, D, hP0⟩, hX0⟩
  have hG0 := hP0.2.2.2.2.2.2.2.2.1
  have hG8 := hG0.1
  dsimp only
  by_cases ha : ¬ ixp a G
  · refine ⟨-2, S0, S0, ?_, ?_, ⟨⟨n, m, N, W, H, Z, T, U, R, G, D, hP0⟩, hX0⟩⟩
    · rw [e_X11_read, hG0.2.1]
      by_cases h : a < 0
      · rw [if_pos h]
      · rw [if_neg h, if_neg (fun q => ha ⟨h, q⟩)]
    · rw [e_X12_read, hG0.2.2.1, X12_in, b2i_c (in_ixp (by omega))]
      simp only [Option.bind_some, Option.toList_some, List.append_nil, b_X12_read_11, b2i_z]
      rw [if_pos ha]
  · have ha : ixp a G := Decidable.not_not.mp ha
    obtain ⟨g, hg, rfl⟩ := ixp_of (by omega) ha
    obtain ⟨S1, h1, h2, h3, -⟩ := fresh hP0 hX0
    have ok : q_ok (q_pS S1).1 := h3.1
    have hc : q_c (q_pS S1).1 S1 := h3.2.1
    have hn := ok.1.1
    rw [e_X11_read, hG0.2.1, if_neg ha.1, if_pos ha.2, h1]
    simp only [Option.bind_some, Option.toList_some, List.append_nil, b_X11_read_22]
    rw [X10_state h3]
    simp only [Option.bind_some, Option.toList_some, List.append_nil, b_X11_read_25]
    by_cases hq : q_ans (q_pS S1) < 0
    · rw [if_pos hq]
      obtain ⟨S2, g1, g2, g3, -⟩ := taken h2
      refine ⟨_, S1, S2, rfl, ?_, ⟨n, m, N, W, H, Z, T, U, R, G, D, g2⟩, m_same_text g3 (fun _ => h3)⟩
      have hG1 := h2.2.2.2.2.2.2.2.2.1
      rw [e_X12_read, hG1.2.2.1, X12_in, b2i_c (in_ixp (by omega))]
      simp only [Option.bind_some, Option.toList_some, List.append_nil, b_X12_read_11, b2i_z]
      rw [if_neg (fun q => q ha), g1]
      simp only [Option.bind_some, Option.toList_some, List.append_nil, b_X12_read_21]
      rw [if_pos hq]
    · rw [if_neg hq]
      obtain ⟨hx2, hlo, hans, hpos⟩ := q_ans_pos hq
      have hpl : ∀ k, k < (q_pS S1).1.1 → 0 < q_len (q_pS S1).1 k := ok.2 hlo
      obtain ⟨P, hPe⟩ : ∃ P, P = (q_pS S1).1 := ⟨_, rfl⟩
      obtain ⟨hL, hF, hB, hH, hZ, hT, hU, hR, hG, hA, hD⟩ := h2
      have h2 : i_P n m N W H Z T U R G D S1 := ⟨hL, hF, hB, hH, hZ, hT, hU, hR, hG, hA, hD⟩
      obtain ⟨T2, f1, f2, f3, f4, f5, f6⟩ := X7_findBest (g := g) ok hc hB hH hZ hT hU hG hg
      have run := fun Tc e1 e2 => X12_run (g := g) (Tc := Tc) h2 ok hg hq e1 e2
      have hTB := TB_ok (W := W) (H := H) (Z := Z) (TT := T) (U := U) hn hG hg rfl
      rw [← hPe] at ok hc hn f1 f3 f4 f5 f6 run hTB hpl hans hpos
      obtain ⟨sz, hsz⟩ : ∃ sz, sz = cl (S1.1 35 g) := ⟨_, rfl⟩
      rw [← hsz] at f1 f3 run hTB
      rw [f1]
      simp only [Option.bind_some, Option.toList_some, List.append_nil, b_X11_read_40]
      by_cases hf : ¬ (TB P S1 W H Z T U g sz 0 0).1 < 1000000
      · rw [if_neg hf, if_pos rfl]
        obtain ⟨S3, T6, k1, k2, k3, -, -, -, k4, -, -⟩ := run T2 (fun c a => f2.1 c (by omega)) (fun c a => f2.1 c (by omega))
        rw [if_neg hf] at k3
        refine ⟨-1, T2, T6, rfl, k3, ⟨n, m, N, W, H, Z, T, U, R, G, D, i_P_S (i_S_tr (cfb_S f2) (i_S_tr (m_same_S k1) (cf_S k2))) h2⟩, i_text_w (fun _ => h3) (fun c a => k4 c (by omega))⟩
      · have hf : (TB P S1 W H Z T U g sz 0 0).1 < 1000000 := Decidable.not_not.mp hf
        rw [if_pos hf, if_neg (by decide)]
        obtain ⟨T3, d1, d2, d3⟩ := X7_describe ok hc hG hg hsz f2 f3 f4 f5 f6 hf
        rw [d1]
        simp only [Option.bind_some, Option.toList_none, List.append_nil, b_X11_read_53]
        obtain ⟨F, hFe⟩ : ∃ F, F = PF P S1 W H Z T U g sz := ⟨_, rfl⟩
        rw [← hFe] at d3
        have lay : ∀ T6 : a_M, (∀ c, c < 38 → T6.1 c = S1.1 c) → (∀ c, 57 ≤ c → c ≠ 61 → c ≠ 62 → c ≠ 63 → c < 95 ∨ 98 < c → T6.1 c = S1.1 c) → (∀ j, j ≠ 6 → j ≠ 51 → j ≠ 52 → j ≠ 53 → j ≠ 55 → T6.1 56 j = S1.1 56 j) → m_w P T6 → T6.1 56 6 = nI P.1 → (∀ k p, k ≤ P.1 → p ≤ sz → cellM P.1 T6 k p (TB P S1 W H Z T U g sz k p)) →
            ∀ d S', d < 40 → c99 T6 S' → ∃ T', x_X12_layRows [.ref 56, .int (nI g), .int (nI d)] S' = some (none, T') ∧ cd d S' T' ∧ recR d F T' ∧ recF N Z T (S1.1 16) F ∧ T'.1 94 d = 0 := by
          intro T6 x1 x2 x3 x4 x5 x6 d S' hd h99
          have hB' : i_B N W T6 := by unfold i_B at hB ⊢; simp (disch := decide) only [x1, x2, x3]; exact hB
          have hH' : i_H N H T6 := by unfold i_H at hH ⊢; simp (disch := decide) only [x1, x2, x3]; exact hH
          have hZ' : i_Z N Z T6 := by unfold i_Z at hZ ⊢; simp (disch := decide) only [x1, x2, x3]; exact hZ
          have hT' : i_T N T T6 := by unfold i_T at hT ⊢; simp (disch := decide) only [x1, x2, x3]; exact hT
          have hU' : i_U N U T6 := by unfold i_U at hU ⊢; simp (disch := decide) only [x1, x2, x3]; exact hU
          have hG' : i_G G T6 := by unfold i_G at hG ⊢; simp (disch := decide) only [x1, x2, x3]; exact hG
          obtain ⟨t1, t2, t3, t4⟩ := TB_c (P := P) (S := S1) (T := T6) (H := H) (fun c a b => x1 c (by omega)) (x2 82 (by decide) (by decide) (by decide) (by decide) (by decide)) W Z T U g sz
          have := X12_layRows (W := W) (H := H) (Z := Z) (TT := T) (U := U) (sz := sz) (d := d) ok hpl hB' hH' hZ' hT' hU' hG' x4 x5 hg (by rw [x1 35 (by decide)]; exact hsz) hd (by rw [t1]; exact x6) (by rw [t1]; exact hf) h99
          rw [x1 16 (by decide)] at this
          unfold PF at this
          rw [t1, t2, t2, t3, t4] at this
          rw [hFe]
          exact this
        have rF : recF N Z T (S1.1 16) F := by
          obtain ⟨S3, T6, k1, k2, k3, k4, k5, k6, k7, k8, k9⟩ := run T2 (fun c a => f2.1 c (by omega)) (fun c a => f2.1 c (by omega))
          obtain ⟨T', l1, l2, l3, l4, l5⟩ := lay T6 k7 k8 k9 k5 k6 k4 0 T6 (by decide) ⟨fun _ _ _ _ => rfl, rfl⟩
          exact l4
        have s3 : ∀ c, c < 40 ∨ c = 45 ∨ 56 ≤ c → T3.1 c = S1.1 c := fun c a => (d2.1 c (by omega)).trans (f2.1 c (by omega))
        have e39 : T3.1 39 = S1.1 39 := s3 39 (by decide)
        have hN60 := hB.1
        have hZ30 := hZ.1
        have hT20 := hT.1
        have hD40 := hD.1
        have dlr : ∀ d, d < D → recR d (fun x => S1.1 39 (d * 17 + x)) S1 ∧ recF N Z T (S1.1 16) (fun x => S1.1 39 (d * 17 + x)) := fun d hd => dl_rec hD hd
        have kd := X1_keepDraft (N := N) (Z := Z) (TT := T) (D := D) (sz := S1.1 16) (F := F) (T := T3) hN60 hZ30 hT20 hD40 (by rw [s3 38 (by decide)]; exact hD.2.1) d3 rF (fun d hd => by rw [e39]; exact (dlr d hd).2)
        rw [e39] at kd
        -- the reference, up to layAll
        have la : ∀ T5 : a_M, (∀ c, c < 38 → T5.1 c = S1.1 c) → (∀ c, 56 ≤ c → T5.1 c = S1.1 c) → ∃ S3 T6, m_same T5 S3 ∧ cf S3 T6 ∧ x_X12_read [.ref 56, .int (nI g)] T5 = ((x_X12_deliver [.ref 56, .int (nI g)] T6).bind fun q => g_X12_read 85 [.null, .null, .null, .null, .null] q.1.toList q.2) ∧ (∀ k p, k ≤ P.1 → p ≤ sz → cellM P.1 T6 k p (TB P S1 W H Z T U g sz k p)) ∧ T6.1 56 6 = nI P.1 ∧ (∀ x, srec x S1 T6) ∧
            ((∃ d, d < D ∧ eqF F (fun x => S1.1 39 (d * 17 + x)) ∧ (∀ d', d' < d → ¬ eqF F (fun x => S1.1 39 (d' * 17 + x))) ∧ ∃ T', x_X12_layAll [.ref 56, .int (nI g)] T6 = some (some (.int (nI d)), T') ∧ cdz T6 T' ∧ T'.1 56 40 = nI D ∧ ∀ x, x < D → srec x T6 T') ∨
            ((∀ d, d < D → ¬ eqF F (fun x => S1.1 39 (d * 17 + x))) ∧ D < 40 ∧ ∃ T', x_X12_layAll [.ref 56, .int (nI g)] T6 = some (some (.int (nI D)), T') ∧ cdz T6 T' ∧ T'.1 56 40 = nI (D + 1) ∧ (∀ x, x < D → srec x T6 T') ∧ recR D F T' ∧ T'.1 94 D = 0) ∨
            ((∀ d, d < D → ¬ eqF F (fun x => S1.1 39 (d * 17 + x))) ∧ D = 40 ∧ ∃ T', x_X12_layAll [.ref 56, .int (nI g)] T6 = some (some (.int (-1)), T') ∧ cdz T6 T' ∧ T'.1 56 40 = nI D ∧ ∀ x, x < D → srec x T6 T')) ∧
            (∀ c, c < 38 → T6.1 c = S1.1 c) ∧ (∀ c, 57 ≤ c → c ≠ 61 → c ≠ 62 → c ≠ 63 → c < 95 ∨ 98 < c → T6.1 c = S1.1 c) ∧ (∀ j, j ≠ 6 → j ≠ 51 → j ≠ 52 → j ≠ 53 → j ≠ 55 → T6.1 56 j = S1.1 56 j) := by
          intro T5 x1 x2
          obtain ⟨S3, T6, k1, k2, k3, k4, k5, k6, k7, k8, k9⟩ := run T5 x1 x2
          rw [if_pos hf] at k3
          have sr : ∀ x, srec x S1 T6 := by
            intro x
            have E : ∀ c, 85 ≤ c → c ≤ 94 → T6.1 c = S1.1 c := fun c a b => k8 c (by omega) (by omega) (by omega) (by omega) (by omega)
            exact ⟨by rw [E 86 (by decide) (by decide)], by rw [E 87 (by decide) (by decide)], by rw [E 88 (by decide) (by decide)], by rw [E 89 (by decide) (by decide)], by rw [E 90 (by decide) (by decide)], by rw [E 92 (by decide) (by decide)], by rw [E 93 (by decide) (by decide)], by rw [E 94 (by decide) (by decide)], fun i _ => by rw [E 85 (by decide) (by decide)], fun i _ => by rw [E 91 (by decide) (by decide)]⟩
          exact ⟨S3, T6, k1, k2, k3, k4, k6, sr, X12_layAll (fd := fun d x => S1.1 39 (d * 17 + x)) hD40 (by rw [k9 40 (by decide) (by decide) (by decide) (by decide) (by decide)]; exact hD.2.2.1) rF (fun x hx => srec_R (sr x) (dlr x hx).1) (fun x hx => (dlr x hx).2) (fun d S' hd h99 => by
            obtain ⟨T', l1, l2, l3, l4, l5⟩ := lay T6 k7 k8 k9 k5 k6 k4 d S' hd h99
            exact ⟨T', l1, l2, l3, l5⟩), k7, k8, k9⟩
        -- what is left of all but the latest reading and the deliveries
        have fin : ∀ (T8 : a_M) (D' : Nat), (∀ c, c < 38 → T8.1 c = S1.1 c) → (∀ c, 57 ≤ c → c ≠ 61 → c ≠ 62 → c ≠ 63 → c < 84 → T8.1 c = S1.1 c) → (∀ j, j ≠ 6 → j ≠ 37 → j ≠ 38 → j ≠ 40 → j ≠ 51 → j ≠ 52 → j ≠ 53 → j ≠ 55 → T8.1 56 j = S1.1 56 j) → i_A T8 → i_D N Z T D' T8 → i_I T8 := by
          intro T8 D' y1 y2 y3 yA yD
          refine ⟨⟨n, m, N, W, H, Z, T, U, R, G, D', ?_, ?_, ?_, ?_, ?_, ?_, ?_, ?_, ?_, yA, yD⟩, i_text_w (fun _ => h3) (fun c a => y1 c (by omega))⟩
          · unfold i_L at hL ⊢; simp (disch := decide) only [y1, y2, y3]; exact hL
          · unfold i_F at hF ⊢; simp (disch := decide) only [y1, y2, y3]; exact hF
          · unfold i_B at hB ⊢; simp (disch := decide) only [y1, y2, y3]; exact hB
          · unfold i_H at hH ⊢; simp (disch := decide) only [y1, y2, y3]; exact hH
          · unfold i_Z at hZ ⊢; simp (disch := decide) only [y1, y2, y3]; exact hZ
          · unfold i_T at hT ⊢; simp (disch := decide) only [y1, y2, y3]; exact hT
          · unfold i_U at hU ⊢; simp (disch := decide) only [y1, y2, y3]; exact hU
          · unfold i_R at hR ⊢; simp (disch := decide) only [y1, y2, y3]; exact hR
          · unfold i_G at hG ⊢; simp (disch := decide) only [y1, y2, y3]; exact hG
        have out : ∀ (T5 S3 T6 T7 : a_M) (d D' : Nat), d < 40 → (∀ c, c < 38 → T5.1 c = S1.1 c) → T5.1 45 11 = nI P.1 → T5.2 45 10 = lN (enc P.1 0 (TB P S1 W H Z T U g sz 0 0)) → m_same T5 S3 → cf S3 T6 → (∀ k p, k ≤ P.1 → p ≤ sz → cellM P.1 T6 k p (TB P S1 W H Z T U g sz k p)) → T6.1 56 6 = nI P.1 →
            (∀ c, c < 38 → T6.1 c = S1.1 c) → (∀ c, 57 ≤ c → c ≠ 61 → c ≠ 62 → c ≠ 63 → c < 95 ∨ 98 < c → T6.1 c = S1.1 c) → (∀ j, j ≠ 6 → j ≠ 51 → j ≠ 52 → j ≠ 53 → j ≠ 55 → T6.1 56 j = S1.1 56 j) →
            x_X12_layAll [.ref 56, .int (nI g)] T6 = some (some (.int (nI d)), T7) → cdz T6 T7 → T7.1 56 40 = nI D' → (∀ T8 : a_M, (∀ c, c ≠ 56 → c ≠ 84 → c ≠ 94 → T8.1 c = T7.1 c) → T8.1 56 40 = nI D' → T8.1 94 d = T7.1 94 d + 1 → (∀ x, x ≠ d → T8.1 94 x = T7.1 94 x) → i_D N Z T D' T8) →
            ∃ T8, ((x_X12_deliver [.ref 56, .int (nI g)] T6).bind fun q => g_X12_read 85 [.null, .null, .null, .null, .null] q.1.toList q.2) = some (some (.int (nI d)), T8) ∧ i_I T8 := by
          intro T5 S3 T6 T7 d D' hd x1 x3 x4 m3 c6 hcell h66 y1 y2 y3 hla z7 h40 hdel
          obtain ⟨b1, b2, b3⟩ := (hTB 0 0 (Nat.zero_le _) (Nat.zero_le _)).2 hf
          have hsz5 := (X4_facts hG hg).2.1
          rw [← hsz] at hsz5
          obtain ⟨q1, q2, q3⟩ := hcell 0 0 (Nat.zero_le _) (Nat.zero_le _)
          have q3' := q3 hf
          have t96 : T7.1 96 0 = nI (TB P S1 W H Z T U g sz 0 0).1 := by rw [z7.1 96 (by decide) (by decide) (by decide)]; exact q1
          have t6 : T7.1 56 6 = nI P.1 := by rw [z7.2.1 6 (by decide) (by decide)]; exact h66
          have t98 : ∀ j, j < P.1 → T7.1 98 j = nI ((TB P S1 W H Z T U g sz 0 0).2.1 j) := by
            intro j hj
            have := q3' j (Nat.zero_le _) hj
            rw [show 14 * (6 * 0 + 0) + j = j by omega] at this
            rw [z7.1 98 (by decide) (by decide) (by decide)]
            exact this
          obtain ⟨T8, r1, r2, r3, r4, r5, r6⟩ := deliver33 (n := P.1) (d := d) (v := T7.1 94 d) (w := (TB P S1 W H Z T U g sz 0 0).2.1) (T := a_wi (a_wi T7 56 37 (nI (TB P S1 W H Z T U g sz 0 0).1)) 56 38 (nI P.1)) hn hd (by rw [wi_s (by decide), wi_s (by decide)]; exact t6) (fun j hj => by rw [wi_n (by decide), wi_n (by decide)]; exact t98 j hj) (by rw [wi_n (by decide), wi_n (by decide)])
          have e8 : ∀ c, c ≠ 56 → c ≠ 84 → c ≠ 94 → T8.1 c = T7.1 c := fun c a b e => by rw [r2 c b e, wi_n a, wi_n a]
          have e56 : ∀ j, j ≠ 37 → j ≠ 38 → T8.1 56 j = T7.1 56 j := fun j a b => by rw [r2 56 (by decide) (by decide), wi_s b, wi_s a]
          refine ⟨T8, ?_, ?_⟩
          · rw [e_X12_deliver, hla]
            simp only [Option.bind_some, Option.toList_some, List.append_nil, b_X12_deliver_5]
            rw [if_neg (nI_pos (by omega)), t96, t6, r1]
            simp only [Option.bind_some, Option.toList_some, List.append_nil, b_X12_read_85]
          · have u45 : T8.1 45 11 = nI P.1 := by
              rw [e8 45 (by decide) (by decide) (by decide), z7.1 45 (by decide) (by decide) (by decide), c6.1 45 (by decide) (by decide) (by decide) (by decide) (by decide), m3.1 45 (by decide) (by decide) (by decide) (by decide)]
              exact x3
            have u2 : T8.2 45 10 = lN (enc P.1 0 (TB P S1 W H Z T U g sz 0 0)) := by
              rw [r3, wi_2, wi_2, z7.2.2, c6.2.2, m3.2.2]
              exact x4
            refine fin T8 D' (fun c a => ?_) (fun c a b e f g => ?_) (fun j a b e f g h i k => ?_) ?_ (hdel T8 e8 (by rw [e56 40 (by decide) (by decide)]; exact h40) (by rw [r5]) (fun x hx => by rw [r6 x hx, wi_n (by decide), wi_n (by decide)]))
            · rw [e8 c (by omega) (by omega) (by omega), z7.1 c (by omega) (by omega) (by omega)]; exact y1 c a
            · rw [e8 c (by omega) (by omega) (by omega), z7.1 c (by omega) (by omega) (by omega)]; exact y2 c a b e f (by omega)
            · rw [e56 j b e, z7.2.1 j k f]; exact y3 j a g h i k
            · refine ⟨P.1, (TB P S1 W H Z T U g sz 0 0).2.1, (TB P S1 W H Z T U g sz 0 0).1, hn, u45, ?_, ?_, by omega, fun i hi => ⟨b2 i (Nat.zero_le _) hi, r4 i hi⟩, ?_⟩
              · rw [r2 56 (by decide) (by decide), wi_v]
              · rw [r2 56 (by decide) (by decide), wi_s (by decide), wi_v]
              · rw [u2, (enc_lt (w := TB P S1 W H Z T U g sz 0 0) hn (Nat.zero_le _) hf (by omega) b2).1]
                rfl
        have h39 : T3.2 45 9 = lN (enc P.1 0 (TB P S1 W H Z T U g sz 0 0)) := by rw [d2.2]; exact f3
        rcases kd with ⟨d, k1, k2, k3, k4⟩ | ⟨k1, k2, T4, k3, k4, k5, k6, k7⟩ | ⟨k1, k2, k3⟩
        · -- read once more
          rw [k4]
          simp only [Option.bind_some, Option.toList_some, List.append_nil, b_X11_read_60]
          rw [if_neg (nI_pos (by omega)), e_X7_keepBest]
          simp only [Option.bind_some, Option.toList_none, List.append_nil, List.nil_append, b_X11_read_72]
          obtain ⟨v, hv⟩ : ∃ v, v = S1.1 39 (d * 17 + 12) + 1 := ⟨_, rfl⟩
          rw [← hv]
          obtain ⟨T5, hT5⟩ : ∃ T5, T5 = a_wi (a_wl (a_wi T3 39 (d * 17 + 12) v) 45 10 ((a_wi T3 39 (d * 17 + 12) v).2 45 9)) 45 11 ((a_wi T3 39 (d * 17 + 12) v).1 7 4) := ⟨_, rfl⟩
          rw [← hT5]
          have x1 : ∀ c, c < 38 → T5.1 c = S1.1 c := fun c a => by rw [hT5, wi_n (by omega), wm_1, wi_n (by omega)]; exact s3 c (by omega)
          have x2 : ∀ c, 56 ≤ c → T5.1 c = S1.1 c := fun c a => by rw [hT5, wi_n (by omega), wm_1, wi_n (by omega)]; exact s3 c (by omega)
          have x3 : T5.1 45 11 = nI P.1 := by rw [hT5, wi_v, wi_n (by decide), s3 7 (by decide)]; exact hc.1
          have x4 : T5.2 45 10 = lN (enc P.1 0 (TB P S1 W H Z T U g sz 0 0)) := by rw [hT5, wi_2, wl_v, wi_2]; exact h39
          have x38 : T5.1 38 = S1.1 38 := by rw [hT5, wi_n (by omega), wm_1, wi_n (by omega)]; exact s3 38 (by omega)
          have x39 : T5.1 39 = upd (S1.1 39) (d * 17 + 12) v := by rw [hT5, wi_n (by omega), wm_1, wi_e, e39]
          obtain ⟨S3, T6, l1, l2, l3, l4, l5, l6, l7, l8, l9, l10⟩ := la T5 x1 x2
          rcases l7 with ⟨d', q1, q2, q5, T7, q6, q7, q8, q9⟩ | ⟨q, -⟩ | ⟨q, -⟩
          · have hdd : d' = d := by
              rcases Nat.lt_trichotomy d' d with hl | hl | hl
              · exact absurd q2 (k3 d' hl)
              · exact hl
              · exact absurd k2 (q5 d hl)
            subst hdd
            obtain ⟨T8, o1, o2⟩ := out T5 S3 T6 T7 d' D (by omega) x1 x3 x4 l1 l2 l4 l5 l8 l9 l10 q6 q7 q8 (fun T8 p1 p2 p3 p4 => by
              have g38 : T8.1 38 = S1.1 38 := by rw [p1 38 (by decide) (by decide) (by decide), q7.1 38 (by decide) (by decide) (by decide), l2.1 38 (by decide) (by decide) (by decide) (by decide) (by decide), l1.1 38 (by decide) (by decide) (by decide) (by decide)]; exact x38
              have g39 : T8.1 39 = upd (S1.1 39) (d' * 17 + 12) v := by rw [p1 39 (by decide) (by decide) (by decide), q7.1 39 (by decide) (by decide) (by decide), l2.1 39 (by decide) (by decide) (by decide) (by decide) (by decide), l1.1 39 (by decide) (by decide) (by decide) (by decide)]; exact x39
              have g16 : T8.1 16 = S1.1 16 := by rw [p1 16 (by decide) (by decide) (by decide), q7.1 16 (by decide) (by decide) (by decide)]; exact l8 16 (by decide)
              refine del_of hD40 (by rw [g38]; exact hD.2.1) p2 (fun x hx => ⟨fun y => S1.1 39 (x * 17 + y), ?_, by rw [g16]; exact (dlr x hx).2, fun y hy h12 => by rw [g39, up_n (by omega)], ?_⟩)
              · have r := srec_R (srec_tr (l6 x) (q9 x hx)) (dlr x hx).1
                unfold recR at r ⊢
                rw [p1 85 (by decide) (by decide) (by decide), p1 86 (by decide) (by decide) (by decide), p1 87 (by decide) (by decide) (by decide), p1 88 (by decide) (by decide) (by decide), p1 89 (by decide) (by decide) (by decide), p1 90 (by decide) (by decide) (by decide), p1 91 (by decide) (by decide) (by decide), p1 92 (by decide) (by decide) (by decide), p1 93 (by decide) (by decide) (by decide)]
                exact r
              · obtain ⟨b1, b2, b3, b4, b5, b6, b7, b8, b9, b10⟩ := srec_tr (l6 x) (q9 x hx)
                have ho := (hD.2.2.2 x hx).2.2.2.2.2.2.2.2.1
                rw [g39]
                by_cases hxd : x = d'
                · rw [hxd, up_e, p3, hv, ← hxd, b8, ho]
                · rw [up_n (by omega), p4 x hxd, b8]; exact ho)
            exact ⟨_, T5, T8, rfl, l3.trans o1, o2⟩
          · exact absurd k2 (q d k1)
          · exact absurd k2 (q d k1)
        · -- a new one
          rw [k3]
          simp only [Option.bind_some, Option.toList_some, List.append_nil, b_X11_read_60]
          rw [if_neg (nI_pos (by omega)), e_X7_keepBest]
          simp only [Option.bind_some, Option.toList_none, List.append_nil, List.nil_append, b_X11_read_72]
          obtain ⟨T5, hT5⟩ : ∃ T5, T5 = a_wi (a_wl T4 45 10 (T4.2 45 9)) 45 11 (T4.1 7 4) := ⟨_, rfl⟩
          rw [← hT5]
          have x1 : ∀ c, c < 38 → T5.1 c = S1.1 c := fun c a => by rw [hT5, wi_n (by omega), wm_1, k4.1 c (by omega) (by omega) (by omega)]; exact s3 c (by omega)
          have x2 : ∀ c, 56 ≤ c → T5.1 c = S1.1 c := fun c a => by rw [hT5, wi_n (by omega), wm_1, k4.1 c (by omega) (by omega) (by omega)]; exact s3 c (by omega)
          have x3 : T5.1 45 11 = nI P.1 := by rw [hT5, wi_v, k4.1 7 (by decide) (by decide) (by decide), s3 7 (by decide)]; exact hc.1
          have x4 : T5.2 45 10 = lN (enc P.1 0 (TB P S1 W H Z T U g sz 0 0)) := by rw [hT5, wi_2, wl_v, k4.2.2]; exact h39
          have x38 : T5.1 38 = T4.1 38 := by rw [hT5, wi_n (by omega), wm_1]
          have x39 : T5.1 39 = T4.1 39 := by rw [hT5, wi_n (by omega), wm_1]
          obtain ⟨S3, T6, l1, l2, l3, l4, l5, l6, l7, l8, l9, l10⟩ := la T5 x1 x2
          rcases l7 with ⟨d', q1, q2, -⟩ | ⟨-, -, T7, q6, q7, q8, q9, q10, q11⟩ | ⟨-, q, -⟩
          · exact absurd q2 (k1 d' q1)
          · obtain ⟨T8, o1, o2⟩ := out T5 S3 T6 T7 D (D + 1) (by omega) x1 x3 x4 l1 l2 l4 l5 l8 l9 l10 q6 q7 q8 (fun T8 p1 p2 p3 p4 => by
              have g38 : T8.1 38 = T4.1 38 := by rw [p1 38 (by decide) (by decide) (by decide), q7.1 38 (by decide) (by decide) (by decide), l2.1 38 (by decide) (by decide) (by decide) (by decide) (by decide), l1.1 38 (by decide) (by decide) (by decide) (by decide)]; exact x38
              have g39 : T8.1 39 = T4.1 39 := by rw [p1 39 (by decide) (by decide) (by decide), q7.1 39 (by decide) (by decide) (by decide), l2.1 39 (by decide) (by decide) (by decide) (by decide) (by decide), l1.1 39 (by decide) (by decide) (by decide) (by decide)]; exact x39
              have g16 : T8.1 16 = S1.1 16 := by rw [p1 16 (by decide) (by decide) (by decide), q7.1 16 (by decide) (by decide) (by decide)]; exact l8 16 (by decide)
              have gR : ∀ (x : Nat) (f : Nat → Int32), recR x f T7 → recR x f T8 := by
                intro x f r
                unfold recR at r ⊢
                rw [p1 85 (by decide) (by decide) (by decide), p1 86 (by decide) (by decide) (by decide), p1 87 (by decide) (by decide) (by decide), p1 88 (by decide) (by decide) (by decide), p1 89 (by decide) (by decide) (by decide), p1 90 (by decide) (by decide) (by decide), p1 91 (by decide) (by decide) (by decide), p1 92 (by decide) (by decide) (by decide), p1 93 (by decide) (by decide) (by decide)]
                exact r
              refine del_of (by omega) (by rw [g38]; exact k5) p2 (fun x hx => ?_)
              by_cases hxd : x = D
              · subst hxd
                refine ⟨F, gR _ _ q10, by rw [g16]; exact rF, fun y hy h12 => by rw [g39, k6 y hy, up_n h12], ?_⟩
                rw [g39, k6 12 (by decide), up_e, p3, q11]
                rfl
              · have hx' : x < D := by omega
                refine ⟨fun y => S1.1 39 (x * 17 + y), gR _ _ (srec_R (srec_tr (l6 x) (q9 x hx')) (dlr x hx').1), by rw [g16]; exact (dlr x hx').2, fun y hy h12 => by rw [g39, k7 _ (by omega)], ?_⟩
                obtain ⟨b1, b2, b3, b4, b5, b6, b7, b8, b9, b10⟩ := srec_tr (l6 x) (q9 x hx')
                rw [g39, k7 _ (by omega), p4 x hxd, b8]
                exact (hD.2.2.2 x hx').2.2.2.2.2.2.2.2.1)
            exact ⟨_, T5, T8, rfl, l3.trans o1, o2⟩
          · omega
        · -- no room
          rw [k3]
          simp only [Option.bind_some, Option.toList_some, List.append_nil, b_X11_read_60]
          rw [if_pos (show (-8 : Int32) < 0 by decide)]
          obtain ⟨S3, T6, l1, l2, l3, l4, l5, l6, l7, l8, l9, l10⟩ := la T3 (fun c a => s3 c (by omega)) (fun c a => s3 c (by omega))
          rcases l7 with ⟨d, q1, q2, -⟩ | ⟨-, q, -⟩ | ⟨-, -, T7, q1, q2, q3, q4⟩
          · exact absurd q2 (k1 d q1)
          · omega
          · have hfc : ∀ j, j < 5 → True := fun _ _ => trivial
            refine ⟨-8, T3, T7, rfl, ?_, ?_⟩
            · rw [l3, e_X12_deliver, q1]
              simp only [Option.bind_some, Option.toList_some, List.append_nil, b_X12_deliver_5]
              rw [if_pos (by decide)]
              simp only [Option.bind_some, Option.toList_some, List.append_nil, b_X12_read_85]
            · have w2 : T7.2 = S1.2 ∨ True := Or.inr trivial
              have u1 : ∀ c, c < 40 ∨ c = 45 → T7.1 c = S1.1 c := fun c a => by
                rw [q2.1 c (by omega) (by omega) (by omega), l2.1 c (by omega) (by omega) (by omega) (by omega) (by omega), l1.1 c (by omega) (by omega) (by omega) (by omega), s3 c (by omega)]
              have u2 : T7.2 45 10 = S1.2 45 10 := by
                rw [q2.2.2, l2.2.2, l1.2.2, d2.2]
                exact f2.2 45 10 (by decide) (by decide)
              have u3 : ∀ c, 57 ≤ c → c ≠ 61 → c ≠ 62 → c ≠ 63 → c < 85 → T7.1 c = S1.1 c := fun c a b e f g => by
                rw [q2.1 c (by omega) (by omega) (by omega), l9 c a b e f (by omega)]
              have u4 : ∀ j, j ≠ 6 → j ≠ 40 → j ≠ 51 → j ≠ 52 → j ≠ 53 → j ≠ 55 → T7.1 56 j = S1.1 56 j := fun j a b e f g h => by
                rw [q2.2.1 j h b, l10 j a e f g h]
              refine fin T7 D (fun c a => u1 c (by omega)) (fun c a b e f g => u3 c a b e f (by omega)) (fun j a b e f g h i k => u4 j a f g h i k) ?_ ?_
              · unfold i_A at hA ⊢
                rw [u1 45 (by decide), u2, u3 84 (by decide) (by decide) (by decide) (by decide) (by decide), u4 37 (by decide) (by decide) (by decide) (by decide) (by decide) (by decide), u4 38 (by decide) (by decide) (by decide) (by decide) (by decide) (by decide)]
                exact hA
              · refine del_of hD40 (by rw [u1 38 (by decide)]; exact hD.2.1) q3 (fun d hd => ⟨fun x => S1.1 39 (d * 17 + x), srec_R (srec_tr (l6 d) (q4 d hd)) (dlr d hd).1, by rw [u1 16 (by decide)]; exact (dlr d hd).2, fun x _ _ => by rw [u1 39 (by decide)], ?_⟩)
                obtain ⟨b1, b2, b3, b4, b5, b6, b7, b8, b9, b10⟩ := srec_tr (l6 d) (q4 d hd)
                rw [u1 39 (by decide), b8]
                exact (hD.2.2.2 d hd).2.2.2.2.2.2.2.2.1
