/-! ===== both sides of describing ===== -/
abbrev PF (P : q_P) (S : a_M) (W H Z TT U g sz : Nat) : Nat → Int32 := pf P (R0 P S H Z false) (R0 P S H TT true) (un P S W U) sz (pts S g) (TB P S W H Z TT U g sz) (P.1 + sz) 0 0 f00
theorem TB_ok {P : q_P} {S : a_M} {G g W H Z TT U sz : Nat} (hn : P.1 ≤ 14) (hG : i_G G S) (hg : g < G) (hsz : sz = cl (S.1 35 g)) : ∀ k p, k ≤ P.1 → p ≤ sz → okW P.1 sz (RC P S W H Z TT U g) (TB P S W H Z TT U g sz) k p (TB P S W H Z TT U g sz k p) := by
  obtain ⟨z1, z2, z3, -⟩ := X4_facts hG hg
  rw [← hsz] at z2
  intro k p hk hp
  exact tab_ok (mu := mus S g) (rc := RC P S W H Z TT U g) (bk := bkc P) hn z2 (fun p k L _ h4 h => RC_20 P S W H Z TT U g p k L h4 h) _ k p hk hp rfl
theorem X7_describe {P : q_P} {S T : a_M} {W H Z TT U G g sz : Nat} (ok : q_ok P) (hc : q_c P S) (hG : i_G G S) (hg : g < G) (hsz : sz = cl (S.1 35 g)) (hT : cfb S T) (h9 : T.2 45 9 = lN (enc P.1 0 (TB P S W H Z TT U g sz 0 0))) (h0 : rows P.1 (T.1 47) (T.1 48) (R0 P S H Z false)) (h1 : rows P.1 (T.1 50) (T.1 51) (R0 P S H TT true)) (hu : ∀ k, k < P.1 → T.1 52 k = un P S W U k)
    (hf : (TB P S W H Z TT U g sz 0 0).1 < 1000000) : ∃ T', x_X7_describe [.ref 45, .int (nI g)] T = some (none, T') ∧ c40 T T' ∧ ∀ x, x < 17 → T'.1 40 x = PF P S W H Z TT U g sz x := by
  have hn := ok.1.1
  obtain ⟨z1, z2, z3, z4⟩ := X4_facts hG hg
  rw [← hsz] at z1 z2 z3 z4
  have hok := TB_ok (W := W) (H := H) (Z := Z) (TT := TT) (U := U) hn hG hg hsz
  obtain ⟨b1, b2, b3⟩ := (hok 0 0 (Nat.zero_le _) (Nat.zero_le _)).2 hf
  obtain ⟨T1, c1, c2, c3⟩ := X1_clearDraft T
  rw [e_X7_describe, c1]
  simp only [Option.bind_some, Option.toList_none, List.append_nil, b_X7_describe_7]
  have s1 : ∀ c, c < 40 → T1.1 c = S.1 c := fun c a => (c2.1 c (by omega)).trans (hT.1 c (by omega))
  have z5 : ∀ T', c40 T1 T' → _ := fun T' h => z4 T' (by rw [h.1 35 (by decide), s1 35 (by decide)]) (by rw [h.1 36 (by decide), s1 36 (by decide)]) (by rw [h.1 37 (by decide), s1 37 (by decide)])
  have ee := (enc_lt (w := TB P S W H Z TT U g sz 0 0) hn (Nat.zero_le _) hf (by omega) b2).1
  have h9' : T1.2 45 9 = lN (e_way (TB P S W H Z TT U g sz 0 0).1 (TB P S W H Z TT U g sz 0 0).2.1 0 P.1) := by rw [c2.2, h9, ee]; rfl
  obtain ⟨T', d1, d2, d3⟩ := X7_describe9 (S := T1) (g := g) (t := TB P S W H Z TT U g sz) ok (q_c_same hc (fun c a b => s1 c (by omega))) (by rw [c2.1 47 (by decide), c2.1 48 (by decide)]; exact h0) (by rw [c2.1 50 (by decide), c2.1 51 (by decide)]; exact h1) (by rw [c2.1 52 (by decide)]; exact hu) z2 (fun T' h => (z5 T' h).1) (fun T' h => (z5 T' h).2.2) z3 hok h9' (by omega) (fun j hj => by have := b2 j (Nat.zero_le _) hj; omega)
    (P.1 + sz) 0 0 T1 (by omega) (Nat.zero_le _) (Nat.zero_le _) hf (c40_rfl _) (fun _ _ _ => rfl) (fun j hj => absurd hj (Nat.not_lt_zero _))
  rw [nI_0] at d1
  refine ⟨T', d1, c40_tr c2 d2, fun x hx => ?_⟩
  rw [d3]
  exact pf_17 _ _ _ c3 x hx
theorem X12_layRows {P : q_P} {S S' : a_M} {N W H Z TT U G g d sz : Nat} (ok : q_ok P) (hpos : ∀ k, k < P.1 → 0 < q_len P k) (hB : i_B N W S) (hH : i_H N H S) (hZ : i_Z N Z S) (hTT : i_T N TT S) (hU : i_U N U S) (hG : i_G G S) (hm : m_w P S) (h6 : S.1 56 6 = nI P.1) (hg : g < G) (hsz : sz = cl (S.1 35 g)) (hd : d < 40)
    (hcell : ∀ k p, k ≤ P.1 → p ≤ sz → cellM P.1 S k p (TB P S W H Z TT U g sz k p)) (hf : (TB P S W H Z TT U g sz 0 0).1 < 1000000) (h99 : c99 S S') :
    ∃ T', x_X12_layRows [.ref 56, .int (nI g), .int (nI d)] S' = some (none, T') ∧ cd d S' T' ∧ recR d (PF P S W H Z TT U g sz) T' ∧ recF N Z TT (S.1 16) (PF P S W H Z TT U g sz) ∧ T'.1 94 d = 0 := by
  have hn := ok.1.1
  obtain ⟨z1, z2, z3, z4⟩ := X4_facts hG hg
  rw [← hsz] at z1 z2 z3 z4
  have hok := TB_ok (W := W) (H := H) (Z := Z) (TT := TT) (U := U) hn hG hg hsz
  have q : ∀ c, c ≠ 99 → c ≠ 100 → c ≠ 101 → S'.1 c = S.1 c := h99.1
  have hB' : i_B N W S' := by unfold i_B at hB ⊢; simp (disch := decide) only [q]; exact hB
  have hH' : i_H N H S' := by unfold i_H at hH ⊢; simp (disch := decide) only [q]; exact hH
  have hZ' : i_Z N Z S' := by unfold i_Z at hZ ⊢; simp (disch := decide) only [q]; exact hZ
  have hTT' : i_T N TT S' := by unfold i_T at hTT ⊢; simp (disch := decide) only [q]; exact hTT
  have hU' : i_U N U S' := by unfold i_U at hU ⊢; simp (disch := decide) only [q]; exact hU
  have hG' : i_G G S' := by unfold i_G at hG ⊢; simp (disch := decide) only [q]; exact hG
  have hm' : m_w P S' := by unfold m_w at hm ⊢; simp (disch := decide) only [q]; exact hm
  obtain ⟨t1, t2, t3, t4⟩ := TB_c (P := P) (S := S) (T := S') (H := H) (fun c a b => q c (by omega) (by omega) (by omega)) (q 82 (by decide) (by decide) (by decide)) W Z TT U g sz
  have e16 : S'.1 16 = S.1 16 := q 16 (by decide) (by decide) (by decide)
  have e35 : S'.1 35 = S.1 35 := q 35 (by decide) (by decide) (by decide)
  obtain ⟨T1, c1, c2, c3, c4⟩ := X12_blank (T := S') (f := f00) hd (fun x _ => rfl)
  have hok' := TB_ok (W := W) (H := H) (Z := Z) (TT := TT) (U := U) (sz := sz) hn hG' hg (by rw [e35]; exact hsz)
  obtain ⟨T', d1, d2, d3, d4, d5⟩ := X12_rows10 (S := S') (d := d) (t := TB P S' W H Z TT U g sz) ok hpos hB' hH' hZ' hTT' hU' hG' hm' (by rw [q 56 (by decide) (by decide) (by decide)]; exact h6) hg (by rw [e35]; exact hsz) hd hok' (fun k p a b => by
    rw [t1]
    have := hcell k p a b
    unfold cellM at this ⊢
    rw [q 96 (by decide) (by decide) (by decide), q 97 (by decide) (by decide) (by decide), q 98 (by decide) (by decide) (by decide)]
    exact this) (P.1 + sz) 0 0 T1 f00 (by omega) (Nat.zero_le _) (Nat.zero_le _) (by rw [t1]; exact hf) c2 c3 ⟨Or.inr ⟨rfl, rfl, rfl⟩, Or.inr ⟨rfl, rfl⟩, Or.inr ⟨rfl, rfl, rfl⟩, Or.inr ⟨rfl, rfl⟩, Or.inr ⟨rfl, rfl⟩⟩ (fun p' _ b => by
    rw [t4]
    have := z3 p' b
    exact if_pos (by omega))
  rw [t1, t2, t2, t3, t4] at d3 d4
  rw [e16] at d4
  rw [nI_0] at d1
  rw [e_X12_layRows, c1]
  simp only [Option.bind_some, Option.toList_none, List.append_nil, b_X12_layRows_5]
  exact ⟨T', d1, d2, d3, d4, d5 c4⟩
