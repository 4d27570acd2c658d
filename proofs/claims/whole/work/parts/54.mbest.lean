/-! ===== the reference's best way ===== -/
theorem cf_B {N W : Nat} {B T : a_M} (e : cf B T) (hB : i_B N W B) : i_B N W T := by
  unfold i_B at hB ⊢
  simp (disch := decide) only [e.1, e.2.1]
  exact hB
theorem cf_H {N H : Nat} {B T : a_M} (e : cf B T) (hH : i_H N H B) : i_H N H T := by
  unfold i_H at hH ⊢
  simp (disch := decide) only [e.1, e.2.1]
  exact hH
theorem cf_Z {N Z : Nat} {B T : a_M} (e : cf B T) (hH : i_Z N Z B) : i_Z N Z T := by
  unfold i_Z at hH ⊢
  simp (disch := decide) only [e.1, e.2.1]
  exact hH
theorem cf_T {N Z : Nat} {B T : a_M} (e : cf B T) (hH : i_T N Z B) : i_T N Z T := by
  unfold i_T at hH ⊢
  simp (disch := decide) only [e.1, e.2.1]
  exact hH
theorem cf_U {N Z : Nat} {B T : a_M} (e : cf B T) (hH : i_U N Z B) : i_U N Z T := by
  unfold i_U at hH ⊢
  simp (disch := decide) only [e.1, e.2.1]
  exact hH
theorem cf_w {P : q_P} {B T : a_M} (e : cf B T) (hm : m_w P B) : m_w P T := by
  unfold m_w at hm ⊢
  simp (disch := decide) only [e.1]
  exact hm
theorem cf_R0 {P : q_P} {B T : a_M} (e : cf B T) (H Z : Nat) (town : Bool) : R0 P T H Z town = R0 P B H Z town := by
  funext s L
  have : ∀ k, fcost P T H town k L s = fcost P B H town k L s := fun k => fcost_c (fun c _ _ => e.1 c (by omega) (by omega) (by omega) (by omega) (by omega)) (e.1 21 (by decide) (by decide) (by decide) (by decide) (by decide)) (e.1 22 (by decide) (by decide) (by decide) (by decide) (by decide)) (e.1 23 (by decide) (by decide) (by decide) (by decide) (by decide)) H town k L s
  show brw _ Z = brw _ Z
  simp only [this]
theorem cf_un {P : q_P} {B T : a_M} (e : cf B T) (W U : Nat) : un P T W U = un P B W U := by
  funext k
  exact un_c (e.1 13 (by decide) (by decide) (by decide) (by decide) (by decide)) (e.1 14 (by decide) (by decide) (by decide) (by decide) (by decide)) (e.1 26 (by decide) (by decide) (by decide) (by decide) (by decide)) (e.1 27 (by decide) (by decide) (by decide) (by decide) (by decide)) W U k
theorem off_far {n k : Nat} {w : Wy} (h : enc n k w < 2 ^ 62) : off n k far w = w := by
  have ef : enc n k far = 2 ^ 62 := if_neg (Nat.lt_irrefl _)
  unfold off
  rw [ef, if_pos h]
theorem off_far2 {n k : Nat} {w : Wy} (h : enc n k w ≤ 2 ^ 62) : off n k w far = w := by
  have ef : enc n k far = 2 ^ 62 := if_neg (Nat.lt_irrefl _)
  unfold off
  rw [ef, if_neg (by omega)]
theorem X12_bestAt {P : q_P} {B T : a_M} {N W H Z TT U G g k p sz : Nat} {t : Nat → Nat → Wy} (ok : q_ok P) (hB : i_B N W B) (hH : i_H N H B) (hZ : i_Z N Z B) (hTT : i_T N TT B) (hU : i_U N U B) (hG : i_G G B) (hm : m_w P B) (h6 : B.1 56 6 = nI P.1) (hg : g < G) (hsz : sz = cl (B.1 35 g)) (hT : cf B T) (hk : k ≤ P.1) (hp : p ≤ sz)
    (hd : ∀ k' p', k ≤ k' → k' ≤ P.1 → p ≤ p' → p' ≤ sz → ¬ (k' = k ∧ p' = p) → okW P.1 sz (RC P B W H Z TT U g) t k' p' (t k' p') ∧ cellM P.1 T k' p' (t k' p')) :
    ∃ T', x_X12_bestAt [.ref 56, .int (nI g), .int (nI k), .int (nI p)] T = some (none, T') ∧ cellM P.1 T' k p (stepW P.1 sz (mus B g) (RC P B W H Z TT U g) (bkc P) t k p) ∧ cfm (6 * k + p) T T' := by
  have hn := ok.1.1
  obtain ⟨z1, z2, z3, -⟩ := X4_facts hG hg
  obtain ⟨gg1, gg2, gg3, gg4, gg5⟩ := hG
  obtain ⟨-, -, a3, a4, -⟩ := gg5 g hg
  rw [← hsz] at z1 z2 z3 a3 a4
  obtain ⟨q, hq⟩ : ∃ q, q = 6 * k + p := ⟨_, rfl⟩
  have hq90 : q < 90 := by omega
  have nq : ¬ (nI q < 0 ∨ 90 ≤ (nI q).toNatClampNeg) := nI_out (by omega) (by decide)
  have nq2 : ¬ (nI q < 0 ∨ 90 ≤ q) := nI_out2 hq90 (by omega)
  have cq : (nI q).toNatClampNeg = q := nI_clamp (by omega)
  have eq1 : (6 : Int32) * nI k + nI p = nI q := by rw [show (6 : Int32) = nI 6 from rfl, pk_mul, nI_add, hq]
  have ng : ¬ (nI g < 0 ∨ 8 ≤ (nI g).toNatClampNeg) := nI_out (by omega) (by decide)
  have ng2 : ¬ (nI g < 0 ∨ 8 ≤ g) := nI_out2 (by omega) (by omega)
  have cg : (nI g).toNatClampNeg = g := nI_clamp (by omega)
  have f56 : ∀ T1, cfm q T T1 → T1.1 56 6 = nI P.1 := fun T1 h => by rw [h.1.2.1 6 (by decide), hT.2.1 6 (by decide), h6]
  have f81 : ∀ T1, cfm q T T1 → T1.1 81 g = nI sz := fun T1 h => by rw [h.1.1 81 (by decide) (by decide) (by decide) (by decide) (by decide), hT.1 81 (by decide) (by decide) (by decide) (by decide) (by decide), ← gg4, a3]
  rw [← hq]
  have go : ∀ T1 w k' p' c L mark take, cfm q T T1 → cellM P.1 T1 k p w → okW P.1 sz (RC P B W H Z TT U g) t k p w → k' = k + L → k ≤ k' → k' ≤ P.1 → p ≤ p' → p' ≤ sz → ¬ (k' = k ∧ p' = p) → ((t k' p').1 < 1000000 ∨ 1 ≤ c) → c ≤ 20 → mark ≤ 5 →
      ∃ T', x_X12_offer [.ref 56, .int (nI q), .int (nI k), .int (nI (c + (t k' p').1)), .int take, .int (nI L), .int (nI mark), .int (nI (6 * k' + p'))] T1 = some (none, T') ∧ cellM P.1 T' k p (off P.1 k w (gen (t k' p') c k L mark take)) ∧ cfm q T T' := by
    intro T1 w k' p' c L mark take h1 h2 h3 h4 h5 h7 h8 h9 h10 h11 h12 h13
    obtain ⟨d1, d2⟩ := hd k' p' h5 h7 h8 h9 h10
    have d3 := cellM_f hn h1 (by omega) d2
    obtain ⟨T', r1, r2, r3⟩ := X12_offer (n := P.1) (k := k) (p := p) (fr := 6 * k' + p') (c := c) (L := L) (mark := mark) (r := t k' p') (old := w) (take := take) (T := T1) hn (f56 T1 h1) (by omega) (by omega) (by omega) (by omega) h11 h12 h13 h2 h3.1 (fun hf => ⟨by have := (h3.2 hf).1; omega, (h3.2 hf).2.1⟩) d1.1
      (fun hf => ⟨by have := (d1.2 hf).1; omega, fun j a b => (d1.2 hf).2.1 j (by omega) b, fun j a b => d3.2.2 hf j (by omega) b⟩)
    rw [← hq] at r1 r3
    exact ⟨T', r1, r2, cfm_tr h1 r3⟩
  have c96 : ∀ T1 k' p', cfm q T T1 → k ≤ k' → k' ≤ P.1 → p ≤ p' → p' ≤ sz → ¬ (k' = k ∧ p' = p) → T1.1 96 (6 * k' + p') = nI (t k' p').1 := by
    intro T1 k' p' h1 h5 h7 h8 h9 h10
    exact (cellM_f hn h1 (by omega) (hd k' p' h5 h7 h8 h9 h10).2).1
  have hleft := okW_left (k := k) (p := p) (sz := sz) (t := t) (rc := RC P B W H Z TT U g) hn z2 (fun hq => (hd (k + 1) p (by omega) (by omega) (Nat.le_refl _) hp (by omega)).1)
  -- the rows
  have rowsL : ∀ w, okW P.1 sz (RC P B W H Z TT U g) t k p w → p < sz → ∀ d L T1, L + d = 4 → cfm q T T1 → cellM P.1 T1 k p (rowsW P.1 (RC P B W H Z TT U g) (bkc P) t k p w L) →
      ∃ T', g_X12_bestAt 142 [.ref 56, .int (nI g), .int (nI k), .int (nI p), .int (nI q), .int (nI (bkc P k L)), .int (nI (L + 1)), .null, .null] [] T1 = some (none, T') ∧ cellM P.1 T' k p (rowsW P.1 (RC P B W H Z TT U g) (bkc P) t k p w 4) ∧ cfm q T T' := by
    intro w hw hps d
    have hrows := okW_rows (bk := bkc P) hn z2 hps (fun p k L _ h4 h => RC_20 P B W H Z TT U g p k L h4 h) hw (fun k' a b => (hd k' (p + 1) (by omega) b (by omega) (by omega) (by omega)).1)
    induction d with
    | zero =>
      intro L T1 hL h1 h2
      obtain rfl : L = 4 := by omega
      rw [b_X12_bestAt_142, if_pos (show (4 : Int32) < nI (4 + 1) by decide)]
      exact ⟨T1, rfl, h2, h1⟩
    | succ d ih =>
      intro L T1 hL h1 h2
      rw [b_X12_bestAt_142, if_neg (show ¬ (4 : Int32) < nI (L + 1) from nI_nlt (a := 4) (by omega) (by decide)), f56 T1 h1, nI_add]
      by_cases hfit : k + (L + 1) ≤ P.1
      · rw [if_neg (nI_nlt (by omega) (by omega))]
        have eb : g_X12_bestAt 186 [.ref 56, .int (nI g), .int (nI k), .int (nI p), .int (nI q), .null, .int (nI (L + 1)), .null, .null] [.int (if L = 0 then 0 else if q_br P (k + L) = true then 2 else 0), .int (nI (bkc P k L))] T1 = (if (1 : Int32) < nI (L + 1) then (if nI (k + (L + 1)) - 1 < 0 ∨ 14 ≤ (nI (k + (L + 1)) - 1).toNatClampNeg then none else (if T1.1 63 (nI (k + (L + 1)) - 1).toNatClampNeg = 0 then g_X12_bestAt 185 [.ref 56, .int (nI g), .int (nI k), .int (nI p), .int (nI q), .null, .int (nI (L + 1)), .null, .null] [.int (nI (bkc P k L))] T1 else g_X12_bestAt 186 [.ref 56, .int (nI g), .int (nI k), .int (nI p), .int (nI q), .null, .int (nI (L + 1)), .null, .null] [.int 2, .int (nI (bkc P k L))] T1)) else g_X12_bestAt 185 [.ref 56, .int (nI g), .int (nI k), .int (nI p), .int (nI q), .null, .int (nI (L + 1)), .null, .null] [.int (nI (bkc P k L))] T1) := by
          by_cases hl0 : L = 0
          · subst hl0
            rw [if_pos rfl, if_neg (by decide), b_X12_bestAt_185]
          · rw [if_neg hl0, if_pos (show (1 : Int32) < nI (L + 1) from nI_lt (a := 1) (by omega) (by omega)), show nI (k + (L + 1)) - 1 = nI (k + L) from nI_pred (k + L), if_neg (nI_out (by omega) (by decide)), nI_clamp (by omega), h1.1.1 63 (by decide) (by decide) (by decide) (by decide) (by decide), hT.1 63 (by decide) (by decide) (by decide) (by decide) (by decide), (hm (k + L) (by omega)).2.1, b_X12_bestAt_185]
            by_cases hbr : q_br P (k + L) = true
            · rw [if_pos hbr, b2i_t hbr, if_neg (by decide)]
            · rw [if_neg hbr, b2i_f hbr, if_pos rfl]
        rw [← eb, b_X12_bestAt_186]
        have ebk : nI (bkc P k L) + (if L = 0 then 0 else if q_br P (k + L) = true then 2 else 0) = nI (bkc P k (L + 1)) := by
          by_cases hl0 : L = 0
          · subst hl0; rw [if_pos rfl]; rfl
          · rw [if_neg hl0, bkc_s P k L (by omega)]
            by_cases hbr : q_br P (k + L) = true
            · rw [if_pos hbr, if_pos hbr]; exact nI_add _ 2
            · rw [if_neg hbr, if_neg hbr]; exact nI_add _ 0
        have e5 : (5 : Int32) * nI g + nI p = nI (5 * g + p) := by rw [show (5 : Int32) = nI 5 from rfl, pk_mul, nI_add]
        have ea7 : ((6 : Int32) * nI (k + (L + 1)) + nI p) + 1 = nI (6 * (k + (L + 1)) + (p + 1)) := by
          rw [show (6 : Int32) = nI 6 from rfl, pk_mul, nI_add, nI_1, Nat.add_assoc]
        have hcf := cf_tr hT h1.1
        have e82 : T1.1 82 (5 * g + p) = nI (pts B g p) := by
          rw [hcf.1 82 (by decide) (by decide) (by decide) (by decide) (by decide)]
          exact (a4 p hps).2.2.1
        obtain ⟨T2, r1, r2, -⟩ := X12_rowCost (T := T1) (p := pts B g p) (s := k) (L := L + 1) ok (cf_B hcf hB) (cf_H hcf hH) (cf_Z hcf hZ) (cf_T hcf hTT) (cf_U hcf hU) (cf_w hcf hm) (z3 p hps) (by omega) (by omega) hfit
        have hrc : rcost P (fun s L => brw (fun k => fcost P T1 H false k L s) Z) (fun s L => brw (fun k => fcost P T1 H true k L s) TT) (un P T1 W U) (pts B g p) k (L + 1) = RC P B W H Z TT U g p k (L + 1) := by
          show rcost P (R0 P T1 H Z false) (R0 P T1 H TT true) (un P T1 W U) (pts B g p) k (L + 1) = _
          rw [cf_R0 hcf, cf_R0 hcf, cf_un hcf]
        rw [hrc] at r1
        rw [e5, if_neg (nI_out (by omega) (by decide)), nI_clamp (by omega), e82, nI_add k (L + 1), ea7, ebk, r1]
        simp only [Option.bind_some, Option.toList_some, List.append_nil, b_X12_bestAt_221]
        have h1' := cfm_tr h1 (cfm_row r2)
        have h2' := cellM_row r2 h2
        have hle := RC_le P B W H Z TT U g p k (L + 1)
        have eR : rowsW P.1 (RC P B W H Z TT U g) (bkc P) t k p w (L + 1) = if k + (L + 1) ≤ P.1 ∧ RC P B W H Z TT U g p k (L + 1) < 1000000 then off P.1 k (rowsW P.1 (RC P B W H Z TT U g) (bkc P) t k p w L) (gen (t (k + (L + 1)) (p + 1)) (RC P B W H Z TT U g p k (L + 1) + bkc P k (L + 1)) k (L + 1) p (nI (L + 1))) else rowsW P.1 (RC P B W H Z TT U g) (bkc P) t k p w L := rfl
        obtain ⟨rc, hrcv⟩ : ∃ rc, rc = RC P B W H Z TT U g p k (L + 1) := ⟨_, rfl⟩
        rw [← hrcv] at eR hle ⊢
        by_cases hlt : rc < 1000000
        · have hb20 := RC_20 P B W H Z TT U g p k (L + 1) (by omega) (by rw [← hrcv]; exact hlt)
          rw [← hrcv] at hb20
          rw [if_pos ⟨hfit, hlt⟩] at eR
          have hd1 := (hd (k + (L + 1)) (p + 1) (by omega) hfit (by omega) (by omega) (by omega)).1.1
          rw [if_pos (show nI rc < 1000000 from nI_lt (b := 1000000) hlt (by decide)), if_neg (nI_out (by omega) (by decide)), nI_clamp (by omega), c96 T2 _ _ h1' (by omega) hfit (by omega) (by omega) (by omega)]
          by_cases hrf : (t (k + (L + 1)) (p + 1)).1 < 1000000
          · rw [if_pos (show nI (t (k + (L + 1)) (p + 1)).1 < 1000000 from nI_lt (b := 1000000) hrf (by decide)), if_neg (show ¬ (nI (6 * (k + (L + 1)) + (p + 1)) < 0 ∨ 90 ≤ 6 * (k + (L + 1)) + (p + 1)) from nI_out2 (by omega) (by omega)), nI_add, nI_add]
            obtain ⟨T3, s1, s2, s3⟩ := go T2 _ (k + (L + 1)) (p + 1) (rc + bkc P k (L + 1)) (L + 1) p (nI (L + 1)) h1' h2' (hrows L (by omega)) rfl (by omega) hfit (by omega) (by omega) (by omega) (Or.inl hrf) hb20 (by omega)
            rw [s1]
            simp only [Option.bind_some, Option.toList_none, List.append_nil, b_X12_bestAt_269]
            rw [nI_1]
            exact ih (L + 1) T3 (by omega) s3 (by rw [eR]; exact s2)
          · rw [if_neg (show ¬ nI (t (k + (L + 1)) (p + 1)).1 < 1000000 from nI_nlt (b := 1000000) (by omega) (by omega)), nI_1]
            have eg : gen (t (k + (L + 1)) (p + 1)) (rc + bkc P k (L + 1)) k (L + 1) p (nI (L + 1)) = far := if_neg hrf
            refine ih (L + 1) T2 (by omega) h1' ?_
            rw [eR, eg, off_far2 (okW_enc hn z2 hk (hrows L (by omega)))]
            exact h2'
        · rw [if_neg (show ¬ nI rc < 1000000 from nI_nlt (b := 1000000) (by omega) (by omega)), nI_1]
          rw [if_neg (fun q => hlt q.2)] at eR
          refine ih (L + 1) T2 (by omega) h1' ?_
          rw [eR]
          exact h2'
      · rw [if_pos (nI_lt (by omega) (by omega))]
        have := rowsW_stop (n := P.1) (rc := RC P B W H Z TT U g) (bk := bkc P) (t := t) (k := k) (p := p) (w := w) (L := L) (by omega) (4 - L)
        rw [show L + (4 - L) = 4 by omega] at this
        rw [this]
        exact ⟨T1, rfl, h2, h1⟩
  have fin87 : ∀ T1 w, cfm q T T1 → cellM P.1 T1 k p w → okW P.1 sz (RC P B W H Z TT U g) t k p w →
      ∃ T', g_X12_bestAt 87 [.ref 56, .int (nI g), .int (nI k), .int (nI p), .int (nI q), .null, .null, .null, .null] [] T1 = some (none, T') ∧ cellM P.1 T' k p (if p = sz then w else rowsW P.1 (RC P B W H Z TT U g) (bkc P) t k p (abse P.1 (mus B g) t k p w) 4) ∧ cfm q T T' := by
    intro T1 w h1 h2 h3
    rw [b_X12_bestAt_87, if_neg ng, cg, f81 T1 h1]
    by_cases hps : p = sz
    · rw [if_pos (by rw [hps]), if_pos hps]
      exact ⟨T1, rfl, h2, h1⟩
    · have e5 : (5 : Int32) * nI g + nI p = nI (5 * g + p) := by rw [show (5 : Int32) = nI 5 from rfl, pk_mul, nI_add]
      have hcf := cf_tr hT h1.1
      have e83 : T1.1 83 (5 * g + p) = b2i (mus B g p) := by
        rw [hcf.1 83 (by decide) (by decide) (by decide) (by decide) (by decide)]
        exact (a4 p (by omega)).2.2.2
      rw [if_neg (nI_ne (by omega) (by omega) hps), if_neg hps, e5, if_neg (nI_out (by omega) (by decide)), nI_clamp (by omega), e83]
      by_cases hmu : mus B g p
      · rw [if_neg (by rw [b2i_t hmu]; decide), b_X12_bestAt_136]
        have ea : abse P.1 (mus B g) t k p w = w := if_pos hmu
        rw [ea]
        exact rowsL w h3 (by omega) 4 0 T1 rfl h1 h2
      · have ea : abse P.1 (mus B g) t k p w = off P.1 k w (gen (t k (p + 1)) 3 k 0 0 0) := if_neg hmu
        have hab := okW_abse (mu := mus B g) hn z2 (show p < sz by omega) h3 (hd k (p + 1) (Nat.le_refl _) hk (by omega) (by omega) (by omega)).1
        rw [ea] at hab ⊢
        have eqp : nI q + 1 = nI (6 * k + (p + 1)) := by rw [nI_1, hq, Nat.add_assoc]
        obtain ⟨T2, s1, s2, s3⟩ := go T1 w k (p + 1) 3 0 0 0 h1 h2 h3 rfl (Nat.le_refl _) hk (by omega) (by omega) (by omega) (Or.inr (by decide)) (by decide) (by decide)
        have s1' : x_X12_offer [.ref 56, .int (nI q), .int (nI k), .int (3 + nI (t k (p + 1)).1), .int 0, .int 0, .int 0, .int (nI (6 * k + (p + 1)))] T1 = some (none, T2) := by
          rw [show (3 : Int32) = nI 3 from rfl, nI_add]
          exact s1
        rw [if_pos (by rw [b2i_f hmu]), eqp, if_neg (nI_out (by omega) (by decide)), nI_clamp (by omega), c96 T1 k (p + 1) h1 (Nat.le_refl _) hk (by omega) (by omega) (by omega), s1']
        simp only [Option.bind_some, Option.toList_none, List.append_nil, b_X12_bestAt_136]
        exact rowsL _ hab (by omega) 4 0 T2 rfl s3 s2
  have T0f : cfm q T (a_wi (a_wi T 96 q 1000000) 97 q 0) := ⟨⟨fun c _ _ a b _ => by rw [wi_n b, wi_n a], fun j _ => by rw [wi_n (by decide), wi_n (by decide)], rfl⟩, fun x hx => ⟨by rw [wi_n (by decide), wi_s hx], by rw [wi_s hx, wi_n (by decide)], fun i hi => by rw [wi_n (by decide), wi_n (by decide)]⟩⟩
  have T0c : cellM P.1 (a_wi (a_wi T 96 q 1000000) 97 q 0) k p far := by
    refine ⟨?_, ?_, fun h => absurd h (Nat.lt_irrefl _)⟩
    · rw [← hq, wi_n (by decide), wi_v]; rfl
    · rw [← hq, wi_v]; rfl
  have go52 : ¬ (k = P.1 ∧ p = sz) → ∃ T', g_X12_bestAt 52 [.ref 56, .int (nI g), .int (nI k), .int (nI p), .int (nI q), .null, .null, .null, .null] [] (a_wi (a_wi T 96 q 1000000) 97 q 0) = some (none, T') ∧ cellM P.1 T' k p (stepW P.1 sz (mus B g) (RC P B W H Z TT U g) (bkc P) t k p) ∧ cfm q T T' := by
    intro hne
    have es : stepW P.1 sz (mus B g) (RC P B W H Z TT U g) (bkc P) t k p = if p = sz then left P.1 t k p else rowsW P.1 (RC P B W H Z TT U g) (bkc P) t k p (abse P.1 (mus B g) t k p (left P.1 t k p)) 4 := if_neg hne
    rw [es, b_X12_bestAt_52, f56 _ T0f]
    by_cases hkn : k < P.1
    · have el : left P.1 t k p = gen (t (k + 1) p) 4 k 1 5 (-1) := if_pos hkn
      have eqp : nI q + 6 = nI (6 * (k + 1) + p) := by
        rw [show (6 : Int32) = nI 6 from rfl, nI_add]
        congr 1
        omega
      obtain ⟨T2, s1, s2, s3⟩ := go _ far (k + 1) p 4 1 5 (-1) T0f T0c (okW_far _ _ _ _ _ _) rfl (by omega) (by omega) (Nat.le_refl _) hp (by omega) (Or.inr (by decide)) (by decide) (by decide)
      have s1' : x_X12_offer [.ref 56, .int (nI q), .int (nI k), .int (4 + nI (t (k + 1) p).1), .int (-1), .int 1, .int 5, .int (nI (6 * (k + 1) + p))] (a_wi (a_wi T 96 q 1000000) 97 q 0) = some (none, T2) := by
        rw [show (4 : Int32) = nI 4 from rfl, nI_add]
        exact s1
      rw [if_pos (nI_lt hkn (by omega)), eqp, if_neg (nI_out (by omega) (by decide)), nI_clamp (by omega), c96 _ (k + 1) p T0f (by omega) (by omega) (Nat.le_refl _) hp (by omega), s1']
      simp only [Option.bind_some, Option.toList_none, List.append_nil]
      have eo : off P.1 k far (gen (t (k + 1) p) 4 k 1 5 (-1)) = left P.1 t k p := by
        rw [← el]
        by_cases hf : (left P.1 t k p).1 < 1000000
        · refine off_far ?_
          have := (enc_lt (w := left P.1 t k p) hn hk hf (by have := (hleft.2 hf).1; omega) (hleft.2 hf).2.1).2
          omega
        · have : left P.1 t k p = far := by
            rw [el] at hf ⊢
            unfold gen at hf ⊢
            by_cases hr : (t (k + 1) p).1 < 1000000
            · rw [if_pos hr] at hf
              have b1 := (hd (k + 1) p (by omega) (by omega) (Nat.le_refl _) hp (by omega)).1.2 hr
              exact absurd (show 4 + (t (k + 1) p).1 < 1000000 by have := b1.1; omega) hf
            · rw [if_neg hr]
          rw [this]
          unfold off
          rw [if_neg (Nat.lt_irrefl _)]
      rw [eo] at s2
      exact fin87 T2 _ s3 s2 hleft
    · have el : left P.1 t k p = far := if_neg hkn
      rw [if_neg (nI_nlt (by omega) (by omega))]
      rw [el] at hleft ⊢
      exact fin87 _ _ T0f T0c hleft
  rw [e_X12_bestAt, eq1, if_neg nq, if_neg nq, cq, hT.2.1 6 (by decide), h6]
  by_cases hkn : k = P.1
  · rw [if_pos (by rw [hkn]), if_neg ng, cg, f81 T (cfm_rfl _ _)]
    by_cases hps : p = sz
    · rw [if_pos (by rw [hps]), if_neg nq2]
      have es : stepW P.1 sz (mus B g) (RC P B W H Z TT U g) (bkc P) t k p = (0, fun _ => 0, 0) := if_pos ⟨hkn, hps⟩
      rw [es]
      refine ⟨_, rfl, ⟨?_, ?_, fun _ j a b => by omega⟩, cfm_tr T0f ⟨⟨fun c _ _ a _ _ => wi_n a, fun j _ => by rw [wi_n (by decide)], rfl⟩, fun x hx => ⟨wi_s hx, by rw [wi_n (by decide)], fun i hi => by rw [wi_n (by decide)]⟩⟩⟩
      · rw [← hq, wi_v]; rfl
      · rw [← hq, wi_n (by decide), wi_v]
    · rw [if_neg (nI_ne (by omega) (by omega) hps)]
      exact go52 (fun q => hps q.2)
  · rw [if_neg (nI_ne (by omega) (by omega) hkn)]
    exact go52 (fun q => hkn q.1)
