/-! ===== the reference's lay ===== -/
theorem cd_B {N W d : Nat} {B T : a_M} (e : cd d B T) (hB : i_B N W B) : i_B N W T := by
  unfold i_B at hB ⊢
  simp (disch := decide) only [e.1, e.2.1]
  exact hB
theorem cd_H {N H d : Nat} {B T : a_M} (e : cd d B T) (hH : i_H N H B) : i_H N H T := by
  unfold i_H at hH ⊢
  simp (disch := decide) only [e.1, e.2.1]
  exact hH
theorem cd_Z {N Z d : Nat} {B T : a_M} (e : cd d B T) (hH : i_Z N Z B) : i_Z N Z T := by
  unfold i_Z at hH ⊢
  simp (disch := decide) only [e.1, e.2.1]
  exact hH
theorem cd_T {N Z d : Nat} {B T : a_M} (e : cd d B T) (hH : i_T N Z B) : i_T N Z T := by
  unfold i_T at hH ⊢
  simp (disch := decide) only [e.1, e.2.1]
  exact hH
theorem cd_U {N Z d : Nat} {B T : a_M} (e : cd d B T) (hH : i_U N Z B) : i_U N Z T := by
  unfold i_U at hH ⊢
  simp (disch := decide) only [e.1, e.2.1]
  exact hH
theorem cd_w {P : q_P} {d : Nat} {B T : a_M} (e : cd d B T) (hm : m_w P B) : m_w P T := by
  unfold m_w at hm ⊢
  simp (disch := decide) only [e.1]
  exact hm
theorem cd_R0 {P : q_P} {d : Nat} {B T : a_M} (e : cd d B T) (H Z : Nat) (town : Bool) : R0 P T H Z town = R0 P B H Z town := by
  funext s L
  have : ∀ k, fcost P T H town k L s = fcost P B H town k L s := fun k => fcost_c (fun c _ _ => e.1 c (by omega) (by omega) (by omega)) (e.1 21 (by decide) (by decide) (by decide)) (e.1 22 (by decide) (by decide) (by decide)) (e.1 23 (by decide) (by decide) (by decide)) H town k L s
  show brw _ Z = brw _ Z
  simp only [this]
theorem cd_un {P : q_P} {d : Nat} {B T : a_M} (e : cd d B T) (W U : Nat) : un P T W U = un P B W U := by
  funext k
  exact un_c (e.1 13 (by decide) (by decide) (by decide)) (e.1 14 (by decide) (by decide) (by decide)) (e.1 26 (by decide) (by decide) (by decide)) (e.1 27 (by decide) (by decide) (by decide)) W U k
theorem lt_le {P : q_P} {k : Nat} (h : ld P k < q_len P k → p_small (q_sg P k (ld P k))) : ∃ v, v ≤ 122 ∧ lt_ P k = nI v := by
  unfold lt_
  by_cases h1 : ld P k < q_len P k
  · rw [if_pos h1]
    obtain ⟨g1, g2⟩ := h h1
    obtain ⟨j, j1, j2⟩ := nI_of (x := q_sg P k (ld P k)) (fun q => g1 (Int32.lt_trans q (by decide)))
    rw [j2] at g2
    refine ⟨j, ?_, j2⟩
    rcases Nat.lt_or_ge 122 j with g | g
    · exact absurd (show nI 122 < nI j from nI_lt g (by omega)) g2
    · exact g
  · rw [if_neg h1]; exact ⟨0, by decide, rfl⟩
theorem un_name {P : q_P} {N W U k : Nat} {S : a_M} (hU : i_U N U S) (h : ¬ un P S W U k = -1) : ∃ v, v < N ∧ cl (S.1 16 v) = 1 ∧ un P S W U k = nI v := by
  unfold un at h ⊢
  rcases unm_spec (S.1 26) (S.1 27) (lkf P (S.1 14) (S.1 13) W k) U with ⟨u, g1, g2, g3⟩ | ⟨g1, g2⟩
  · obtain ⟨u1, u2, u3, u4, u5, u6⟩ := hU
    obtain ⟨a1, a2, a3, a4⟩ := u5 u g1
    exact ⟨_, a1, a3, g3.trans a2⟩
  · exact absurd g2 h
theorem X12_lay {P : q_P} {T : a_M} {N W H Z TT U d part s L : Nat} {f : Nat → Int32} (ok : q_ok P) (hpos : ∀ k, k < P.1 → 0 < q_len P k) (hB : i_B N W T) (hH : i_H N H T) (hZ : i_Z N Z T) (hTT : i_T N TT T) (hU : i_U N U T) (hm : m_w P T) (hd : d < 40) (hf : recR d f T) (hF : recF N Z TT (T.1 16) f) (hp : part ≤ 4) (hp0 : f part = 0) (hL : 1 ≤ L) (hL4 : L ≤ 4) (hs : s + L ≤ P.1)
    (hr : rcost P (R0 P T H Z false) (R0 P T H TT true) (un P T W U) part s L < 1000000) :
    ∃ T', x_X12_lay [.ref 56, .int (nI d), .int (nI part), .int (nI s), .int (nI (s + L))] T = some (none, T') ∧ cd d T T' ∧ recR d (layF P (R0 P T H Z false) (R0 P T H TT true) (un P T W U) part s L f) T' ∧ recF N Z TT (T.1 16) (layF P (R0 P T H Z false) (R0 P T H TT true) (un P T W U) part s L f) ∧ T'.1 94 = T.1 94 := by
  have hn := ok.1.1
  have nd : ¬ (nI d < 0 ∨ 40 ≤ (nI d).toNatClampNeg) := nI_out (by omega) (by decide)
  have nd2 : ¬ (nI d < 0 ∨ 40 ≤ d) := nI_out2 (by omega) (by omega)
  have cdd : (nI d).toNatClampNeg = d := nI_clamp (by omega)
  have e5 : (5 : Int32) * nI d + nI part = nI (5 * d + part) := by rw [show (5 : Int32) = nI 5 from rfl, pk_mul, nI_add]
  have h0 := cd_85 (d := d) (i := part) T 1 (by omega)
  have hm0 := cd_w h0 hm
  obtain ⟨f85, f86, f87, f88, f89, f90, f92, f93, f91⟩ := hf
  have e85 : ∀ i, i < 5 → (a_wi T 85 (5 * d + part) 1).1 85 (5 * d + i) = upd f part 1 i := by
    intro i hi
    rw [wi_e, up_x, up_x]
    by_cases h : i = part
    · rw [if_pos (by omega), if_pos h]
    · rw [if_neg (by omega), if_neg h]; exact f85 i hi
  have hF' := hF
  obtain ⟨F0, F1, F2, F3, F4⟩ := hF'
  rw [e_X12_lay, e5, if_neg (nI_out (by omega) (by decide)), nI_clamp (by omega)]
  unfold rcost at hr
  unfold layF
  rcases (show part = 0 ∨ part = 1 ∨ part = 2 ∨ part = 3 ∨ part = 4 by omega) with rfl | rfl | rfl | rfl | rfl
  · rw [if_pos rfl] at hr ⊢
    have hh : L = 1 ∧ isNum P s := by
      by_cases hq : L = 1 ∧ isNum P s
      · exact hq
      · rw [if_neg hq] at hr; omega
    have hz : ld P s < q_len P s → p_small (q_sg P s (ld P s)) := fun q => by rcases hh.2.2.2 with g | g; omega; exact g.2
    have hsl := ok.1.2.2.1 s (by omega)
    have hld := ld_le P s
    rw [if_pos (show nI 0 = 0 by decide), X12_figures ok hm0 (by omega)]
    simp only [Option.bind_some, Option.toList_some, List.cons_append, List.nil_append, b_X12_lay_20]
    rw [X12_valueOf ok hm0 (by omega)]
    simp only [Option.bind_some, Option.toList_some, List.cons_append, List.nil_append, b_X12_lay_32]
    have r : recR d (upd (upd (upd f 0 1) 5 (vl (q_sg P s) (ld P s))) 6 (lt_ P s)) (a_wi (a_wi (a_wi T 85 (5 * d + 0) 1) 86 d (vl (q_sg P s) (ld P s))) 87 d (lt_ P s)) := by
      refine ⟨fun i hi => ?_, ?_, ?_, ?_, ?_, ?_, ?_, ?_, fun i hi => ?_⟩
      · rw [wi_n (by decide), wi_n (by decide), e85 i hi, up_x, up_x, up_x, if_neg (show ¬ i = 6 by omega), if_neg (show ¬ i = 5 by omega)]; rfl
      · rw [wi_n (by decide), wi_v]; rfl
      · rw [wi_v]; rfl
      · rw [wi_n (by decide), wi_n (by decide), wi_n (by decide)]; exact f88
      · rw [wi_n (by decide), wi_n (by decide), wi_n (by decide)]; exact f89
      · rw [wi_n (by decide), wi_n (by decide), wi_n (by decide)]; exact f90
      · rw [wi_n (by decide), wi_n (by decide), wi_n (by decide)]; exact f92
      · rw [wi_n (by decide), wi_n (by decide), wi_n (by decide)]; exact f93
      · rw [wi_n (by decide), wi_n (by decide), wi_n (by decide)]
        rw [up_n (show 13 + i ≠ 6 by omega), up_n (show 13 + i ≠ 5 by omega), up_n (show 13 + i ≠ 0 by omega)]
        exact f91 i hi
    have rF : recF N Z TT (T.1 16) (upd (upd (upd f 0 1) 5 (vl (q_sg P s) (ld P s))) 6 (lt_ P s)) := by
      obtain ⟨v, v1, v2⟩ := vl_le (q_sg P s) (ld P s) hh.2.2.1 (fun i hi => q_lead_fig _ _ i hi)
      have h10 : 10 ^ ld P s ≤ 10 ^ 5 := Nat.pow_le_pow_right (by decide) hh.2.2.1
      exact ⟨Or.inl ⟨rfl, ⟨v, by omega, v2⟩, lt_le hz⟩, F1, F2, F3, F4⟩
    have hcd : cd d T (a_wi (a_wi (a_wi T 85 (5 * d + 0) 1) 86 d (vl (q_sg P s) (ld P s))) 87 d (lt_ P s)) := cd_tr h0 (cd_tr (cd_1 _ _ (by decide)) (cd_1 _ _ (by decide)))
    rw [if_neg nd, if_neg (nI_out (by omega) (by decide)), nI_clamp (by omega), cdd, (hm0 s (by omega)).1]
    by_cases hlt : ld P s < q_len P s
    · have e16 : (16 : Int32) * nI s + nI (ld P s) = nI (16 * s + ld P s) := by rw [show (16 : Int32) = nI 16 from rfl, pk_mul, nI_add]
      have elt : lt_ P s = q_sg P s (ld P s) := if_pos hlt
      rw [if_pos (nI_lt hlt (by omega)), e16, if_neg (nI_out (by omega) (by decide)), nI_clamp (by omega), if_neg nd2, (hm0 s (by omega)).2.2 _ hlt, ← elt]
      exact ⟨_, rfl, hcd, r, rF, by simp (disch := decide) only [wi_n]⟩
    · have elt : lt_ P s = 0 := if_neg hlt
      rw [if_neg (nI_nlt (by omega) (by omega)), if_neg nd2]
      rw [elt] at hcd r rF ⊢
      exact ⟨_, rfl, hcd, r, rF, by simp (disch := decide) only [wi_n]⟩
  · rw [if_neg (show ¬ (1 : Nat) = 0 by decide), if_pos rfl] at hr ⊢
    rw [if_neg (show ¬ nI 1 = 0 by decide), if_pos (show nI 1 = 1 by decide)]
    obtain ⟨T1, r1, r2, r3⟩ := X12_rowCost (T := a_wi T 85 (5 * d + 1) 1) (p := 1) (s := s) (L := L) ok (cd_B h0 hB) (cd_H h0 hH) (cd_Z h0 hZ) (cd_T h0 hTT) (cd_U h0 hU) hm0 (by decide) hL hL4 hs
    have r1' : x_X12_rowCost [.ref 56, .int 1, .int (nI s), .int (nI (s + L))] (a_wi T 85 (5 * d + 1) 1) = _ := r1
    rw [r1']
    simp only [Option.bind_some, Option.toList_some, List.cons_append, List.nil_append, List.append_nil, b_X12_lay_82]
    rw [if_neg nd, cdd, r3]
    have en : rnum (R0 P (a_wi T 85 (5 * d + 1) 1) H Z false) (R0 P (a_wi T 85 (5 * d + 1) 1) H TT true) 1 s L = (R0 P T H Z false s L).2 := by
      rw [cd_R0 h0, cd_R0 h0]; rfl
    have en' : rnum (fun s L => brw (fun k => fcost P (a_wi T 85 (5 * d + 1) 1) H false k L s) Z) (fun s L => brw (fun k => fcost P (a_wi T 85 (5 * d + 1) 1) H true k L s) TT) 1 s L = (R0 P T H Z false s L).2 := en
    refine ⟨_, rfl, cd_tr h0 (cd_tr (cd_row r2) (cd_1 _ _ (by decide))), ?_, ?_, by rw [wi_n (by decide), r2.1 94 (by decide) (by decide), wi_n (by decide)]⟩
    · rw [en']
      refine ⟨fun i hi => ?_, ?_, ?_, ?_, ?_, ?_, ?_, ?_, fun i hi => ?_⟩
      · rw [wi_n (by decide), r2.1 85 (by decide) (by decide), e85 i hi, up_x, up_x, up_x, if_neg (show ¬ i = 7 by omega)]
      · rw [wi_n (by decide), r2.1 86 (by decide) (by decide), wi_n (by decide)]; exact f86
      · rw [wi_n (by decide), r2.1 87 (by decide) (by decide), wi_n (by decide)]; exact f87
      · rw [wi_v]; rfl
      · rw [wi_n (by decide), r2.1 89 (by decide) (by decide), wi_n (by decide)]; exact f89
      · rw [wi_n (by decide), r2.1 90 (by decide) (by decide), wi_n (by decide)]; exact f90
      · rw [wi_n (by decide), r2.1 92 (by decide) (by decide), wi_n (by decide)]; exact f92
      · rw [wi_n (by decide), r2.1 93 (by decide) (by decide), wi_n (by decide)]; exact f93
      · rw [wi_n (by decide), r2.1 91 (by decide) (by decide), wi_n (by decide), up_n (show 13 + i ≠ 7 by omega), up_n (show 13 + i ≠ 1 by omega)]
        exact f91 i hi
    · obtain ⟨j, j1, j2, j3⟩ := brw_far _ _ hr
      exact ⟨F0, Or.inl ⟨rfl, j, j1, j3⟩, F2, F3, F4⟩
  · rw [if_neg (show ¬ (2 : Nat) = 0 by decide), if_neg (show ¬ (2 : Nat) = 1 by decide), if_pos rfl] at hr ⊢
    have hh : L = 2 ∧ ¬ un P T W U s = -1 ∧ q_len P (s + 1) ≤ 4 := by
      by_cases hq : L = 2 ∧ ¬ un P T W U s = -1 ∧ q_len P (s + 1) ≤ 4
      · exact hq
      · rw [if_neg hq] at hr; omega
    obtain ⟨n, hN⟩ : ∃ n, n = q_len P (s + 1) := ⟨_, rfl⟩
    have hn1 := hpos (s + 1) (by omega)
    have hw := X12_unitWordAt (t := s) ok (cd_B h0 hB) (cd_U h0 hU) hm0 (by omega)
    rw [cd_un h0] at hw
    have F29 : f 9 = -1 := by
      rcases F2 with q | q
      · rw [hp0] at q; exact absurd q.1 (by decide)
      · exact q.2.2
    rw [if_neg (show ¬ nI 2 = 0 by decide), if_neg (show ¬ nI 2 = 1 by decide), if_pos (show nI 2 = 2 by decide), hw]
    simp only [Option.bind_some, Option.toList_some, List.cons_append, List.nil_append, b_X12_lay_111]
    rw [if_neg nd, nI_1, if_neg (nI_out (by omega) (by decide)), cdd, if_neg nd2, nI_clamp (show s + 1 < 2 ^ 31 by omega), (hm0 (s + 1) (by omega)).1]
    rw [← hN] at hn1 hh ⊢
    have loop : ∀ e i T1, i + e = n → cd d T T1 → (∀ j, j < 5 → T1.1 85 (5 * d + j) = upd f 2 1 j) → (T1.1 86 d = f 5 ∧ T1.1 87 d = f 6 ∧ T1.1 88 d = f 7 ∧ T1.1 89 d = un P T W U s ∧ T1.1 90 d = nI n ∧ T1.1 92 d = f 10 ∧ T1.1 93 d = f 11) → (∀ j, j < i → T1.1 91 (4 * d + j) = q_sg P (s + 1) j) → T1.1 94 = T.1 94 →
        ∃ T', g_X12_lay 129 [.ref 56, .int (nI d), .null, .int (nI s), .null, .int (nI i)] [] T1 = some (none, T') ∧ cd d T T' ∧ recR d (sgF P s (upd (upd (upd f 2 1) 8 (un P T W U s)) 9 (nI n)) n) T' ∧ T'.1 94 = T.1 94 := by
      intro e
      induction e with
      | zero =>
        intro i T1 k1 k2 k3 k4 k5 k6
        obtain rfl : i = n := by omega
        obtain ⟨l1, l2, l3, l4, l5, l6, l7⟩ := k4
        rw [b_X12_lay_129, cdd, if_neg nd2, l5, if_neg (nI_nlt (Nat.le_refl _) (by omega))]
        have sx : ∀ x, x < 13 → sgF P s (upd (upd (upd f 2 1) 8 (un P T W U s)) 9 (nI i)) i x = upd (upd (upd f 2 1) 8 (un P T W U s)) 9 (nI i) x := fun x hx => by rw [sgF_x, if_neg (by omega)]
        refine ⟨T1, rfl, k2, ⟨fun j hj => ?_, ?_, ?_, ?_, ?_, ?_, ?_, ?_, fun j hj => ?_⟩, k6⟩
        · rw [sx j (by omega), k3 j hj, up_n (show j ≠ 9 by omega), up_n (show j ≠ 8 by omega)]
        · rw [sx 5 (by decide)]; exact l1
        · rw [sx 6 (by decide)]; exact l2
        · rw [sx 7 (by decide)]; exact l3
        · rw [sx 8 (by decide)]; exact l4
        · rw [sx 9 (by decide)]; exact l5
        · rw [sx 10 (by decide)]; exact l6
        · rw [sx 11 (by decide)]; exact l7
        · rw [sx 9 (by decide), sgF_x, show upd (upd (upd f 2 1) 8 (un P T W U s)) 9 (nI i) 9 = nI i from up_e _ _ _]
          by_cases hji : j < i
          · rw [if_pos (by omega), if_pos (nI_lt hji (by omega)), k5 j hji, Nat.add_sub_cancel_left]
          · rw [if_neg (by omega), if_neg (nI_nlt (by omega) (by omega)), up_n (show 13 + j ≠ 9 by omega), up_n (show 13 + j ≠ 8 by omega), up_n (show 13 + j ≠ 2 by omega), f91 j hj, F29, if_neg]
            exact fun q => nI_pos (n := j) (by omega) (Int32.lt_trans q (by decide))
      | succ e ih =>
        intro i T1 k1 k2 k3 k4 k5 k6
        obtain ⟨l1, l2, l3, l4, l5, l6, l7⟩ := k4
        have e16 : (16 : Int32) * nI (s + 1) + nI i = nI (16 * (s + 1) + i) := by rw [show (16 : Int32) = nI 16 from rfl, pk_mul, nI_add]
        have e4 : (4 : Int32) * nI d + nI i = nI (4 * d + i) := by rw [show (4 : Int32) = nI 4 from rfl, pk_mul, nI_add]
        rw [b_X12_lay_129, cdd, if_neg nd2, l5, if_pos (nI_lt (by omega) (by omega)), nI_1, e16, e4, if_neg (nI_out (by omega) (by decide)), if_neg (nI_out (by omega) (by decide)), nI_clamp (by omega), nI_clamp (by omega), nI_1, k2.1 62 (by decide) (by decide) (by decide), (hm (s + 1) (by omega)).2.2 i (by omega)]
        refine ih (i + 1) _ (by omega) (cd_tr k2 (cd_91 _ _ (by omega))) (fun j hj => by rw [wi_n (by decide)]; exact k3 j hj) (by simp (disch := decide) only [wi_n]; exact ⟨l1, l2, l3, l4, l5, l6, l7⟩) (fun j hj => ?_) ((wi_n (by decide)).trans k6)
        by_cases hji : j = i
        · subst hji; rw [wi_v]
        · rw [wi_s (by omega)]; exact k5 j (by omega)
    obtain ⟨T', r1, r2, r3, r4⟩ := loop n 0 (a_wi (a_wi (a_wi T 85 (5 * d + 2) 1) 89 d (un P T W U s)) 90 d (nI n)) (Nat.zero_add _) (cd_tr h0 (cd_tr (cd_1 _ _ (by decide)) (cd_1 _ _ (by decide)))) (fun j hj => by rw [wi_n (by decide), wi_n (by decide)]; exact e85 j hj)
      ⟨by rw [wi_n (by decide), wi_n (by decide), wi_n (by decide)]; exact f86, by rw [wi_n (by decide), wi_n (by decide), wi_n (by decide)]; exact f87, by rw [wi_n (by decide), wi_n (by decide), wi_n (by decide)]; exact f88, by rw [wi_n (by decide), wi_v], wi_v _ _ _ _, by rw [wi_n (by decide), wi_n (by decide), wi_n (by decide)]; exact f92, by rw [wi_n (by decide), wi_n (by decide), wi_n (by decide)]; exact f93⟩ (fun j hj => absurd hj (Nat.not_lt_zero _)) (by simp (disch := decide) only [wi_n])
    rw [nI_0] at r1
    refine ⟨T', r1, r2, r3, ?_, r4⟩
    have sx : ∀ x, x < 13 → sgF P s (upd (upd (upd f 2 1) 8 (un P T W U s)) 9 (nI n)) n x = upd (upd (upd f 2 1) 8 (un P T W U s)) 9 (nI n) x := fun x hx => by rw [sgF_x, if_neg (by omega)]
    unfold recF
    rw [sx 0 (by decide), sx 1 (by decide), sx 2 (by decide), sx 3 (by decide), sx 4 (by decide), sx 5 (by decide), sx 6 (by decide), sx 7 (by decide), sx 8 (by decide), sx 9 (by decide), sx 10 (by decide), sx 11 (by decide)]
    obtain ⟨v, v1, v2, v3⟩ := un_name hU hh.2.1
    exact ⟨F0, F1, Or.inl ⟨rfl, ⟨v, v1, v2, v3⟩, ⟨n, by omega, by omega, rfl⟩⟩, F3, F4⟩
  · rw [if_neg (show ¬ (3 : Nat) = 0 by decide), if_neg (show ¬ (3 : Nat) = 1 by decide), if_neg (show ¬ (3 : Nat) = 2 by decide), if_pos rfl] at hr ⊢
    rw [if_neg (show ¬ nI 3 = 0 by decide), if_neg (show ¬ nI 3 = 1 by decide), if_neg (show ¬ nI 3 = 2 by decide), if_pos (show nI 3 = 3 by decide)]
    obtain ⟨T1, r1, r2, r3⟩ := X12_rowCost (T := a_wi T 85 (5 * d + 3) 1) (p := 3) (s := s) (L := L) ok (cd_B h0 hB) (cd_H h0 hH) (cd_Z h0 hZ) (cd_T h0 hTT) (cd_U h0 hU) hm0 (by decide) hL hL4 hs
    have r1' : x_X12_rowCost [.ref 56, .int 3, .int (nI s), .int (nI (s + L))] (a_wi T 85 (5 * d + 3) 1) = _ := r1
    rw [r1']
    simp only [Option.bind_some, Option.toList_some, List.cons_append, List.nil_append, List.append_nil, b_X12_lay_187]
    rw [if_neg nd, cdd, r3]
    have en : rnum (R0 P (a_wi T 85 (5 * d + 3) 1) H Z false) (R0 P (a_wi T 85 (5 * d + 3) 1) H TT true) 3 s L = (R0 P T H TT true s L).2 := by
      rw [cd_R0 h0, cd_R0 h0]; rfl
    have en' : rnum (fun s L => brw (fun k => fcost P (a_wi T 85 (5 * d + 3) 1) H false k L s) Z) (fun s L => brw (fun k => fcost P (a_wi T 85 (5 * d + 3) 1) H true k L s) TT) 3 s L = (R0 P T H TT true s L).2 := en
    refine ⟨_, rfl, cd_tr h0 (cd_tr (cd_row r2) (cd_1 _ _ (by decide))), ?_, ?_, by rw [wi_n (by decide), r2.1 94 (by decide) (by decide), wi_n (by decide)]⟩
    · rw [en']
      refine ⟨fun i hi => ?_, ?_, ?_, ?_, ?_, ?_, ?_, ?_, fun i hi => ?_⟩
      · rw [wi_n (by decide), r2.1 85 (by decide) (by decide), e85 i hi, up_x, up_x, up_x, if_neg (show ¬ i = 10 by omega)]
      · rw [wi_n (by decide), r2.1 86 (by decide) (by decide), wi_n (by decide)]; exact f86
      · rw [wi_n (by decide), r2.1 87 (by decide) (by decide), wi_n (by decide)]; exact f87
      · rw [wi_n (by decide), r2.1 88 (by decide) (by decide), wi_n (by decide)]; exact f88
      · rw [wi_n (by decide), r2.1 89 (by decide) (by decide), wi_n (by decide)]; exact f89
      · rw [wi_n (by decide), r2.1 90 (by decide) (by decide), wi_n (by decide)]; exact f90
      · rw [wi_v]; rfl
      · rw [wi_n (by decide), r2.1 93 (by decide) (by decide), wi_n (by decide)]; exact f93
      · rw [wi_n (by decide), r2.1 91 (by decide) (by decide), wi_n (by decide), up_n (show 13 + i ≠ 10 by omega), up_n (show 13 + i ≠ 3 by omega)]
        exact f91 i hi
    · obtain ⟨j, j1, j2, j3⟩ := brw_far _ _ hr
      exact ⟨F0, F1, F2, Or.inl ⟨rfl, j, j1, j3⟩, F4⟩
  · rw [if_neg (show ¬ (4 : Nat) = 0 by decide), if_neg (show ¬ (4 : Nat) = 1 by decide), if_neg (show ¬ (4 : Nat) = 2 by decide), if_neg (show ¬ (4 : Nat) = 3 by decide)] at hr ⊢
    have hh : L = 1 ∧ isCod P s := by
      by_cases hq : L = 1 ∧ isCod P s
      · exact hq
      · rw [if_neg hq] at hr; omega
    rw [if_neg (show ¬ nI 4 = 0 by decide), if_neg (show ¬ nI 4 = 1 by decide), if_neg (show ¬ nI 4 = 2 by decide), if_neg (show ¬ nI 4 = 3 by decide), X12_valueOf ok hm0 (by omega)]
    simp only [Option.bind_some, Option.toList_some, List.cons_append, List.nil_append, b_X12_lay_211]
    rw [if_neg nd, cdd]
    refine ⟨_, rfl, cd_tr h0 (cd_1 _ _ (by decide)), ?_, ?_, by rw [wi_n (by decide), wi_n (by decide)]⟩
    · refine ⟨fun i hi => ?_, ?_, ?_, ?_, ?_, ?_, ?_, ?_, fun i hi => ?_⟩
      · rw [wi_n (by decide), e85 i hi, up_x, up_x, up_x, if_neg (show ¬ i = 11 by omega)]
      · rw [wi_n (by decide), wi_n (by decide)]; exact f86
      · rw [wi_n (by decide), wi_n (by decide)]; exact f87
      · rw [wi_n (by decide), wi_n (by decide)]; exact f88
      · rw [wi_n (by decide), wi_n (by decide)]; exact f89
      · rw [wi_n (by decide), wi_n (by decide)]; exact f90
      · rw [wi_n (by decide), wi_n (by decide)]; exact f92
      · rw [wi_v]; rfl
      · rw [wi_n (by decide), wi_n (by decide), up_n (show 13 + i ≠ 11 by omega), up_n (show 13 + i ≠ 4 by omega)]
        exact f91 i hi
    · have h5 : ld P s ≤ 5 := by have := hh.2.1; omega
      obtain ⟨v, v1, v2⟩ := vl_le (q_sg P s) (ld P s) h5 (fun i hi => q_lead_fig _ _ i hi)
      have h10 : 10 ^ ld P s ≤ 10 ^ 5 := Nat.pow_le_pow_right (by decide) h5
      exact ⟨F0, F1, F2, F3, Or.inl ⟨rfl, v, by omega, v2⟩⟩
