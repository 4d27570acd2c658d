/-! ===== the reference's cost of a row ===== -/
def crow (B T : a_M) : Prop := (∀ c, c ≠ 56 → c ≠ 95 → T.1 c = B.1 c) ∧ (∀ j, j ≠ 55 → T.1 56 j = B.1 56 j) ∧ T.2 = B.2
theorem crow_rfl (B : a_M) : crow B B := ⟨fun _ _ _ => rfl, fun _ _ => rfl, rfl⟩
theorem crow_tr {A B C : a_M} (h1 : crow A B) (h2 : crow B C) : crow A C :=
  ⟨fun c a b => (h2.1 c a b).trans (h1.1 c a b), fun j a => (h2.2.1 j a).trans (h1.2.1 j a), h2.2.2.trans h1.2.2⟩
theorem crow_95 {B T : a_M} (h : c95 B T) : crow B T := ⟨fun c _ b => h.1 c b, fun j _ => by rw [h.1 56 (by decide)], h.2⟩
theorem crow_55 (B : a_M) (v : Int32) : crow B (a_wi B 56 55 v) := ⟨fun c a _ => wi_n a, fun j a => wi_s a, rfl⟩
theorem crow_B {N W : Nat} {B T : a_M} (e : crow B T) (hB : i_B N W B) : i_B N W T := by
  unfold i_B at hB ⊢
  simp (disch := decide) only [e.1, e.2.1]
  exact hB
theorem crow_H {N H : Nat} {B T : a_M} (e : crow B T) (hH : i_H N H B) : i_H N H T := by
  unfold i_H at hH ⊢
  simp (disch := decide) only [e.1, e.2.1]
  exact hH
theorem crow_Z {N Z : Nat} {B T : a_M} (e : crow B T) (hH : i_Z N Z B) : i_Z N Z T := by
  unfold i_Z at hH ⊢
  simp (disch := decide) only [e.1, e.2.1]
  exact hH
theorem crow_T {N Z : Nat} {B T : a_M} (e : crow B T) (hH : i_T N Z B) : i_T N Z T := by
  unfold i_T at hH ⊢
  simp (disch := decide) only [e.1, e.2.1]
  exact hH
theorem crow_U {N Z : Nat} {B T : a_M} (e : crow B T) (hH : i_U N Z B) : i_U N Z T := by
  unfold i_U at hH ⊢
  simp (disch := decide) only [e.1, e.2.1]
  exact hH
theorem crow_w {P : q_P} {B T : a_M} (e : crow B T) (hm : m_w P B) : m_w P T := by
  unfold m_w at hm ⊢
  simp (disch := decide) only [e.1]
  exact hm
theorem crow_f {P : q_P} {B T : a_M} (e : crow B T) (H : Nat) (town : Bool) (k L t : Nat) : fcost P T H town k L t = fcost P B H town k L t :=
  fcost_c (fun c _ _ => e.1 c (by omega) (by omega)) (e.1 21 (by decide) (by decide)) (e.1 22 (by decide) (by decide)) (e.1 23 (by decide) (by decide)) H town k L t
theorem X12_rowLoop {P : q_P} {B : a_M} {N W H Z TT s L : Nat} {town : Bool} (ok : q_ok P) (hB : i_B N W B) (hH : i_H N H B) (hZ : i_Z N Z B) (hTT : i_T N TT B) (hm : m_w P B) (hL4 : L ≤ 4) (hs : s + L ≤ P.1) :
    ∀ d k T, k + d = (if town = true then TT else Z) → crow B T → T.1 56 55 = (brw (fun k => fcost P B H town k L s) k).2 →
    ∃ T', g_X12_rowCost 129 [.ref 56, .null, .int (nI s), .int (nI (s + L)), .int (nI L), .int (b2i (town = true)), .int (nI (brw (fun k => fcost P B H town k L s) k).1), .int (nI k), .null] [] T = some (some (.int (nI (brw (fun k => fcost P B H town k L s) (if town = true then TT else Z)).1)), T') ∧ crow B T' ∧ T'.1 56 55 = (brw (fun k => fcost P B H town k L s) (if town = true then TT else Z)).2 := by
  have hn := ok.1.1
  have hM : (if town = true then TT else Z) ≤ 30 := by
    cases town with
    | true => have := hTT.1; show TT ≤ 30; omega
    | false => exact hZ.1
  obtain ⟨M, hMe⟩ : ∃ M, M = (if town = true then TT else Z) := ⟨_, rfl⟩
  rw [← hMe] at hM ⊢
  have st : ∀ T x k, crow B T → g_X12_rowCost 129 [.ref 56, .null, .int (nI s), .int (nI (s + L)), .int (nI L), .int (b2i (town = true)), .int x, .int (nI k), .null] [] T = g_X12_rowCost 147 [.ref 56, .null, .int (nI s), .int (nI (s + L)), .int (nI L), .int (b2i (town = true)), .int x, .int (nI k), .null] [.int (nI M), .int (nI k)] T := by
    intro T x k h
    rw [b_X12_rowCost_129]
    cases town with
    | true => rw [if_neg (by decide), h.2.1 20 (by decide), hTT.2.2.1, hMe]; rfl
    | false => rw [if_pos (by decide), h.2.1 17 (by decide), hZ.2.2.1, hMe]; rfl
  intro d
  induction d with
  | zero =>
    intro k T h1 h2 h3
    obtain rfl : k = M := by omega
    rw [st T _ _ h2, b_X12_rowCost_147, if_neg (nI_nlt (Nat.le_refl _) (by omega))]
    exact ⟨T, rfl, h2, h3⟩
  | succ d ih =>
    intro k T h1 h2 h3
    obtain ⟨T1, f1, f2⟩ := X12_fitCost (T := T) (k := k) (town := town) ok (crow_B h2 hB) (crow_H h2 hH) (crow_Z h2 hZ) (crow_T h2 hTT) (crow_w h2 hm) ⟨fun _ _ => rfl, rfl⟩ (by rw [← hMe]; omega) (Nat.le_add_right s L) hs
    rw [Nat.add_sub_cancel_left, crow_f h2] at f1
    rw [st T _ _ h2, b_X12_rowCost_147, if_pos (nI_lt (by omega) (by omega)), if_neg (show ¬ (4 : Int32) < nI L from nI_nlt (a := 4) hL4 (by decide)), f1]
    simp only [Option.bind_some, Option.toList_some, List.append_nil, b_X12_rowCost_171]
    rw [nI_1]
    have hb := brw_le (fun k => fcost P B H town k L s) k
    have hf := fcost_far P B H town k L s
    have h2' := crow_tr h2 (crow_95 f2)
    have eb : brw (fun k => fcost P B H town k L s) (k + 1) = if fcost P B H town k L s < (brw (fun k => fcost P B H town k L s) k).1 then (fcost P B H town k L s, nI k) else brw (fun k => fcost P B H town k L s) k := rfl
    by_cases hlt : fcost P B H town k L s < (brw (fun k => fcost P B H town k L s) k).1
    · rw [if_pos (nI_lt hlt (by omega))]
      rw [if_pos hlt] at eb
      have := ih (k + 1) (a_wi T1 56 55 (nI k)) (by omega) (crow_tr h2' (crow_55 _ _)) (by rw [wi_v, eb])
      rw [eb] at this
      exact this
    · rw [if_neg (nI_nlt (by omega) (by omega))]
      rw [if_neg hlt] at eb
      have := ih (k + 1) T1 (by omega) h2' (by rw [(crow_95 f2).1 56 |> fun _ => f2.1 56 (by decide), h3, eb])
      rw [eb] at this
      exact this
theorem X12_rowCost {P : q_P} {T : a_M} {N W H Z TT U p s L : Nat} (ok : q_ok P) (hB : i_B N W T) (hH : i_H N H T) (hZ : i_Z N Z T) (hTT : i_T N TT T) (hU : i_U N U T) (hm : m_w P T) (hp : p ≤ 4) (hL : 1 ≤ L) (hL4 : L ≤ 4) (hs : s + L ≤ P.1) :
    ∃ T', x_X12_rowCost [.ref 56, .int (nI p), .int (nI s), .int (nI (s + L))] T = some (some (.int (nI (rcost P (fun s L => brw (fun k => fcost P T H false k L s) Z) (fun s L => brw (fun k => fcost P T H true k L s) TT) (un P T W U) p s L))), T') ∧ crow T T' ∧
      T'.1 56 55 = rnum (fun s L => brw (fun k => fcost P T H false k L s) Z) (fun s L => brw (fun k => fcost P T H true k L s) TT) p s L := by
  have hn := ok.1.1
  have esub : nI (s + L) - nI s = nI L := by rw [pk_sub (by omega), Nat.add_sub_cancel_left]
  have c0 := crow_55 T (-1)
  have hm' := crow_w c0 hm
  rw [e_X12_rowCost, esub]
  unfold rcost rnum
  rcases (show p = 0 ∨ p = 1 ∨ p = 2 ∨ p = 3 ∨ p = 4 by omega) with rfl | rfl | rfl | rfl | rfl
  · rw [if_pos (show nI 0 = 0 by decide), if_pos rfl, if_neg (show ¬ (0 : Nat) = 1 by decide), if_neg (show ¬ (0 : Nat) = 3 by decide)]
    by_cases hl : L = 1
    · rw [if_pos (show nI L = 1 by rw [hl]; rfl), X12_isNumber ok hm' (by omega)]
      simp only [Option.bind_some, Option.toList_some, List.append_nil, b_X12_rowCost_25, b2i_z]
      by_cases hq : isNum P s
      · rw [if_neg (fun q => q hq), if_pos ⟨hl, hq⟩]; exact ⟨_, rfl, c0, wi_v _ _ _ _⟩
      · rw [if_pos hq, if_neg (fun q => hq q.2)]; exact ⟨_, rfl, c0, wi_v _ _ _ _⟩
    · rw [if_neg (show ¬ nI L = 1 from nI_ne (b := 1) (by omega) (by decide) hl), if_neg (fun q => hl q.1)]; exact ⟨_, rfl, c0, wi_v _ _ _ _⟩
  · rw [if_neg (show ¬ nI 1 = 0 by decide), if_neg (show ¬ nI 1 = 2 by decide), if_neg (show ¬ nI 1 = 4 by decide), if_pos (show nI 1 = 1 by decide), if_neg (show ¬ (1 : Nat) = 0 by decide), if_pos rfl, if_pos rfl, b_X12_rowCost_120]
    obtain ⟨T', r1, r2, r3⟩ := X12_rowLoop (B := T) (H := H) (town := false) ok hB hH hZ hTT hm hL4 hs _ 0 (a_wi T 56 55 (-1)) (Nat.zero_add _) c0 (wi_v _ _ _ _)
    exact ⟨T', r1, r2, r3⟩
  · rw [if_neg (show ¬ nI 2 = 0 by decide), if_pos (show nI 2 = 2 by decide), if_neg (show ¬ (2 : Nat) = 0 by decide), if_neg (show ¬ (2 : Nat) = 1 by decide), if_pos rfl, if_neg (show ¬ (2 : Nat) = 3 by decide)]
    by_cases hl : L = 2
    · have hk := X12_unitWordAt (t := s) ok (crow_B c0 hB) (crow_U c0 hU) hm' (by omega)
      have eu : un P (a_wi T 56 55 (-1)) W U s = un P T W U s := un_c (c0.1 13 (by decide) (by decide)) (c0.1 14 (by decide) (by decide)) (c0.1 26 (by decide) (by decide)) (c0.1 27 (by decide) (by decide)) W U s
      rw [eu] at hk
      rw [if_pos (show nI L = 2 by rw [hl]; rfl), hk]
      simp only [Option.bind_some, Option.toList_some, List.append_nil, b_X12_rowCost_51]
      have hlen := ok.1.2.2.1 (s + 1) (by omega)
      have hneg : un P T W U s < 0 ↔ un P T W U s = -1 := by
        unfold un
        rcases unm_spec (T.1 26) (T.1 27) (lkf P (T.1 14) (T.1 13) W s) U with ⟨u, g1, g2, g3⟩ | ⟨g1, g2⟩
        · obtain ⟨u1, u2, u3, u4, u5, u6⟩ := hU
          obtain ⟨a1, a2, a3, a4⟩ := u5 u g1
          have := hB.1
          rw [g3, a2]
          exact ⟨fun q => absurd q (nI_pos (by omega)), fun q => absurd (show nI _ < 0 by rw [q]; decide) (nI_pos (by omega))⟩
        · rw [g2]; decide
      by_cases hq : un P T W U s = -1
      · rw [if_pos (hneg.mpr hq), if_neg (fun q => q.2.1 hq)]; exact ⟨_, rfl, c0, wi_v _ _ _ _⟩
      · rw [if_neg (fun q => hq (hneg.mp q)), nI_1, if_neg (nI_out (by omega) (by decide)), nI_clamp (by omega), (hm' (s + 1) (by omega)).1]
        by_cases hw : q_len P (s + 1) ≤ 4
        · rw [if_neg (show ¬ (4 : Int32) < nI (q_len P (s + 1)) from nI_nlt (a := 4) hw (by decide)), if_pos ⟨hl, hq, hw⟩]; exact ⟨_, rfl, c0, wi_v _ _ _ _⟩
        · rw [if_pos (show (4 : Int32) < nI (q_len P (s + 1)) from nI_lt (a := 4) (by omega) (by omega)), if_neg (fun q => hw q.2.2)]; exact ⟨_, rfl, c0, wi_v _ _ _ _⟩
    · rw [if_neg (show ¬ nI L = 2 from nI_ne (b := 2) (by omega) (by decide) hl), if_neg (fun q => hl q.1)]; exact ⟨_, rfl, c0, wi_v _ _ _ _⟩
  · rw [if_neg (show ¬ nI 3 = 0 by decide), if_neg (show ¬ nI 3 = 2 by decide), if_neg (show ¬ nI 3 = 4 by decide), if_neg (show ¬ nI 3 = 1 by decide), if_neg (show ¬ (3 : Nat) = 0 by decide), if_neg (show ¬ (3 : Nat) = 1 by decide), if_neg (show ¬ (3 : Nat) = 2 by decide), if_pos rfl, if_neg (show ¬ (3 : Nat) = 1 by decide), if_pos rfl, b_X12_rowCost_120]
    obtain ⟨T', r1, r2, r3⟩ := X12_rowLoop (B := T) (H := H) (town := true) ok hB hH hZ hTT hm hL4 hs _ 0 (a_wi T 56 55 (-1)) (Nat.zero_add _) c0 (wi_v _ _ _ _)
    exact ⟨T', r1, r2, r3⟩
  · rw [if_neg (show ¬ nI 4 = 0 by decide), if_neg (show ¬ nI 4 = 2 by decide), if_pos (show nI 4 = 4 by decide), if_neg (show ¬ (4 : Nat) = 0 by decide), if_neg (show ¬ (4 : Nat) = 1 by decide), if_neg (show ¬ (4 : Nat) = 2 by decide), if_neg (show ¬ (4 : Nat) = 3 by decide), if_neg (show ¬ (4 : Nat) = 1 by decide), if_neg (show ¬ (4 : Nat) = 3 by decide)]
    by_cases hl : L = 1
    · have hlen := ok.1.2.2.1 s (by omega)
      have hld := ld_le P s
      rw [if_pos (show nI L = 1 by rw [hl]; rfl), X12_figures ok hm' (by omega)]
      simp only [Option.bind_some, Option.toList_some, List.append_nil, b_X12_rowCost_89]
      by_cases hq : ld P s = 5
      · rw [if_pos (show nI (ld P s) = 5 by rw [hq]; rfl), if_neg (nI_out (by omega) (by decide)), nI_clamp (by omega), (hm' s (by omega)).1]
        by_cases hw : q_len P s = 5
        · rw [if_pos (show nI (q_len P s) = 5 by rw [hw]; rfl), if_pos ⟨hl, hq, hw⟩]; exact ⟨_, rfl, c0, wi_v _ _ _ _⟩
        · rw [if_neg (show ¬ nI (q_len P s) = 5 from nI_ne (b := 5) (by omega) (by decide) hw), if_neg (fun q => hw q.2.2)]; exact ⟨_, rfl, c0, wi_v _ _ _ _⟩
      · rw [if_neg (show ¬ nI (ld P s) = 5 from nI_ne (b := 5) (by omega) (by decide) hq), if_neg (fun q => hq q.2.1)]; exact ⟨_, rfl, c0, wi_v _ _ _ _⟩
    · rw [if_neg (show ¬ nI L = 1 from nI_ne (b := 1) (by omega) (by decide) hl), if_neg (fun q => hl q.1)]; exact ⟨_, rfl, c0, wi_v _ _ _ _⟩
