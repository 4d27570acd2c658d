/-! ===== what words cost as words of the book; what shorts stand for ===== -/
def wcost (P : q_P) (S : a_M) (k w : Nat) : Nat := if wlike P S k w then 0 else if slp P k (cl (S.1 14 w)) (fun i => S.1 13 (w * 16 + i)) then 3 else 1000000
def c43 (S T : a_M) : Prop := (∀ c, c ≠ 42 → c ≠ 43 → T.1 c = S.1 c) ∧ T.2 = S.2
theorem X2_prep37 {P : q_P} {S : a_M} {N W k : Nat} (ok : q_ok P) (hc : q_c P S) (hB : i_B N W S) (hk : k < P.1) : ∀ d w T, w + d = W → c43 S T → (∀ w', w' < w → T.1 43 (k * 240 + w') = nI (wcost P S k w')) →
    ∃ T', g_X2_prepare 37 [.ref 41, .int (nI k), .int (lkf P (S.1 14) (S.1 13) W k), .int (nI w), .null] [] T = g_X2_prepare 2 [.ref 41, .int (nI (k + 1)), .null, .null, .null] [] T' ∧ c43 S T' ∧ (∀ w', w' < W → T'.1 43 (k * 240 + w') = nI (wcost P S k w')) ∧ (∀ x, x < k * 240 → T'.1 43 x = T.1 43 x) ∧ T'.1 42 = T.1 42 := by
  have hn := ok.1.1
  obtain ⟨b1, b2, b3, b4, b5, b6, b7, b8, b9, b10, b11⟩ := hB
  intro d
  induction d with
  | zero =>
    intro w T h1 h2 h3
    obtain rfl : w = W := by omega
    rw [b_X2_prepare_37, h2.1 12 (by decide) (by decide), b5, if_neg (nI_nlt (Nat.le_refl _) (by omega)), nI_1]
    exact ⟨T, rfl, h2, h3, fun _ _ => rfl, rfl⟩
  | succ d ih =>
    intro w T h1 h2 h3
    have hw : w < W := by omega
    obtain ⟨l1, l2, l3⟩ := b9 w hw
    have hcT : q_c P T := q_c_same hc (fun c _ c2 => h2.1 c (by omega) (by omega))
    have e13 : T.1 13 = S.1 13 := h2.1 13 (by decide) (by decide)
    have e14 : T.1 14 = S.1 14 := h2.1 14 (by decide) (by decide)
    rw [b_X2_prepare_37, h2.1 12 (by decide) (by decide), b5, if_pos (nI_lt hw (by omega)), X2_hasOneSlip ok hcT hk (by omega) (by rw [e14]; exact l3) l2, e13]
    simp only [Option.bind_some, Option.toList_some, List.append_nil, b_X2_prepare_54, b2i_z]
    have h63 : (if ¬ slp P k (cl (S.1 14 w)) (fun i => S.1 13 (w * 16 + i)) then g_X2_prepare 63 [.ref 41, .int (nI k), .int (lkf P (S.1 14) (S.1 13) W k), .int (nI w), .null] [.int 1000000] T else g_X2_prepare 63 [.ref 41, .int (nI k), .int (lkf P (S.1 14) (S.1 13) W k), .int (nI w), .null] [.int 3] T) = g_X2_prepare 87 [.ref 41, .int (nI k), .int (lkf P (S.1 14) (S.1 13) W k), .int (nI w), .null] [.int (nI (wcost P S k w)), .int (nI (k * 240 + w)), .ref 43] T := by
      have hlk : nI w = lkf P (S.1 14) (S.1 13) W k ↔ wlike P S k w := by
        rcases lkf_spec P (S.1 14) (S.1 13) W k with ⟨v, v1, v2, v3⟩ | ⟨v1, v2⟩
        · rw [v3, nI_eq (by omega) (by omega)]
          exact ⟨fun q => by rw [q]; exact v2, fun q => wlk_uniq b10 hw v1 q v2⟩
        · rw [v2]
          exact ⟨fun q => by have := nI_pos (n := w) (by omega); rw [q] at this; exact absurd (by decide) this, fun q => absurd q (v1 w hw)⟩
      have e1 : nI k * 240 + nI w = nI (k * 240 + w) := by rw [show (240 : Int32) = nI 240 from rfl, pk_mul, nI_add]
      have g63 : ∀ v : Int32, g_X2_prepare 63 [.ref 41, .int (nI k), .int (lkf P (S.1 14) (S.1 13) W k), .int (nI w), .null] [.int v] T = g_X2_prepare 87 [.ref 41, .int (nI k), .int (lkf P (S.1 14) (S.1 13) W k), .int (nI w), .null] [.int (if wlike P S k w then 0 else v), .int (nI (k * 240 + w)), .ref 43] T := by
        intro v
        rw [b_X2_prepare_63, e1]
        by_cases h : wlike P S k w
        · rw [if_pos (hlk.mpr h), if_pos h]
        · rw [if_neg (fun q => h (hlk.mp q)), if_neg h]
      rw [g63, g63]
      unfold wcost
      by_cases h : slp P k (cl (S.1 14 w)) (fun i => S.1 13 (w * 16 + i))
      · rw [if_neg (not_not_intro h), if_pos h]
        by_cases h2 : wlike P S k w
        · rw [if_pos h2, if_pos h2, nI_0]
        · rw [if_neg h2, if_neg h2]; rfl
      · rw [if_pos h, if_neg h]
        by_cases h2 : wlike P S k w
        · rw [if_pos h2, if_pos h2, nI_0]
        · rw [if_neg h2, if_neg h2]; rfl
    rw [h63, b_X2_prepare_87, put_43, pv_nI (by omega) (by decide)]
    simp only [Option.bind_some, Option.toList_none, List.append_nil, b_X2_prepare_90]
    rw [nI_1]
    obtain ⟨T', f1, f2, f3, f4, f5⟩ := ih (w + 1) (a_wi T 43 (k * 240 + w) (nI (wcost P S k w))) (by omega) ⟨fun c c1 c2 => (wi_n c2).trans (h2.1 c c1 c2), h2.2⟩ (fun w' hw' => by
      rw [wi_at, if_pos rfl]
      by_cases e : w' = w
      · rw [if_pos (by omega), e]
      · rw [if_neg (by omega)]; exact h3 w' (by omega))
    exact ⟨T', f1, f2, f3, fun x hx => by rw [f4 x hx, wi_s (by omega)], by rw [f5, wi_n (by decide)]⟩
/-- the class's Fitting is made ready for the text -/
def fit (P : q_P) (S : a_M) (W : Nat) (T : a_M) : Prop := (∀ k, k < P.1 → T.1 42 k = lkf P (S.1 14) (S.1 13) W k) ∧ ∀ k w, k < P.1 → w < W → T.1 43 (k * 240 + w) = nI (wcost P S k w)
theorem X2_prepare {P : q_P} {S : a_M} {N W : Nat} (ok : q_ok P) (hc : q_c P S) (hB : i_B N W S) : ∃ T', x_X2_prepare [.ref 41] S = some (none, T') ∧ c43 S T' ∧ fit P S W T' := by
  have hn := ok.1.1
  have hB' := hB
  obtain ⟨b1, b2, b3, b4, b5, b6, b7, b8, b9, b10, b11⟩ := hB
  have key : ∀ d k T, k + d = P.1 → c43 S T → (∀ k', k' < k → T.1 42 k' = lkf P (S.1 14) (S.1 13) W k') → (∀ k' w, k' < k → w < W → T.1 43 (k' * 240 + w) = nI (wcost P S k' w)) →
      ∃ T', g_X2_prepare 2 [.ref 41, .int (nI k), .null, .null, .null] [] T = some (none, T') ∧ c43 S T' ∧ fit P S W T' := by
    intro d
    induction d with
    | zero =>
      intro k T h1 h2 h3 h4
      obtain rfl : k = P.1 := by omega
      rw [b_X2_prepare_2, h2.1 7 (by decide) (by decide), hc.1, if_neg (nI_nlt (Nat.le_refl _) (by omega))]
      exact ⟨T, rfl, h2, h3, h4⟩
    | succ d ih =>
      intro k T h1 h2 h3 h4
      have hk : k < P.1 := by omega
      have hcT : q_c P T := q_c_same hc (fun c _ c2 => h2.1 c (by omega) (by omega))
      have e13 : T.1 13 = S.1 13 := h2.1 13 (by decide) (by decide)
      have e14 : T.1 14 = S.1 14 := h2.1 14 (by decide) (by decide)
      rw [b_X2_prepare_2, h2.1 7 (by decide) (by decide), hc.1, if_pos (nI_lt hk (by omega)), X0_wordLike (W := W) ok hcT hk (by omega) (by rw [h2.1 12 (by decide) (by decide)]; exact b5) (by rw [e14]; exact b9), e13, e14]
      simp only [Option.bind_some, Option.toList_some, List.append_nil, b_X2_prepare_25, put_42]
      rw [pv_nI (by omega) (by decide)]
      simp only [Option.toList_none, List.append_nil, b_X2_prepare_35]
      obtain ⟨T', f1, f2, f3, f4, f5⟩ := X2_prep37 (k := k) ok hc hB' hk W 0 (a_wi T 42 k (lkf P (S.1 14) (S.1 13) W k)) (by omega) ⟨fun c c1 c2 => (wi_n c1).trans (h2.1 c c1 c2), h2.2⟩ (fun w' hw' => by omega)
      rw [nI_0] at f1
      rw [f1]
      refine ih (k + 1) T' (by omega) f2 (fun k' hk' => ?_) (fun k' w hk' hw => ?_)
      · rw [f5, wi_at, if_pos rfl]
        by_cases e : k' = k
        · rw [if_pos e, e]
        · rw [if_neg e]; exact h3 k' (by omega)
      · by_cases e : k' = k
        · rw [e]; exact f3 w hw
        · rw [f4 _ (by omega), wi_n (by decide)]; exact h4 k' w (by omega) hw
  rw [e_X2_prepare]
  have := key P.1 0 S (by omega) ⟨fun _ _ _ => rfl, rfl⟩ (fun k' h => by omega) (fun k' w h _ => by omega)
  rw [nI_0] at this
  exact this
/-- name f stands in name a from word d on -/
abbrev rch (S : a_M) (f a d : Nat) : Prop := d + b_sz S f ≤ b_sz S a ∧ ∀ i, i < b_sz S f → S.1 15 (f * 4 + i) = S.1 15 (a * 4 + (d + i))
theorem X0_shortReach {N W H h a d : Nat} {wd : Int32} {S : a_M} (hB : i_B N W S) (hH : i_H N H S) (hh : h < H) (ha : a < N) (hd : d < b_sz S a) :
    x_X0_shortReach [.ref 12, .int (nI h), .int wd, .int (nI a), .int (nI d)] S = some (some (.int (nI (if S.1 15 (cl (S.1 17 h) * 4) = wd ∧ rch S (cl (S.1 18 h)) a d then b_sz S (cl (S.1 18 h)) else 0))), S) := by
  obtain ⟨h1, h2, h3, h4, h5, h6⟩ := hH
  obtain ⟨s1, s2, s3, s4, s5⟩ := h6 h hh
  have hN := hB.1
  have hsz := fun k hk => hB.2.2.2.2.2.2.1 k hk
  obtain ⟨sa, hsa⟩ : ∃ sa, sa = cl (S.1 17 h) := ⟨_, rfl⟩
  obtain ⟨f, hf⟩ : ∃ f, f = cl (S.1 18 h) := ⟨_, rfl⟩
  rw [← hsa] at s1 s2 s5
  rw [← hf] at s3 s4
  rw [← hsa, ← hf]
  obtain ⟨z1, z2, z3⟩ := hsz f s3
  obtain ⟨y1, y2, y3⟩ := hsz a ha
  have z2' : b_sz S f ≤ 4 := z2
  have y2' : b_sz S a ≤ 4 := y2
  have z3' : S.1 16 f = nI (b_sz S f) := z3
  have y3' : S.1 16 a = nI (b_sz S a) := y3
  rw [e_X0_shortReach, at_17, av_nI (by omega) (by decide), s2]
  simp only [Option.bind_some, Option.toList_some, List.cons_append, List.nil_append, b_X0_shortReach_12]
  rw [show nI sa * 4 = nI (sa * 4) by rw [show (4 : Int32) = nI 4 from rfl, pk_mul], at_15, av_nI (by omega) (by decide)]
  simp only [Option.bind_some, Option.toList_some, List.append_nil, b_X0_shortReach_17]
  by_cases hw : S.1 15 (sa * 4) = wd
  · rw [if_pos hw, at_18, av_nI (by omega) (by decide), s4]
    simp only [Option.bind_some, Option.toList_some, List.append_nil, b_X0_shortReach_31, at_16, b_X0_shortReach_42, List.cons_append, List.nil_append]
    rw [av_nI (by omega) (by decide), av_nI (by omega) (by decide), z3', y3', nI_add, b_X0_shortReach_57]
    by_cases hr : d + b_sz S f ≤ b_sz S a
    · rw [if_neg (nI_nlt hr (by omega))]
      have st : ∀ i, i < b_sz S f → g_X0_shortReach 65 [.ref 12, .null, .null, .int (nI a), .int (nI d), .int (nI f), .int (nI (b_sz S f)), .int (nI i), .null] [] S = if S.1 15 (f * 4 + i) = S.1 15 (a * 4 + (d + i)) then g_X0_shortReach 65 [.ref 12, .null, .null, .int (nI a), .int (nI d), .int (nI f), .int (nI (b_sz S f)), .int (nI (i + 1)), .null] [] S else some (some (.int 0), S) := by
        intro i hi
        rw [b_X0_shortReach_65, if_pos (nI_lt hi (by omega)), show nI a * 4 + nI d + nI i = nI (a * 4 + (d + i)) by rw [show (4 : Int32) = nI 4 from rfl, pk_mul, nI_add, nI_add, Nat.add_assoc], at_15, av_nI (by omega) (by decide)]
        simp only [Option.bind_some, Option.toList_some, List.append_nil, b_X0_shortReach_88]
        rw [show nI f * 4 + nI i = nI (f * 4 + i) by rw [show (4 : Int32) = nI 4 from rfl, pk_mul, nI_add], at_15, av_nI (by omega) (by decide)]
        simp only [Option.bind_some, Option.toList_some, List.append_nil, b_X0_shortReach_104]
        rw [nI_1]
      have key := lp_find (fun i => g_X0_shortReach 65 [.ref 12, .null, .null, .int (nI a), .int (nI d), .int (nI f), .int (nI (b_sz S f)), .int (nI i), .null] [] S) (b_sz S f) (fun i => ¬ S.1 15 (f * 4 + i) = S.1 15 (a * 4 + (d + i))) (some (some (.int 0), S))
        (fun i hi hq => by rw [st i hi, if_neg hq]) (fun i hi hq => by rw [st i hi, if_pos (Decidable.not_not.mp hq)])
      rw [nI_0] at key
      rcases key with ⟨⟨i, k1, k2⟩, k3⟩ | ⟨k1, k2⟩
      · rw [k3, if_neg (fun q => k2 (q.2.2 i k1)), nI_0]
      · rw [k2, b_X0_shortReach_65, if_neg (nI_nlt (Nat.le_refl _) (by omega)), if_pos ⟨hw, hr, fun i hi => Decidable.not_not.mp (k1 i hi)⟩]
    · rw [if_pos (nI_lt (by omega) (by omega)), if_neg (fun q => hr q.2.1), nI_0]
  · rw [if_neg hw, if_neg (fun q => hw q.1), nI_0]
/-- two places of the reference's names hold one word -/
abbrev meq (S : a_M) (x y : Nat) : Prop := S.1 65 x = S.1 65 y ∧ ∀ c, c < cl (S.1 65 x) → S.1 66 (x * 16 + c) = S.1 66 (y * 16 + c)
theorem meq_iff {N W f i a j : Nat} {S : a_M} (hB : i_B N W S) (hf : f < N) (hi : i < b_sz S f) (ha : a < N) (hj : j < b_sz S a) : meq S (f * 4 + i) (a * 4 + j) ↔ S.1 15 (f * 4 + i) = S.1 15 (a * 4 + j) := by
  obtain ⟨b1, b2, b3, b4, b5, b6, b7, b8, b9, b10, b11⟩ := hB
  obtain ⟨p1, p2, p3, p4⟩ := b8 f i hf hi
  obtain ⟨q1, q2, q3, q4⟩ := b8 a j ha hj
  constructor
  · rintro ⟨h1, h2⟩
    rw [p3, q3] at h1
    rw [p3] at h2
    rw [p2, q2]
    congr 1
    refine b10 _ _ p1 q1 (by rw [h1]) (fun c hc => ?_)
    have := h2 c hc
    rw [p4 c hc, q4 c (by rw [← h1]; exact hc)] at this
    exact this
  · intro h
    refine ⟨by rw [p3, q3, h], fun c hc => ?_⟩
    rw [p3] at hc
    rw [p4 c hc, q4 c (by rw [← h]; exact hc), h]
theorem X12_standsFor {N W H h a d : Nat} {S : a_M} (hB : i_B N W S) (hH : i_H N H S) (hh : h < H) (ha : a < N) (hd : d < b_sz S a) :
    x_X12_standsFor [.ref 56, .int (nI h), .int (nI a), .int (nI d)] S = some (some (.int (nI (if rch S (cl (S.1 18 h)) a d then b_sz S (cl (S.1 18 h)) else 0))), S) := by
  obtain ⟨h1, h2, h3, h4, h5, h6⟩ := hH
  obtain ⟨s1, s2, s3, s4, s5⟩ := h6 h hh
  have hN := hB.1
  have b6 := hB.2.2.2.2.2.1
  obtain ⟨f, hf⟩ : ∃ f, f = cl (S.1 18 h) := ⟨_, rfl⟩
  rw [← hf] at s3 s4
  rw [← hf]
  obtain ⟨z1, z2, z3⟩ := hB.2.2.2.2.2.2.1 f s3
  obtain ⟨y1, y2, y3⟩ := hB.2.2.2.2.2.2.1 a ha
  have z1' : 1 ≤ b_sz S f := z1
  have z2' : b_sz S f ≤ 4 := z2
  have y2' : b_sz S a ≤ 4 := y2
  have z3' : S.1 16 f = nI (b_sz S f) := z3
  have y3' : S.1 16 a = nI (b_sz S a) := y3
  have cf : (nI f).toNatClampNeg = f := nI_clamp (by omega)
  have nf : ¬ (nI f < 0 ∨ 60 ≤ f) := nI_out2 (by omega) (by omega)
  have ca : (nI a).toNatClampNeg = a := nI_clamp (by omega)
  have na : ¬ (nI a < 0 ∨ 60 ≤ a) := nI_out2 (by omega) (by omega)
  rw [e_X12_standsFor, if_neg (nI_out (by omega) (by decide)), nI_clamp (by omega), ← h5, s4, cf, if_neg nf, ca, if_neg na, ← b6, z3', y3', nI_add]
  have g164 : ∀ v : Int32, g_X12_standsFor 164 [.ref 56, .null, .null, .null, .int (nI f), .int v, .null, .null, .null, .null] [] S = if v = 0 then some (some (.int 0), S) else some (some (.int (nI (b_sz S f))), S) := by
    intro v
    rw [b_X12_standsFor_164, cf, if_neg nf, ← b6, z3']
  have zero : ∀ i, i < 2 ^ 31 → g_X12_standsFor 36 [.ref 56, .null, .int (nI a), .int (nI d), .int (nI f), .int 0, .int (nI i), .null, .null, .null] [] S = some (some (.int 0), S) := by
    intro i hi
    rw [b_X12_standsFor_36, cf, if_neg nf, ← b6, z3', if_pos (show (0 : Int32) = 0 from rfl), g164, if_pos rfl, ite_self]
  by_cases hr : d + b_sz S f ≤ b_sz S a
  · rw [if_neg (nI_nlt hr (by omega))]
    have st : ∀ i, i < b_sz S f → g_X12_standsFor 36 [.ref 56, .null, .int (nI a), .int (nI d), .int (nI f), .int 1, .int (nI i), .null, .null, .null] [] S = if meq S (f * 4 + i) (a * 4 + (d + i)) then g_X12_standsFor 36 [.ref 56, .null, .int (nI a), .int (nI d), .int (nI f), .int 1, .int (nI (i + 1)), .null, .null, .null] [] S else some (some (.int 0), S) := by
      intro i hi
      obtain ⟨l1, l2, l3⟩ := mlen hB s3 hi
      have e1 : (4 : Int32) * nI f + nI i = nI (f * 4 + i) := by rw [show (4 : Int32) = nI 4 from rfl, pk_mul, nI_add, Nat.mul_comm]
      have e2 : (4 : Int32) * nI a + nI d + nI i = nI (a * 4 + (d + i)) := by rw [show (4 : Int32) = nI 4 from rfl, pk_mul, nI_add, nI_add, Nat.mul_comm, Nat.add_assoc]
      rw [b_X12_standsFor_36, cf, if_neg nf, ← b6, z3', if_pos (nI_lt hi (by omega)), if_neg (by decide), e1, e2, if_neg (nI_out (by omega) (by decide)), if_neg (nI_out (by omega) (by decide)), nI_clamp (by omega), nI_clamp (by omega)]
      obtain ⟨L, hL⟩ : ∃ L, L = cl (S.1 65 (f * 4 + i)) := ⟨_, rfl⟩
      rw [← hL] at l1 l2 l3
      have g99z : ∀ c, c < 2 ^ 31 → g_X12_standsFor 99 [.ref 56, .null, .int (nI a), .int (nI d), .int (nI f), .int 0, .int (nI i), .int (nI (f * 4 + i)), .int (nI (a * 4 + (d + i))), .int (nI c)] [] S = some (some (.int 0), S) := by
        intro c hcc
        rw [b_X12_standsFor_99, if_neg (nI_out (by omega) (by decide)), if_pos (show (0 : Int32) = 0 from rfl), nI_1, zero (i + 1) (by omega), ite_self]
      by_cases hl : S.1 65 (f * 4 + i) = S.1 65 (a * 4 + (d + i))
      · rw [if_pos hl]
        have st2 : ∀ c, c < L → g_X12_standsFor 99 [.ref 56, .null, .int (nI a), .int (nI d), .int (nI f), .int 1, .int (nI i), .int (nI (f * 4 + i)), .int (nI (a * 4 + (d + i))), .int (nI c)] [] S = if S.1 66 ((f * 4 + i) * 16 + c) = S.1 66 ((a * 4 + (d + i)) * 16 + c) then g_X12_standsFor 99 [.ref 56, .null, .int (nI a), .int (nI d), .int (nI f), .int 1, .int (nI i), .int (nI (f * 4 + i)), .int (nI (a * 4 + (d + i))), .int (nI (c + 1))] [] S else some (some (.int 0), S) := by
          intro c hcc
          have f1 : ∀ x, (16 : Int32) * nI x + nI c = nI (x * 16 + c) := fun x => by rw [show (16 : Int32) = nI 16 from rfl, pk_mul, nI_add, Nat.mul_comm]
          rw [b_X12_standsFor_99, if_neg (nI_out (by omega) (by decide)), nI_clamp (by omega), l1, if_pos (nI_lt hcc (by omega)), if_neg (by decide), f1, f1, if_neg (nI_out (by omega) (by decide)), if_neg (nI_out (by omega) (by decide)), nI_clamp (by omega), nI_clamp (by omega), nI_1, g99z (c + 1) (by omega)]
        have key := lp_find (fun c => g_X12_standsFor 99 [.ref 56, .null, .int (nI a), .int (nI d), .int (nI f), .int 1, .int (nI i), .int (nI (f * 4 + i)), .int (nI (a * 4 + (d + i))), .int (nI c)] [] S) L (fun c => ¬ S.1 66 ((f * 4 + i) * 16 + c) = S.1 66 ((a * 4 + (d + i)) * 16 + c)) (some (some (.int 0), S))
          (fun c hcc hq => by rw [st2 c hcc, if_neg hq]) (fun c hcc hq => by rw [st2 c hcc, if_pos (Decidable.not_not.mp hq)])
        rw [nI_0] at key
        rcases key with ⟨⟨c, k1, k2⟩, k3⟩ | ⟨k1, k2⟩
        · rw [k3, if_neg (fun q => k2 (q.2 c (by rw [← hL]; exact k1)))]
        · rw [k2, if_pos (show meq S (f * 4 + i) (a * 4 + (d + i)) from ⟨hl, fun c hcc => Decidable.not_not.mp (k1 c (by rw [hL]; exact hcc))⟩), b_X12_standsFor_99, if_neg (nI_out (by omega) (by decide)), nI_clamp (by omega), l1, if_neg (nI_nlt (Nat.le_refl _) (by omega)), nI_1]
      · have := g99z 0 (by decide)
        rw [nI_0] at this
        rw [if_neg hl, this, if_neg (fun q => hl q.1)]
    have key := lp_find (fun i => g_X12_standsFor 36 [.ref 56, .null, .int (nI a), .int (nI d), .int (nI f), .int 1, .int (nI i), .null, .null, .null] [] S) (b_sz S f) (fun i => ¬ meq S (f * 4 + i) (a * 4 + (d + i))) (some (some (.int 0), S))
      (fun i hi hq => by rw [st i hi, if_neg hq]) (fun i hi hq => by rw [st i hi, if_pos (Decidable.not_not.mp hq)])
    rw [nI_0] at key
    have hm : ∀ i, i < b_sz S f → (meq S (f * 4 + i) (a * 4 + (d + i)) ↔ S.1 15 (f * 4 + i) = S.1 15 (a * 4 + (d + i))) := fun i hi => meq_iff hB s3 hi ha (by omega)
    rcases key with ⟨⟨i, k1, k2⟩, k3⟩ | ⟨k1, k2⟩
    · rw [k3, if_neg (fun q => k2 ((hm i k1).mpr (q.2 i k1))), nI_0]
    · rw [k2, b_X12_standsFor_36, cf, if_neg nf, ← b6, z3', if_neg (nI_nlt (Nat.le_refl _) (by omega)), g164, if_neg (by decide), if_pos ⟨hr, fun i hi => (hm i hi).mp (Decidable.not_not.mp (k1 i hi))⟩]
  · have := zero 0 (by decide)
    rw [nI_0] at this
    rw [if_pos (nI_lt (by omega) (by omega)), this, if_neg (fun q => hr q.1), nI_0]
