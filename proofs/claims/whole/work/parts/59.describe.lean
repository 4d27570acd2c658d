/-! ===== what the best way describes: the class ===== -/
def pf (P : q_P) (E0 E1 : Nat → Nat → Nat × Int32) (u : Nat → Int32) (sz : Nat) (pt : Nat → Nat) (t : Nat → Nat → Wy) : Nat → Nat → Nat → (Nat → Int32) → Nat → Int32
  | 0, _, _, f => f
  | e + 1, k, p, f => if k = P.1 ∧ p = sz then f else if (t k p).2.2 < 0 then pf P E0 E1 u sz pt t e (k + 1) p f
    else if (0 : Int32) < (t k p).2.2 then pf P E0 E1 u sz pt t e (k + cl (t k p).2.2) (p + 1) (layF P E0 E1 u (pt p) k (cl (t k p).2.2) f) else pf P E0 E1 u sz pt t e k (p + 1) f
theorem tab_mk {n sz : Nat} {rc : Nat → Nat → Nat → Nat} {t : Nat → Nat → Wy} (hok : ∀ k p, k ≤ n → p ≤ sz → okW n sz rc t k p (t k p)) : ∀ e k p, (n - k) + (sz - p) = e → k ≤ n → p ≤ sz → (t k p).1 < 1000000 → ∀ j, k ≤ j → j < n → (t k p).2.1 j = 5 ∨ (p ≤ (t k p).2.1 j ∧ (t k p).2.1 j < sz) := by
  intro e
  induction e using Nat.strongRecOn with
  | _ e ih =>
    intro k p he hk hp hf j hj hjn
    rcases ((hok k p hk hp).2 hf).2.2 with ⟨h1, h2⟩ | ⟨h1, h2, h3, h4, h5⟩ | ⟨h1, h2, h3, h4⟩ | ⟨L, h1, h2, h3, h4, h5, h6, h7, h8, h9⟩
    · omega
    · by_cases hjk : j = k
      · left; rw [hjk]; exact h4
      · rw [h5 j (by omega) hjn]
        exact ih _ (by omega) (k + 1) p rfl (by omega) hp h3 j (by omega) hjn
    · rw [h4 j hj hjn]
      rcases ih _ (by omega) k (p + 1) rfl hk (by omega) h3 j hj hjn with q | q
      · exact Or.inl q
      · exact Or.inr ⟨by omega, q.2⟩
    · by_cases hjl : j < k + L
      · right; rw [h8 j hj hjl]; omega
      · rw [h9 j (by omega) hjn]
        rcases ih _ (by omega) (k + L) (p + 1) rfl h3 (by omega) h7 j (by omega) hjn with q | q
        · exact Or.inl q
        · exact Or.inr ⟨by omega, q.2⟩
/-- the counting of the marks of place p: they are k .. k + L - 1 -/
theorem X7_count {P : q_P} {T : a_M} {g p k L c : Nat} {M : Nat → Nat} (hn : P.1 ≤ 14) (hc : q_c P T) (h9 : T.2 45 9 = lN (e_way c M 0 P.1)) (hc1 : c ≤ 1000) (hM : ∀ j, j < P.1 → M j < 8) (hp : p < 2 ^ 31) (hM2 : ∀ j, j < P.1 → (M j = p ↔ k ≤ j ∧ j < k + L)) (hkL : k + L ≤ P.1) :
    ∀ j, j ≤ P.1 → ∀ st : Int32, st = (if k + L - max j k = 0 then -1 else nI (max j k)) → g_X7_describe 37 [.ref 45, .int (nI g), .int (nI p), .int st, .int (nI (k + L - max j k)), .int (nI j - 1)] [] T = g_X7_describe 37 [.ref 45, .int (nI g), .int (nI p), .int (if L = 0 then -1 else nI k), .int (nI L), .int (-1)] [] T := by
  intro j
  induction j with
  | zero =>
    intro _ st hst
    rw [hst, show max 0 k = k by omega, Nat.add_sub_cancel_left]
    rfl
  | succ j ih =>
    intro hj st hst
    rw [b_X7_describe_37, nI_pred, if_neg (nI_pos (by omega)), h9, hc.1, mark_of hc1 hn hM (by omega)]
    simp only [Option.bind_some, Option.toList_some, List.append_nil, b_X7_describe_58]
    have em : nI j + (-1) = nI j - 1 := (Int32.sub_eq_add_neg _ _).symm
    rw [em]
    have hq := hM2 j (by omega)
    by_cases hm : M j = p
    · obtain ⟨q1, q2⟩ := hq.mp hm
      rw [if_pos (by rw [hm]), nI_1]
      have e1 : k + L - max (j + 1) k + 1 = k + L - max j k := by omega
      rw [e1]
      refine ih (by omega) _ ?_
      rw [if_neg (by omega), show max j k = j by omega]
    · have hno : ¬ (k ≤ j ∧ j < k + L) := fun q => hm (hq.mpr q)
      have hmj := hM j (by omega)
      rw [if_neg (nI_ne (by omega) hp hm)]
      have e1 : k + L - max (j + 1) k = k + L - max j k := by omega
      rw [e1] at hst ⊢
      refine ih (by omega) _ ?_
      rw [hst]
      by_cases hz : k + L - max j k = 0
      · rw [if_pos hz, if_pos hz]
      · rw [if_neg hz, if_neg hz, show max (j + 1) k = max j k by omega]
theorem X7_describe9 {P : q_P} {S : a_M} {E0 E1 : Nat → Nat → Nat × Int32} {u : Nat → Int32} {sz g c : Nat} {pt : Nat → Nat} {t : Nat → Nat → Wy} {M : Nat → Nat}
    (ok : q_ok P) (hc : q_c P S) (h0 : rows P.1 (S.1 47) (S.1 48) E0) (h1 : rows P.1 (S.1 50) (S.1 51) E1) (hu : ∀ k, k < P.1 → S.1 52 k = u k) (hsz : sz ≤ 5)
    (hs : ∀ T, c40 S T → x_X4_sizeOf [.ref 34, .int (nI g)] T = some (some (.int (nI sz)), T)) (hpt : ∀ T, c40 S T → ∀ i, i < sz → x_X4_partOf [.ref 34, .int (nI g), .int (nI i)] T = some (some (.int (nI (pt i))), T)) (hp4 : ∀ i, i < sz → pt i ≤ 4)
    (hok : ∀ k p, k ≤ P.1 → p ≤ sz → okW P.1 sz (fun p k L => rcost P E0 E1 u (pt p) k L) t k p (t k p)) (h9 : S.2 45 9 = lN (e_way c M 0 P.1)) (hc1 : c ≤ 1000) (hM : ∀ j, j < P.1 → M j < 8) :
    ∀ e k p T, (P.1 - k) + (sz - p) ≤ e → k ≤ P.1 → p ≤ sz → (t k p).1 < 1000000 → c40 S T → (∀ j, k ≤ j → j < P.1 → M j = (t k p).2.1 j) → (∀ j, j < k → M j = 5 ∨ M j < p) →
    ∃ T', g_X7_describe 9 [.ref 45, .int (nI g), .int (nI p), .null, .null, .null] [] T = some (none, T') ∧ c40 S T' ∧ T'.1 40 = pf P E0 E1 u sz pt t e k p (T.1 40) := by
  have hn := ok.1.1
  have fin : ∀ T, c40 S T → g_X7_describe 9 [.ref 45, .int (nI g), .int (nI sz), .null, .null, .null] [] T = some (none, T) := by
    intro T h
    rw [b_X7_describe_9, hs T h]
    simp only [Option.bind_some, Option.toList_some, List.cons_append, List.nil_append, b_X7_describe_18]
    rw [if_neg (nI_nlt (Nat.le_refl _) (by omega))]
  have cnt : ∀ T p k L, c40 S T → p < sz → (∀ j, j < P.1 → (M j = p ↔ k ≤ j ∧ j < k + L)) → k + L ≤ P.1 → g_X7_describe 9 [.ref 45, .int (nI g), .int (nI p), .null, .null, .null] [] T = g_X7_describe 37 [.ref 45, .int (nI g), .int (nI p), .int (if L = 0 then -1 else nI k), .int (nI L), .int (-1)] [] T := by
    intro T p k L h hp hM2 hkL
    have hcT := c40_c h hc
    rw [b_X7_describe_9, hs T h]
    simp only [Option.bind_some, Option.toList_some, List.cons_append, List.nil_append, b_X7_describe_18]
    rw [if_pos (nI_lt hp (by omega)), hcT.1]
    have := X7_count (g := g) (T := T) hn hcT (by rw [h.2]; exact h9) hc1 hM (by omega) hM2 hkL P.1 (Nat.le_refl _) (-1) (by rw [if_pos (by omega)])
    rw [show k + L - max P.1 k = 0 by omega, nI_0] at this
    exact this
  intro e
  induction e with
  | zero =>
    intro k p T he hk hp hf h2 h3 h4
    obtain rfl : p = sz := by omega
    rw [fin T h2]
    exact ⟨T, rfl, h2, rfl⟩
  | succ e ih =>
    intro k p T he hk hp hf h2 h3 h4
    rcases ((hok k p hk hp).2 hf).2.2 with ⟨r1, r2⟩ | ⟨r1, r2, r3, r4, r5⟩ | ⟨r1, r2, r3, r4⟩ | ⟨L, r1, r2, r3, r4, r5, r6, r7, r8, r9⟩
    · have ep : pf P E0 E1 u sz pt t (e + 1) k p (T.1 40) = T.1 40 := if_pos ⟨r1, r2⟩
      rw [ep, r2, fin T h2]
      exact ⟨T, rfl, h2, rfl⟩
    · have ep : pf P E0 E1 u sz pt t (e + 1) k p (T.1 40) = pf P E0 E1 u sz pt t e (k + 1) p (T.1 40) := by
        show (if k = P.1 ∧ p = sz then _ else if (t k p).2.2 < 0 then _ else _) = _
        rw [if_neg (by omega), r1, if_pos (by decide)]
      rw [ep]
      exact ih (k + 1) p T (by omega) (by omega) hp r3 h2 (fun j a b => by rw [h3 j (by omega) b, r5 j (by omega) b]) (fun j a => by
        by_cases hj : j = k
        · left; rw [hj, h3 k (Nat.le_refl _) r2, r4]
        · exact h4 j (by omega))
    · have ep : pf P E0 E1 u sz pt t (e + 1) k p (T.1 40) = pf P E0 E1 u sz pt t e k (p + 1) (T.1 40) := by
        show (if k = P.1 ∧ p = sz then _ else if (t k p).2.2 < 0 then _ else if (0 : Int32) < (t k p).2.2 then _ else _) = _
        rw [if_neg (by omega), r1, if_neg (by decide), if_neg (by decide)]
      have hmk := tab_mk hok _ k (p + 1) rfl hk (by omega) r3
      rw [ep, cnt T p k 0 h2 r2 (fun j hj => ⟨fun q => by
        rcases Nat.lt_or_ge j k with a | a
        · rcases h4 j a with b | b
          · omega
          · omega
        · have := hmk j a hj
          rw [h3 j a hj, r4 j a hj] at q
          omega, fun q => by omega⟩) (by omega), b_X7_describe_37, if_pos (by decide), if_neg (by decide), nI_1]
      exact ih k (p + 1) T (by omega) hk (by omega) r3 h2 (fun j a b => by rw [h3 j a b, r4 j a b]) (fun j a => by
        rcases h4 j a with b | b
        · exact Or.inl b
        · exact Or.inr (by omega))
    · have eL : cl (t k p).2.2 = L := by rw [r5]; exact cl_nI (by omega)
      have ep : pf P E0 E1 u sz pt t (e + 1) k p (T.1 40) = pf P E0 E1 u sz pt t e (k + L) (p + 1) (layF P E0 E1 u (pt p) k L (T.1 40)) := by
        show (if k = P.1 ∧ p = sz then _ else if (t k p).2.2 < 0 then _ else if (0 : Int32) < (t k p).2.2 then pf P E0 E1 u sz pt t e (k + cl (t k p).2.2) (p + 1) (layF P E0 E1 u (pt p) k (cl (t k p).2.2) (T.1 40)) else _) = _
        rw [eL, if_neg (by omega), r5, if_neg (nI_pos (by omega)), if_pos (show (0 : Int32) < nI L from nI_lt (a := 0) (by omega) (by omega))]
      have hmk := tab_mk hok _ (k + L) (p + 1) rfl r3 (by omega) r7
      rw [ep, cnt T p k L h2 r4 (fun j hj => ⟨fun q => by
        rcases Nat.lt_or_ge j k with a | a
        · rcases h4 j a with b | b
          · omega
          · omega
        · rcases Nat.lt_or_ge j (k + L) with b | b
          · exact ⟨a, b⟩
          · have := hmk j b hj
            rw [h3 j a hj, r9 j b hj] at q
            omega, fun q => by rw [h3 j q.1 hj]; exact r8 j q.1 q.2⟩) r3, b_X7_describe_37, if_pos (by decide), if_pos (show (0 : Int32) < nI L from nI_lt (a := 0) (by omega) (by omega)), if_neg (show ¬ L = 0 by omega), hpt T h2 p r4]
      simp only [Option.bind_some, Option.toList_some, List.cons_append, List.nil_append, b_X7_describe_92]
      obtain ⟨T1, d1, d2, d3⟩ := X7_describePart (T := T) (E0 := E0) (E1 := E1) (u := u) (p := pt p) (s := k) (L := L) ok (c40_c h2 hc) (by rw [h2.1 47 (by decide), h2.1 48 (by decide)]; exact h0) (by rw [h2.1 50 (by decide), h2.1 51 (by decide)]; exact h1) (by rw [h2.1 52 (by decide)]; exact hu) (hp4 p r4) r1 r2 r3 r6
      rw [d1]
      simp only [Option.bind_some, Option.toList_none, List.append_nil, b_X7_describe_98]
      rw [nI_1, ← d3]
      exact ih (k + L) (p + 1) T1 (by omega) r3 (by omega) r7 (c40_tr h2 d2) (fun j a b => by rw [h3 j (by omega) b, r9 j a b]) (fun j a => by
        rcases Nat.lt_or_ge j k with b | b
        · rcases h4 j b with q | q
          · exact Or.inl q
          · exact Or.inr (by omega)
        · right
          rw [h3 j b (by omega), r8 j b a]
          omega)
