/-! ===== the class's least way ===== -/
theorem lg_c0 (x y : Int64) : lg_cmp x y = 0 ↔ x = y := by
  unfold lg_cmp
  by_cases h1 : x > y
  · rw [if_pos h1]
    exact ⟨fun h => absurd h (by decide), fun h => absurd h1 (by rw [h]; exact fun q => Int64.lt_irrefl q)⟩
  · rw [if_neg h1]
    by_cases h2 : x = y
    · rw [if_pos h2]; exact ⟨fun _ => h2, fun _ => rfl⟩
    · rw [if_neg h2]; exact ⟨fun h => absurd h (by decide), fun h => absurd h h2⟩
def msA (mark n k : Nat) : Nat → Nat
  | 0 => 0
  | i + 1 => msA mark n k i + mark * 8 ^ (n - 1 - (k + i))
theorem e_ms_c {w w' : Nat → Nat} : ∀ d k, (∀ j, k ≤ j → j < k + d → w j = w' j) → e_ms w k d = e_ms w' k d := by
  intro d
  induction d with
  | zero => intro k _; rfl
  | succ d ih =>
    intro k h
    show w k * 8 ^ d + _ = w' k * 8 ^ d + _
    rw [h k (by omega) (by omega), ih (k + 1) (fun j a b => h j (by omega) (by omega))]
theorem e_ms_A {w : Nat → Nat} {mark n k : Nat} : ∀ L, k + L ≤ n → (∀ j, k ≤ j → j < k + L → w j = mark) → e_ms w k (n - k) = msA mark n k L + e_ms w (k + L) (n - (k + L)) := by
  intro L
  induction L with
  | zero => intro _ _; show _ = 0 + _; rw [Nat.zero_add]; rfl
  | succ L ih =>
    intro h1 h2
    rw [ih (by omega) (fun j a b => h2 j a (by omega))]
    show _ = (msA mark n k L + mark * 8 ^ (n - 1 - (k + L))) + _
    obtain ⟨d, hd⟩ : ∃ d, n - (k + L) = d + 1 := ⟨n - (k + L) - 1, by omega⟩
    rw [hd]
    show _ + (w (k + L) * 8 ^ d + e_ms w (k + L + 1) d) = _
    rw [h2 (k + L) (by omega) (by omega), show n - 1 - (k + L) = d by omega, show n - (k + (L + 1)) = d by omega]
    exact (Nat.add_assoc _ _ _).symm
theorem X7_marks {P : q_P} {T : a_M} (hn : P.1 ≤ 14) (hc : q_c P T) {mark k L : Nat} (hm : mark ≤ 7) (hk : k + L ≤ P.1) : x_X7_marks [.ref 45, .int (nI mark), .int (nI k), .int (nI L)] T = some (some (.long (lN (msA mark P.1 k L))), T) := by
  have key : ∀ d i, i + d = L → g_X7_marks 6 [.ref 45, .int (nI mark), .int (nI k), .int (nI L), .long (lN (msA mark P.1 k i)), .null, .int (nI (k + i))] [] T = some (some (.long (lN (msA mark P.1 k L))), T) := by
    intro d
    induction d with
    | zero =>
      intro i hi
      obtain rfl : i = L := by omega
      rw [b_X7_marks_6, nI_add, if_neg (nI_nlt (Nat.le_refl _) (by omega))]
    | succ d ih =>
      intro i hi
      have e1 : (3 : Int32) * ((T.1 7 4 - 1) - nI (k + i)) = nI (3 * (P.1 - 1 - (k + i))) := by
        rw [hc.1, show (1 : Int32) = nI 1 from rfl, pk_sub (by omega), pk_sub (by omega), show (3 : Int32) = nI 3 from rfl, pk_mul]
      rw [b_X7_marks_6, nI_add, if_pos (nI_lt (by omega) (by omega)), e1, nI_l (by omega), wb_shl _ (by omega), lN_add, nI_1]
      have e2 : msA mark P.1 k i + mark * 2 ^ (3 * (P.1 - 1 - (k + i))) = msA mark P.1 k (i + 1) := by
        show _ = msA mark P.1 k i + mark * 8 ^ (P.1 - 1 - (k + i))
        rw [Nat.pow_mul]
      rw [e2]
      exact ih (i + 1) (by omega)
  have := key L 0 (by omega)
  rw [e_X7_marks]
  exact this
theorem enc_lt {n k : Nat} {w : Wy} (hn : n ≤ 14) (hk : k ≤ n) (h1 : w.1 < 1000000) (h2 : w.1 ≤ 1000) (h3 : ∀ j, k ≤ j → j < n → w.2.1 j ≤ 5) : enc n k w = w.1 * 8 ^ 14 + e_ms w.2.1 k (n - k) ∧ enc n k w < 2 ^ 53 := by
  have e : enc n k w = w.1 * 8 ^ 14 + e_ms w.2.1 k (n - k) := if_pos h1
  refine ⟨e, ?_⟩
  rw [e]
  exact e_way_lt (w := w.2.1) h2 (by omega) (fun j a b => by have := h3 j a (by omega); omega)
theorem okW_enc {n sz : Nat} {rc : Nat → Nat → Nat → Nat} {t : Nat → Nat → Wy} {k p : Nat} {w : Wy} (hn : n ≤ 14) (hsz : sz ≤ 5) (hk : k ≤ n) (h : okW n sz rc t k p w) : enc n k w ≤ 2 ^ 62 := by
  by_cases h1 : w.1 < 1000000
  · obtain ⟨g1, g2, g3⟩ := h.2 h1
    have := (enc_lt (w := w) hn hk h1 (by omega) g2).2
    omega
  · unfold enc
    rw [if_neg h1]
    exact Nat.le_refl _
theorem X7_plus {n k L c mark : Nat} {r : Wy} {take : Int32} {T : a_M} (hn : n ≤ 14) (hk : k + L ≤ n) (hc : c ≤ 20) (hr : r.1 < 1000000 → r.1 ≤ 200 ∧ ∀ j, k + L ≤ j → j < n → r.2.1 j ≤ 5) (hm : mark ≤ 5) :
    x_X7_plus [.long (lN (enc n (k + L) r)), .int (nI c), .long (lN (msA mark n k L))] T = some (some (.long (lN (enc n k (gen r c k L mark take)))), T) := by
  rw [e_X7_plus]
  have e62 : (4611686018427387904 : Int64) = lN (2 ^ 62) := by decide +kernel
  by_cases h : r.1 < 1000000
  · obtain ⟨h1, h2⟩ := hr h
    obtain ⟨g1, g2⟩ := enc_lt (w := r) (k := k + L) hn hk h (by omega) h2
    rw [if_neg (by rw [e62, lg_c0, lN_eq63 (by omega) (by omega)]; omega), nI_l (by omega), show (42 : Int32) = nI 42 from rfl, wb_shl _ (by decide), lN_add, lN_add]
    have e1 : gen r c k L mark take = (c + r.1, fun j => if j < k + L then mark else r.2.1 j, take) := if_pos h
    have e2 : enc n k (gen r c k L mark take) = (c + r.1) * 8 ^ 14 + e_ms (fun j => if j < k + L then mark else r.2.1 j) k (n - k) := by
      rw [e1]
      exact if_pos (show c + r.1 < 1000000 by omega)
    rw [e2, g1, e_ms_A (w := fun j => if j < k + L then mark else r.2.1 j) (mark := mark) L hk (fun j a b => if_pos b), e_ms_c (w := fun j => if j < k + L then mark else r.2.1 j) (w' := r.2.1) _ _ (fun j a b => if_neg (by omega))]
    have e3 : (r.1 * 8 ^ 14 + e_ms r.2.1 (k + L) (n - (k + L)) + c * 2 ^ 42 + msA mark n k L) = (c + r.1) * 8 ^ 14 + (msA mark n k L + e_ms r.2.1 (k + L) (n - (k + L))) := by
      rw [show (2 : Nat) ^ 42 = 8 ^ 14 by decide, Nat.add_mul]
      omega
    rw [e3]
  · have e1 : enc n (k + L) r = 2 ^ 62 := if_neg h
    have e2 : gen r c k L mark take = far := if_neg h
    have e3 : enc n k far = 2 ^ 62 := if_neg (Nat.lt_irrefl _)
    rw [e2, e3, e1, if_pos (by rw [e62, lg_c0])]
    rfl
theorem off_min {n k : Nat} {a b : Wy} {T : a_M} (ha : enc n k a ≤ 2 ^ 62) (hb : enc n k b ≤ 2 ^ 62) : x_J9_min_f86c9 [.long (lN (enc n k a)), .long (lN (enc n k b))] T = some (some (.long (lN (enc n k (off n k a b)))), T) := by
  rw [J9_minl]
  unfold off
  by_cases h : enc n k b < enc n k a
  · rw [if_pos h, if_pos ((lN_lt63 (by omega) (by omega)).mpr h)]
  · rw [if_neg h, if_neg (fun q => h ((lN_lt63 (by omega) (by omega)).mp q))]
theorem rowsW_stop {n : Nat} {rc : Nat → Nat → Nat → Nat} {bk : Nat → Nat → Nat} {t : Nat → Nat → Wy} {k p : Nat} {w : Wy} {L : Nat} (h : n < k + (L + 1)) : ∀ d, rowsW n rc bk t k p w (L + d) = rowsW n rc bk t k p w L := by
  intro d
  induction d with
  | zero => rfl
  | succ d ih =>
    show (if k + (L + d + 1) ≤ n ∧ _ then _ else rowsW n rc bk t k p w (L + d)) = _
    rw [if_neg (by omega), ih]
theorem X7_wayAt {T : a_M} {k p : Nat} (hk : k ≤ 14) (hp : p ≤ 5) : x_X7_wayAt [.ref 45, .int (nI k), .int (nI p)] T = some (some (.long (T.2 53 (k * 6 + p))), T) := by
  have e1 : nI k * 6 + nI p = nI (k * 6 + p) := by rw [show (6 : Int32) = nI 6 from rfl, pk_mul, nI_add]
  rw [e_X7_wayAt, e1, if_neg (nI_pos (by omega)), if_pos (show nI (k * 6 + p) < 90 from nI_lt (b := 90) (by omega) (by decide)), if_neg (nI_out (by omega) (by decide)), nI_clamp (by omega)]
theorem X7_leastWay {P : q_P} {T : a_M} {E0 E1 : Nat → Nat → Nat × Int32} {u : Nat → Int32} {sz g k p : Nat} {mu : Nat → Prop} [DecidablePred mu] {pt : Nat → Nat} {t : Nat → Nat → Wy}
    (ok : q_ok P) (hc : q_c P T) (h0 : rows P.1 (T.1 47) (T.1 48) E0) (h1 : rows P.1 (T.1 50) (T.1 51) E1) (hu : ∀ k, k < P.1 → T.1 52 k = u k) (hsz : sz ≤ 5)
    (hs : x_X4_sizeOf [.ref 34, .int (nI g)] T = some (some (.int (nI sz)), T)) (hmu : ∀ i, i < sz → x_X4_mustBe [.ref 34, .int (nI g), .int (nI i)] T = some (some (.int (b2i (mu i))), T))
    (hpt : ∀ i, i < sz → x_X4_partOf [.ref 34, .int (nI g), .int (nI i)] T = some (some (.int (nI (pt i))), T)) (hp4 : ∀ i, i < sz → pt i ≤ 4)
    (hrc : ∀ p k L, 1 ≤ L → L ≤ 4 → rcost P E0 E1 u (pt p) k L < 1000000 → rcost P E0 E1 u (pt p) k L + bkc P k L ≤ 20) (hr6 : ∀ p k L, rcost P E0 E1 u (pt p) k L ≤ 1000000)
    (hk : k ≤ P.1) (hp : p ≤ sz) (hok : ∀ k' p', k ≤ k' → k' ≤ P.1 → p ≤ p' → p' ≤ sz → ¬ (k' = k ∧ p' = p) → okW P.1 sz (fun p k L => rcost P E0 E1 u (pt p) k L) t k' p' (t k' p') ∧ T.2 53 (k' * 6 + p') = lN (enc P.1 k' (t k' p'))) :
    x_X7_leastWay [.ref 45, .int (nI g), .int (nI k), .int (nI p)] T = some (some (.long (lN (enc P.1 k (stepW P.1 sz mu (fun p k L => rcost P E0 E1 u (pt p) k L) (bkc P) t k p)))), T) := by
  have hn := ok.1.1
  have hT := hc.1
  have e62 : (4611686018427387904 : Int64) = lN (2 ^ 62) := by decide +kernel
  have efar : enc P.1 k far = 2 ^ 62 := if_neg (Nat.lt_irrefl _)
  have hbd : ∀ k' p', k ≤ k' → k' ≤ P.1 → p ≤ p' → p' ≤ sz → ¬ (k' = k ∧ p' = p) → ((t k' p').1 < 1000000 → (t k' p').1 ≤ 200 ∧ ∀ j, k' ≤ j → j < P.1 → (t k' p').2.1 j ≤ 5) := by
    intro k' p' a b c d e hq
    obtain ⟨g1, g2, g3⟩ := (hok k' p' a b c d e).1.2 hq
    exact ⟨by omega, g2⟩
  -- from 66 on
  have hl := okW_left (k := k) (p := p) (sz := sz) (t := t) (rc := fun p k L => rcost P E0 E1 u (pt p) k L) hn hsz (fun hq => (hok (k + 1) p (by omega) (by omega) (Nat.le_refl _) hp (by omega)).1)
  have rest : ∀ w, okW P.1 sz (fun p k L => rcost P E0 E1 u (pt p) k L) t k p w → p < sz → ∀ d L, L + d = 4 →
      g_X7_leastWay 121 [.ref 45, .null, .int (nI k), .int (nI p), .null, .long (lN (enc P.1 k (rowsW P.1 (fun p k L => rcost P E0 E1 u (pt p) k L) (bkc P) t k p w L))), .null, .int (nI (pt p)), .int (nI (L + 1)), .null, .null, .null] [] T = some (some (.long (lN (enc P.1 k (rowsW P.1 (fun p k L => rcost P E0 E1 u (pt p) k L) (bkc P) t k p w 4)))), T) := by
    intro w hw hps d
    have hrows := okW_rows (bk := bkc P) hn hsz hps hrc hw (fun k' a b => (hok k' (p + 1) (by omega) b (by omega) (by omega) (by omega)).1)
    induction d with
    | zero =>
      intro L hL
      obtain rfl : L = 4 := by omega
      rw [b_X7_leastWay_121, if_pos (show (4 : Int32) < nI (4 + 1) by decide)]
    | succ d ih =>
      intro L hL
      rw [b_X7_leastWay_121, if_neg (show ¬ (4 : Int32) < nI (L + 1) from nI_nlt (a := 4) (by omega) (by decide)), hT, pk_sub hk]
      by_cases hfit : k + (L + 1) ≤ P.1
      · rw [if_neg (nI_nlt (by omega) (by omega)), X7_rowCost ok hc h0 h1 hu (hp4 p hps) (by omega) (by omega) hfit]
        simp only [Option.bind_some, Option.toList_some, List.append_nil, b_X7_leastWay_150]
        have h6 := hr6 p k (L + 1)
        have eR : rowsW P.1 (fun p k L => rcost P E0 E1 u (pt p) k L) (bkc P) t k p w (L + 1) = if k + (L + 1) ≤ P.1 ∧ rcost P E0 E1 u (pt p) k (L + 1) < 1000000 then off P.1 k (rowsW P.1 (fun p k L => rcost P E0 E1 u (pt p) k L) (bkc P) t k p w L) (gen (t (k + (L + 1)) (p + 1)) (rcost P E0 E1 u (pt p) k (L + 1) + bkc P k (L + 1)) k (L + 1) p (nI (L + 1))) else rowsW P.1 (fun p k L => rcost P E0 E1 u (pt p) k L) (bkc P) t k p w L := rfl
        by_cases hlt : rcost P E0 E1 u (pt p) k (L + 1) < 1000000
        · have hb20 := hrc p k (L + 1) (by omega) (by omega) hlt
          rw [if_pos (show nI (rcost P E0 E1 u (pt p) k (L + 1)) < 1000000 from nI_lt (b := 1000000) hlt (by decide)), nI_add, nI_1, X7_wayAt (by omega) (by omega)]
          simp only [Option.bind_some, Option.toList_some, List.append_nil, b_X7_leastWay_173]
          rw [X7_breakCost ok hc (by omega) hfit]
          simp only [Option.bind_some, Option.toList_some, List.cons_append, List.nil_append, b_X7_leastWay_188]
          rw [X7_marks hn hc (by omega) hfit]
          simp only [Option.bind_some, Option.toList_some, List.cons_append, List.nil_append, b_X7_leastWay_197]
          have hd := hok (k + (L + 1)) (p + 1) (by omega) hfit (by omega) (by omega) (by omega)
          rw [nI_add, hd.2, X7_plus (take := nI (L + 1)) hn hfit hb20 (fun hq => (hbd (k + (L + 1)) (p + 1) (by omega) hfit (by omega) (by omega) (by omega) hq)) (by omega)]
          simp only [Option.bind_some, Option.toList_some, List.cons_append, List.nil_append, b_X7_leastWay_200]
          have ho1 := okW_enc hn hsz hk (hrows L (by omega))
          have ho2 : enc P.1 k (gen (t (k + (L + 1)) (p + 1)) (rcost P E0 E1 u (pt p) k (L + 1) + bkc P k (L + 1)) k (L + 1) p (nI (L + 1))) ≤ 2 ^ 62 := by
            unfold gen
            by_cases hq : (t (k + (L + 1)) (p + 1)).1 < 1000000
            · rw [if_pos hq]
              obtain ⟨b1, b2⟩ := hbd (k + (L + 1)) (p + 1) (by omega) hfit (by omega) (by omega) (by omega) hq
              refine Nat.le_of_lt (Nat.lt_of_lt_of_le (enc_lt hn hk (show _ + _ < 1000000 by omega) (show _ + _ ≤ 1000 by omega) (fun j a b => ?_)).2 (by decide))
              show (if j < k + (L + 1) then p else _) ≤ 5
              by_cases hj : j < k + (L + 1)
              · rw [if_pos hj]; omega
              · rw [if_neg hj]; exact b2 j (by omega) b
            · rw [if_neg hq, efar]; exact Nat.le_refl _
          rw [off_min ho1 ho2]
          simp only [Option.bind_some, Option.toList_some, List.append_nil, b_X7_leastWay_203]
          have := ih (L + 1) (by omega)
          rw [eR, if_pos ⟨hfit, hlt⟩] at this
          rw [nI_1]
          exact this
        · rw [if_neg (show ¬ nI (rcost P E0 E1 u (pt p) k (L + 1)) < 1000000 from nI_nlt (b := 1000000) (by omega) (by omega)), nI_1]
          have := ih (L + 1) (by omega)
          rw [eR, if_neg (fun q => hlt q.2)] at this
          exact this
      · rw [if_pos (nI_lt (by omega) (by omega))]
        have := rowsW_stop (n := P.1) (rc := fun p k L => rcost P E0 E1 u (pt p) k L) (bk := bkc P) (t := t) (k := k) (p := p) (w := w) (L := L) (by omega) (4 - L)
        rw [show L + (4 - L) = 4 by omega] at this
        rw [this]
  have mid : ∀ hne : ¬ (k = P.1 ∧ p = sz), g_X7_leastWay 66 [.ref 45, .int (nI g), .int (nI k), .int (nI p), .int (nI sz), .long (lN (enc P.1 k (left P.1 t k p))), .null, .null, .null, .null, .null, .null] [] T = some (some (.long (lN (enc P.1 k (stepW P.1 sz mu (fun p k L => rcost P E0 E1 u (pt p) k L) (bkc P) t k p)))), T) := by
    intro hne
    rw [b_X7_leastWay_66]
    unfold stepW
    rw [if_neg hne]
    by_cases hps : p = sz
    · rw [if_pos (by rw [hps]), if_pos hps]
    · rw [if_neg (nI_ne (by omega) (by omega) hps), if_neg hps, hmu p (by omega)]
      simp only [Option.bind_some, Option.toList_some, List.append_nil, b_X7_leastWay_84, b2i_z]
      have ha := okW_abse (mu := mu) hn hsz (show p < sz by omega) hl (hok k (p + 1) (Nat.le_refl _) hk (by omega) (by omega) (by omega)).1
      have hfin := rest _ ha (by omega) 4 0 rfl
      have hgo : g_X7_leastWay 107 [.ref 45, .int (nI g), .int (nI k), .int (nI p), .null, .long (lN (enc P.1 k (abse P.1 mu t k p (left P.1 t k p)))), .null, .null, .null, .null, .null, .null] [] T = some (some (.long (lN (enc P.1 k (rowsW P.1 (fun p k L => rcost P E0 E1 u (pt p) k L) (bkc P) t k p (abse P.1 mu t k p (left P.1 t k p)) 4)))), T) := by
        rw [b_X7_leastWay_107, hpt p (by omega)]
        simp only [Option.bind_some, Option.toList_some, List.append_nil, b_X7_leastWay_116]
        exact hfin
      by_cases hm : mu p
      · rw [if_neg (fun q => q hm)]
        have ea : abse P.1 mu t k p (left P.1 t k p) = left P.1 t k p := if_pos hm
        rw [ea] at hgo ⊢
        exact hgo
      · rw [if_pos hm]
        have ea : abse P.1 mu t k p (left P.1 t k p) = off P.1 k (left P.1 t k p) (gen (t k (p + 1)) 3 k 0 0 0) := if_neg hm
        rw [ea] at hgo ⊢
        rw [nI_1, X7_wayAt (by omega) (by omega)]
        simp only [Option.bind_some, Option.toList_some, List.cons_append, List.nil_append, b_X7_leastWay_97]
        have hq := X7_plus (k := k) (L := 0) (c := 3) (mark := 0) (r := t k (p + 1)) (take := 0) (T := T) hn hk (by decide) (fun hq => hbd k (p + 1) (Nat.le_refl _) hk (by omega) (by omega) (by omega) hq) (by decide)
        have hq' : x_X7_plus [.long (lN (enc P.1 k (t k (p + 1)))), .int 3, .long 0] T = some (some (.long (lN (enc P.1 k (gen (t k (p + 1)) 3 k 0 0 0)))), T) := hq
        rw [(hok k (p + 1) (Nat.le_refl _) hk (by omega) (by omega) (by omega)).2, hq']
        simp only [Option.bind_some, Option.toList_some, List.cons_append, List.nil_append, b_X7_leastWay_102]
        have ho2 : enc P.1 k (gen (t k (p + 1)) 3 k 0 0 0) ≤ 2 ^ 62 := by
          unfold gen
          by_cases hq : (t k (p + 1)).1 < 1000000
          · rw [if_pos hq]
            obtain ⟨b1, b2⟩ := hbd k (p + 1) (Nat.le_refl _) hk (by omega) (by omega) (by omega) hq
            refine Nat.le_of_lt (Nat.lt_of_lt_of_le (enc_lt hn hk (show _ + _ < 1000000 by omega) (show _ + _ ≤ 1000 by omega) (fun j a b => ?_)).2 (by decide))
            show (if j < k + 0 then 0 else _) ≤ 5
            rw [if_neg (by omega)]; exact b2 j a b
          · rw [if_neg hq, efar]; exact Nat.le_refl _
        rw [off_min (okW_enc hn hsz hk hl) ho2]
        simp only [Option.bind_some, Option.toList_some, List.append_nil, b_X7_leastWay_105]
        exact hgo
  rw [e_X7_leastWay, hs]
  simp only [Option.bind_some, Option.toList_some, List.append_nil, b_X7_leastWay_8]
  have go29 : ∀ hne : ¬ (k = P.1 ∧ p = sz), g_X7_leastWay 29 [.ref 45, .int (nI g), .int (nI k), .int (nI p), .int (nI sz), .null, .null, .null, .null, .null, .null, .null] [] T = some (some (.long (lN (enc P.1 k (stepW P.1 sz mu (fun p k L => rcost P E0 E1 u (pt p) k L) (bkc P) t k p)))), T) := by
    intro hne
    have hm := mid hne
    rw [b_X7_leastWay_29, hT]
    by_cases hk2 : k < P.1
    · rw [if_pos (nI_lt hk2 (by omega)), nI_1, X7_wayAt (by omega) (by omega)]
      simp only [Option.bind_some, Option.toList_some, List.append_nil, b_X7_leastWay_53]
      have q := X7_marks (mark := 5) (k := k) (L := 1) hn hc (by decide) (by omega)
      rw [show (5 : Int32) = nI 5 from rfl, show (1 : Int32) = nI 1 from rfl, q]
      simp only [Option.bind_some, Option.toList_some, List.cons_append, List.nil_append, b_X7_leastWay_61]
      have q2 := X7_plus (k := k) (L := 1) (c := 4) (mark := 5) (r := t (k + 1) p) (take := -1) (T := T) hn (by omega) (by decide) (fun hq => hbd (k + 1) p (by omega) (by omega) (by omega) (by omega) (by omega) hq) (by decide)
      rw [show (4 : Int32) = nI 4 from rfl, (hok (k + 1) p (by omega) (by omega) (by omega) (by omega) (by omega)).2, q2]
      simp only [Option.bind_some, Option.toList_some, List.append_nil, b_X7_leastWay_64]
      have el : left P.1 t k p = gen (t (k + 1) p) 4 k 1 5 (-1) := if_pos hk2
      rw [← el]
      exact hm
    · rw [if_neg (nI_nlt (by omega) (by omega)), e62]
      have el : left P.1 t k p = far := if_neg hk2
      rw [el, efar] at hm
      exact hm
  rw [hT]
  by_cases hk2 : k = P.1
  · rw [if_pos (by rw [hk2])]
    by_cases hps : p = sz
    · rw [if_pos (by rw [hps])]
      unfold stepW
      rw [if_pos ⟨hk2, hps⟩]
      have : enc P.1 k ((0, fun _ => 0, 0) : Wy) = 0 := by
        show (if 0 < 1000000 then 0 * 8 ^ 14 + e_ms (fun _ => 0) k (P.1 - k) else _) = 0
        rw [if_pos (by decide), hk2, Nat.sub_self]
        rfl
      rw [this]
      rfl
    · rw [if_neg (nI_ne (by omega) (by omega) hps)]
      exact go29 (fun q => hps q.2)
  · rw [if_neg (nI_ne (by omega) (by omega) hk2)]
    exact go29 (fun q => hk2 q.1)
