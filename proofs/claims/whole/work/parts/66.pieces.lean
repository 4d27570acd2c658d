/-! ===== pieces of read ===== -/
theorem X1_clearDraft (T : a_M) : ∃ T', x_X1_clearDraft [.ref 38] T = some (none, T') ∧ c40 T T' ∧ ∀ x, x < 17 → T'.1 40 x = if x < 5 then 0 else -1 := by
  rw [e_X1_clearDraft, fill_40]
  simp only [Option.bind_some, Option.toList_none, List.append_nil, b_X1_clearDraft_8]
  have loop : ∀ e i T1, i + e = 5 → c40 T T1 → (∀ x, x < 17 → T1.1 40 x = if x < i then 0 else -1) → ∃ T', g_X1_clearDraft 10 [.ref 38, .int (nI i)] [] T1 = some (none, T') ∧ c40 T T' ∧ ∀ x, x < 17 → T'.1 40 x = if x < 5 then 0 else -1 := by
    intro e
    induction e with
    | zero =>
      intro i T1 h1 h2 h3
      obtain rfl : i = 5 := by omega
      rw [b_X1_clearDraft_10, if_neg (show ¬ nI 5 < 5 by decide)]
      exact ⟨T1, rfl, h2, h3⟩
    | succ e ih =>
      intro i T1 h1 h2 h3
      rw [b_X1_clearDraft_10, if_pos (show nI i < 5 from nI_lt (b := 5) (by omega) (by decide)), put_40, pv_nI (by omega) (by decide)]
      simp only [Option.bind_some, Option.toList_none, List.append_nil, b_X1_clearDraft_24]
      rw [nI_1]
      refine ih (i + 1) _ (by omega) (c40_tr h2 (c40_wi _ _ _)) (fun x hx => ?_)
      rw [wi_e, up_x]
      by_cases hxi : x = i
      · rw [if_pos hxi, if_pos (by omega)]
      · rw [if_neg hxi, h3 x hx]
        by_cases hl : x < i
        · rw [if_pos hl, if_pos (by omega)]
        · rw [if_neg hl, if_neg (by omega)]
  have := loop 5 0 (fv T 40 17 (-1)) rfl ⟨fun c a => fv_n a, rfl⟩ (fun x hx => by rw [fv_e]; dsimp only; rw [if_pos hx, if_neg (by omega)])
  rw [nI_0] at this
  exact this
/-- the fields of a fresh draft -/
def f00 : Nat → Int32 := fun x => if x < 5 then 0 else -1
theorem upd_17 {f g : Nat → Int32} {i : Nat} {v : Int32} (h : ∀ x, x < 17 → f x = g x) : ∀ x, x < 17 → upd f i v x = upd g i v x := by
  intro x hx
  rw [up_x, up_x, h x hx]
theorem layF_17 {P : q_P} {E0 E1 : Nat → Nat → Nat × Int32} {u : Nat → Int32} {part s L : Nat} {f g : Nat → Int32} (h : ∀ x, x < 17 → f x = g x) : ∀ x, x < 17 → layF P E0 E1 u part s L f x = layF P E0 E1 u part s L g x := by
  unfold layF
  by_cases p0 : part = 0
  · rw [if_pos p0, if_pos p0]; exact upd_17 (upd_17 (upd_17 h))
  · rw [if_neg p0, if_neg p0]
    by_cases p1 : part = 1
    · rw [if_pos p1, if_pos p1]; exact upd_17 (upd_17 h)
    · rw [if_neg p1, if_neg p1]
      by_cases p2 : part = 2
      · rw [if_pos p2, if_pos p2]
        intro x hx
        rw [sgF_x, sgF_x, (upd_17 (upd_17 (upd_17 h))) x hx]
      · rw [if_neg p2, if_neg p2]
        by_cases p3 : part = 3
        · rw [if_pos p3, if_pos p3]; exact upd_17 (upd_17 h)
        · rw [if_neg p3, if_neg p3]; exact upd_17 (upd_17 h)
theorem pf_17 {P : q_P} {E0 E1 : Nat → Nat → Nat × Int32} {u : Nat → Int32} {sz : Nat} {pt : Nat → Nat} {t : Nat → Nat → Wy} : ∀ e k p {f g : Nat → Int32}, (∀ x, x < 17 → f x = g x) → ∀ x, x < 17 → pf P E0 E1 u sz pt t e k p f x = pf P E0 E1 u sz pt t e k p g x := by
  intro e
  induction e with
  | zero => intro k p f g h; exact h
  | succ e ih =>
    intro k p f g h
    unfold pf
    by_cases h1 : k = P.1 ∧ p = sz
    · rw [if_pos h1, if_pos h1]; exact h
    · rw [if_neg h1, if_neg h1]
      by_cases h2 : (t k p).2.2 < 0
      · rw [if_pos h2, if_pos h2]; exact ih _ _ h
      · rw [if_neg h2, if_neg h2]
        by_cases h3 : (0 : Int32) < (t k p).2.2
        · rw [if_pos h3, if_pos h3]; exact ih _ _ (layF_17 h)
        · rw [if_neg h3, if_neg h3]; exact ih _ _ h
/-- the table is the same where the cells it reads are the same -/
theorem TB_c {P : q_P} {S T : a_M} (e : ∀ c, 12 ≤ c → c < 38 → T.1 c = S.1 c) (e82 : T.1 82 = S.1 82) (W H Z TT U g sz : Nat) : TB P T W H Z TT U g sz = TB P S W H Z TT U g sz ∧ (∀ Z' town, R0 P T H Z' town = R0 P S H Z' town) ∧ un P T W U = un P S W U ∧ pts T g = pts S g := by
  have r : ∀ Z' town, R0 P T H Z' town = R0 P S H Z' town := by
    intro Z' town
    funext s L
    have : ∀ k, fcost P T H town k L s = fcost P S H town k L s := fun k => fcost_c (fun c _ _ => e c (by omega) (by omega)) (e 21 (by decide) (by decide)) (e 22 (by decide) (by decide)) (e 23 (by decide) (by decide)) H town k L s
    show brw _ Z' = brw _ Z'
    simp only [this]
  have hu : un P T W U = un P S W U := by
    funext k
    exact un_c (e 13 (by decide) (by decide)) (e 14 (by decide) (by decide)) (e 26 (by decide) (by decide)) (e 27 (by decide) (by decide)) W U k
  have hp : pts T g = pts S g := by
    funext i
    show cl (T.1 82 _) = cl (S.1 82 _)
    rw [e82]
  refine ⟨?_, r, hu, hp⟩
  have hm : T.1 37 = S.1 37 := e 37 (by decide) (by decide)
  have hrc : RC P T W H Z TT U g = RC P S W H Z TT U g := by
    funext p k L
    show rcost P (R0 P T H Z false) (R0 P T H TT true) (un P T W U) (pts T g p) k L = rcost P (R0 P S H Z false) (R0 P S H TT true) (un P S W U) (pts S g p) k L
    rw [r, r, hu, hp]
  show tab P.1 sz (mus T g) (RC P T W H Z TT U g) (bkc P) = tab P.1 sz (mus S g) (RC P S W H Z TT U g) (bkc P)
  rw [hrc]
  have key : ∀ m m' : Int32, m = m' → tab P.1 sz (fun i => (m >>> (nI i &&& 31)) &&& 1 = 1) (RC P S W H Z TT U g) (bkc P) = tab P.1 sz (fun i => (m' >>> (nI i &&& 31)) &&& 1 = 1) (RC P S W H Z TT U g) (bkc P) := by
    rintro m _ rfl; rfl
  exact key _ _ (congrFun hm g)
/-- what deliver does behind layAll -/
theorem deliver33 {n d : Nat} {v : Int32} {w : Nat → Nat} {T : a_M} (hn : n ≤ 14) (hd : d < 40) (h6 : T.1 56 6 = nI n) (h98 : ∀ j, j < n → T.1 98 j = nI (w j)) (h94 : T.1 94 d = v) :
    ∃ T', g_X12_deliver 33 [.ref 56, .null, .int (nI d), .int 0] [] T = some (some (.int (nI d)), T') ∧ (∀ c, c ≠ 84 → c ≠ 94 → T'.1 c = T.1 c) ∧ T'.2 = T.2 ∧ (∀ j, j < n → T'.1 84 j = nI (w j)) ∧ T'.1 94 d = v + 1 ∧ ∀ x, x ≠ d → T'.1 94 x = T.1 94 x := by
  have loop : ∀ e i T1, i + e = n → (∀ c, c ≠ 84 → T1.1 c = T.1 c) → T1.2 = T.2 → (∀ j, j < i → T1.1 84 j = nI (w j)) →
      ∃ T', g_X12_deliver 33 [.ref 56, .null, .int (nI d), .int (nI i)] [] T1 = some (some (.int (nI d)), T') ∧ (∀ c, c ≠ 84 → c ≠ 94 → T'.1 c = T.1 c) ∧ T'.2 = T.2 ∧ (∀ j, j < n → T'.1 84 j = nI (w j)) ∧ T'.1 94 d = v + 1 ∧ ∀ x, x ≠ d → T'.1 94 x = T.1 94 x := by
    intro e
    induction e with
    | zero =>
      intro i T1 h1 h2 h3 h4
      obtain rfl : i = n := by omega
      rw [b_X12_deliver_33, h2 56 (by decide), h6, if_neg (nI_nlt (Nat.le_refl _) (by omega)), if_neg (nI_out (by omega) (by decide)), nI_clamp (by omega), if_neg (show ¬ (nI d < 0 ∨ 40 ≤ d) from nI_out2 hd (by omega)), h2 94 (by decide), h94]
      exact ⟨_, rfl, fun c a b => (wi_n b).trans (h2 c a), h3, fun j hj => by rw [wi_n (by decide)]; exact h4 j hj, wi_v _ _ _ _, fun x hx => by rw [wi_s hx, h2 94 (by decide)]⟩
    | succ e ih =>
      intro i T1 h1 h2 h3 h4
      rw [b_X12_deliver_33, h2 56 (by decide), h6, if_pos (nI_lt (by omega) (by omega)), if_neg (nI_out (by omega) (by decide)), if_neg (nI_out (by omega) (by decide)), nI_clamp (by omega), nI_1, h2 98 (by decide), h98 i (by omega)]
      refine ih (i + 1) _ (by omega) (fun c a => (wi_n a).trans (h2 c a)) h3 (fun j hj => ?_)
      by_cases hji : j = i
      · subst hji; rw [wi_v]
      · rw [wi_s (by omega)]; exact h4 j (by omega)
  have := loop n 0 T (Nat.zero_add _) (fun _ _ => rfl) rfl (fun j hj => absurd hj (Nat.not_lt_zero _))
  rw [nI_0] at this
  exact this
