/-! ===== what holds between the class's cells and the reference's, behind each call ===== -/
def i_line (n : Nat) (s s' : Int32) (u u' : Nat → Int32) : Prop := n ≤ 120 ∧ s = nI n ∧ s' = nI n ∧ u = u'
def i_fold (m : Nat) (s s' : Int32) (f f' g g' h h' : Nat → Int32) : Prop := m ≤ 30 ∧ s = nI m ∧ s' = nI m ∧ f = f' ∧ g = g' ∧ h = h' ∧ (∀ i j, i < m → j < m → f i = f j → i = j) ∧ ∀ i, i < m → h i = -1 ∨ ¬ h i < 0
/-- names: N of them, W words in the class's book; sz sizes, id the words' numbers, nl their lengths there, sg signs, wl lengths here -/
def i_book (N W : Nat) (cN cN' cW : Int32) (sz sz' id nl sg sg' wl : Nat → Int32) : Prop :=
  N ≤ 60 ∧ W ≤ 4 * N ∧ cN = nI N ∧ cN' = nI N ∧ cW = nI W ∧ sz = sz' ∧
  (∀ k, k < N → 1 ≤ cl (sz k) ∧ cl (sz k) ≤ 4 ∧ sz k = nI (cl (sz k))) ∧
  (∀ k j, k < N → j < cl (sz k) → cl (id (k * 4 + j)) < W ∧ id (k * 4 + j) = nI (cl (id (k * 4 + j))) ∧ nl (k * 4 + j) = wl (cl (id (k * 4 + j))) ∧
    ∀ i, i < cl (wl (cl (id (k * 4 + j)))) → sg' ((k * 4 + j) * 16 + i) = sg (cl (id (k * 4 + j)) * 16 + i)) ∧
  (∀ w, w < W → 1 ≤ cl (wl w) ∧ cl (wl w) ≤ 16 ∧ wl w = nI (cl (wl w))) ∧
  (∀ w v, w < W → v < W → cl (wl w) = cl (wl v) → (∀ i, i < cl (wl w) → sg (w * 16 + i) = sg (v * 16 + i)) → w = v) ∧
  (∀ k l, k < N → l < N → cl (sz k) = cl (sz l) → (∀ j, j < cl (sz k) → id (k * 4 + j) = id (l * 4 + j)) → k = l)
def i_short (N H : Nat) (c c' : Int32) (a a' b b' sz : Nat → Int32) : Prop := H ≤ 30 ∧ c = nI H ∧ c' = nI H ∧ a = a' ∧ b = b' ∧
  ∀ i, i < H → cl (a i) < N ∧ a i = nI (cl (a i)) ∧ cl (b i) < N ∧ b i = nI (cl (b i)) ∧ cl (sz (cl (a i))) = 1
def i_street (N Z : Nat) (c c' : Int32) (z z' s s' : Nat → Int32) : Prop := Z ≤ 30 ∧ c = nI Z ∧ c' = nI Z ∧ z = z' ∧ s = s' ∧
  (∀ k, k < Z → 1 ≤ cl (z k) ∧ cl (z k) ≤ 4 ∧ z k = nI (cl (z k))) ∧
  (∀ k j, k < Z → j < cl (z k) → cl (s (k * 4 + j)) < N ∧ s (k * 4 + j) = nI (cl (s (k * 4 + j)))) ∧ ∀ k, Z ≤ k → k < 30 → z k = 0
def i_town (N T : Nat) (c c' : Int32) (a a' l l' h h' : Nat → Int32) : Prop := T ≤ 20 ∧ c = nI T ∧ c' = nI T ∧ a = a' ∧ l = l' ∧ h = h' ∧
  ∀ k, k < T → cl (a k) < N ∧ a k = nI (cl (a k))
def i_unit (N U : Nat) (c c' : Int32) (a a' w sz id : Nat → Int32) : Prop := U ≤ 10 ∧ c = nI U ∧ c' = nI U ∧ a = a' ∧
  (∀ k, k < U → cl (a k) < N ∧ a k = nI (cl (a k)) ∧ cl (sz (cl (a k))) = 1 ∧ w k = id (cl (a k) * 4)) ∧ ∀ k l, k < U → l < U → a k = a l → k = l
def i_range (T R : Nat) (c c' : Int32) (s s' l l' h h' d d' t t' r r' : Nat → Int32) : Prop := R ≤ 60 ∧ c = nI R ∧ c' = nI R ∧ s = s' ∧ l = l' ∧ h = h' ∧ d = d' ∧ t = t' ∧ r = r' ∧
  ∀ k, k < R → cl (t k) < T ∧ t k = nI (cl (t k)) ∧ (d k = 0 ∨ d k = 1 ∨ d k = 2) ∧ ¬ l k < 0
/-- the part at place i of an order -/
def g_at (o : Int32) (i : Nat) : Int32 := (o >>> ((3 * nI i) &&& 31)) &&& 7
def i_gram (G : Nat) (c c' : Int32) (z z' o m p q : Nat → Int32) : Prop := G ≤ 8 ∧ c = nI G ∧ c' = nI G ∧ z = z' ∧
  ∀ g, g < G → 1 ≤ cl (z g) ∧ cl (z g) ≤ 5 ∧ z g = nI (cl (z g)) ∧
    (∀ i, i < cl (z g) → p (5 * g + i) = g_at (o g) i ∧ cl (p (5 * g + i)) ≤ 4 ∧ p (5 * g + i) = nI (cl (p (5 * g + i))) ∧ q (5 * g + i) = b2i ((m g >>> (nI i &&& 31)) &&& 1 = 1)) ∧
    ∀ i j, i < cl (z g) → j < cl (z g) → p (5 * g + i) = p (5 * g + j) → i = j
/-- marks from place k on as a number of d figures to the base 8 -/
def e_ms (w : Nat → Nat) : Nat → Nat → Nat
  | _, 0 => 0
  | k, d + 1 => w k * 8 ^ d + e_ms w (k + 1) d
def i_late (c n n' : Int32) (mk : Nat → Int32) (l : Int64) : Prop := ∃ (k : Nat) (w : Nat → Nat) (cost : Nat), k ≤ 14 ∧ n = nI k ∧ n' = nI k ∧ c = nI cost ∧ cost ≤ 1000 ∧
  (∀ i, i < k → w i ≤ 5 ∧ mk i = nI (w i)) ∧ l = lN (cost * 8 ^ 14 + e_ms w 0 k)
/-- a delivery's fields are what they may be -/
def i_rec (N Z T : Nat) (sz : Nat → Int32) (h0 h1 h2 h3 h4 num let_ str unm usz twn cod : Int32) : Prop :=
  ((h0 = 1 ∧ (∃ v, v ≤ 99999 ∧ num = nI v) ∧ ∃ v, v ≤ 122 ∧ let_ = nI v) ∨ (h0 = 0 ∧ num = -1 ∧ let_ = -1)) ∧
  ((h1 = 1 ∧ ∃ v, v < Z ∧ str = nI v) ∨ (h1 = 0 ∧ str = -1)) ∧
  ((h2 = 1 ∧ (∃ v, v < N ∧ cl (sz v) = 1 ∧ unm = nI v) ∧ ∃ v, 1 ≤ v ∧ v ≤ 4 ∧ usz = nI v) ∨ (h2 = 0 ∧ unm = -1 ∧ usz = -1)) ∧
  ((h3 = 1 ∧ ∃ v, v < T ∧ twn = nI v) ∨ (h3 = 0 ∧ twn = -1)) ∧
  ((h4 = 1 ∧ ∃ v, v ≤ 99999 ∧ cod = nI v) ∨ (h4 = 0 ∧ cod = -1))
def i_del (N Z T D : Nat) (sz : Nat → Int32) (c c' : Int32) (F has num let_ str unm usz usg twn cod oft : Nat → Int32) : Prop := D ≤ 40 ∧ c = nI D ∧ c' = nI D ∧
  ∀ d, d < D → (∀ p, p < 5 → F (d * 17 + p) = has (5 * d + p)) ∧ F (d * 17 + 5) = num d ∧ F (d * 17 + 6) = let_ d ∧ F (d * 17 + 7) = str d ∧ F (d * 17 + 8) = unm d ∧ F (d * 17 + 9) = usz d ∧
    F (d * 17 + 10) = twn d ∧ F (d * 17 + 11) = cod d ∧ F (d * 17 + 12) = oft d ∧ (∀ i, i < 4 → F (d * 17 + 13 + i) = if nI i < usz d then usg (4 * d + i) else -1) ∧
    i_rec N Z T sz (has (5 * d)) (has (5 * d + 1)) (has (5 * d + 2)) (has (5 * d + 3)) (has (5 * d + 4)) (num d) (let_ d) (str d) (unm d) (usz d) (twn d) (cod d)
abbrev i_L (n : Nat) (S : a_M) : Prop := i_line n (S.1 1 1) (S.1 56 1) (S.1 2) (S.1 57)
abbrev i_F (m : Nat) (S : a_M) : Prop := i_fold m (S.1 3 3) (S.1 56 5) (S.1 4) (S.1 58) (S.1 5) (S.1 59) (S.1 6) (S.1 60)
abbrev i_B (N W : Nat) (S : a_M) : Prop := i_book N W (S.1 12 8) (S.1 56 10) (S.1 12 7) (S.1 16) (S.1 64) (S.1 15) (S.1 65) (S.1 13) (S.1 66) (S.1 14)
abbrev i_H (N H : Nat) (S : a_M) : Prop := i_short N H (S.1 12 9) (S.1 56 14) (S.1 17) (S.1 67) (S.1 18) (S.1 68) (S.1 16)
abbrev i_Z (N Z : Nat) (S : a_M) : Prop := i_street N Z (S.1 20 13) (S.1 56 17) (S.1 22) (S.1 69) (S.1 21) (S.1 70)
abbrev i_T (N T : Nat) (S : a_M) : Prop := i_town N T (S.1 20 14) (S.1 56 20) (S.1 23) (S.1 71) (S.1 24) (S.1 72) (S.1 25) (S.1 73)
abbrev i_U (N U : Nat) (S : a_M) : Prop := i_unit N U (S.1 20 15) (S.1 56 24) (S.1 26) (S.1 74) (S.1 27) (S.1 16) (S.1 15)
abbrev i_R (T R : Nat) (S : a_M) : Prop := i_range T R (S.1 20 16) (S.1 56 26) (S.1 28) (S.1 75) (S.1 29) (S.1 76) (S.1 30) (S.1 77) (S.1 31) (S.1 78) (S.1 32) (S.1 79) (S.1 33) (S.1 80)
abbrev i_G (G : Nat) (S : a_M) : Prop := i_gram G (S.1 34 3) (S.1 56 33) (S.1 35) (S.1 81) (S.1 36) (S.1 37) (S.1 82) (S.1 83)
abbrev i_A (S : a_M) : Prop := i_late (S.1 56 37) (S.1 45 11) (S.1 56 38) (S.1 84) (S.2 45 10)
abbrev i_D (N Z T D : Nat) (S : a_M) : Prop := i_del N Z T D (S.1 16) (S.1 38 2) (S.1 56 40) (S.1 39) (S.1 85) (S.1 86) (S.1 87) (S.1 88) (S.1 89) (S.1 90) (S.1 91) (S.1 92) (S.1 93) (S.1 94)
/-- all but the class's text -/
def i_P (n m N W H Z T U R G D : Nat) (S : a_M) : Prop := i_L n S ∧ i_F m S ∧ i_B N W S ∧ i_H N H S ∧ i_Z N Z S ∧ i_T N T S ∧ i_U N U S ∧ i_R T R S ∧ i_G G S ∧ i_A S ∧ i_D N Z T D S
def i_I (S : a_M) : Prop := (∃ n m N W H Z T U R G D, i_P n m N W H Z T U R G D S) ∧ c_text S
/-- a call: both sides answer alike, and all holds again -/
def i_Op (x m : a_M → Option a_O) : Prop := ∀ S, i_I S → ∃ r S1 S2, x S = some (some (.int r), S1) ∧ m S1 = some (some (.int r), S2) ∧ i_I S2
theorem i_Op.run {x m : a_M → Option a_O} (h : i_Op x m) {S : a_M} (hS : i_I S) : ∃ r S1 S2, x S = some (some (.int r), S1) ∧ m S1 = some (some (.int r), S2) ∧ i_I S2 := h S hS
/-! cells of scratch: they may hold anything between the calls -/
/-- T is S but for scratch -/
def i_S (S T : a_M) : Prop := (∀ k, k < 7 → k ≠ 0 → T.1 k = S.1 k) ∧ (∀ k, 12 ≤ k → k < 40 → k ≠ 19 → T.1 k = S.1 k) ∧ T.1 45 11 = S.1 45 11 ∧ T.2 45 10 = S.2 45 10 ∧ (∀ k, 57 ≤ k → k < 95 → k ≠ 61 → k ≠ 62 → k ≠ 63 → T.1 k = S.1 k) ∧
  ∀ j, j ≠ 6 → j ≠ 51 → j ≠ 52 → j ≠ 53 → j ≠ 55 → j ≠ 63 → T.1 56 j = S.1 56 j
theorem i_S_rfl (S : a_M) : i_S S S := ⟨fun _ _ _ => rfl, fun _ _ _ _ => rfl, rfl, rfl, fun _ _ _ _ _ _ => rfl, fun _ _ _ _ _ _ _ => rfl⟩
theorem i_S_tr {S T U : a_M} (h1 : i_S S T) (h2 : i_S T U) : i_S S U :=
  ⟨fun k a b => (h2.1 k a b).trans (h1.1 k a b), fun k a b c => (h2.2.1 k a b c).trans (h1.2.1 k a b c), h2.2.2.1.trans h1.2.2.1, h2.2.2.2.1.trans h1.2.2.2.1,
    fun k a b c d e => (h2.2.2.2.2.1 k a b c d e).trans (h1.2.2.2.2.1 k a b c d e), fun j a b c d e f => (h2.2.2.2.2.2 j a b c d e f).trans (h1.2.2.2.2.2 j a b c d e f)⟩
theorem i_P_S {n m N W H Z T U R G D : Nat} {S S' : a_M} (e : i_S S S') (h : i_P n m N W H Z T U R G D S) : i_P n m N W H Z T U R G D S' := by
  obtain ⟨a, b, c, d, f, g⟩ := e
  have a1 := a 1 (by decide) (by decide)
  have a2 := a 2 (by decide) (by decide)
  have a3 := a 3 (by decide) (by decide)
  have a4 := a 4 (by decide) (by decide)
  have a5 := a 5 (by decide) (by decide)
  have a6 := a 6 (by decide) (by decide)
  unfold i_P i_L i_F i_B i_H i_Z i_T i_U i_R i_G i_A i_D
  simp (disch := decide) only [a1, a2, a3, a4, a5, a6, b, c, d, f, g]
  exact h
theorem c_same_S {S T : a_M} (h : c_same S T) : i_S S T :=
  ⟨fun k h1 _ => h.1 k (c_nin k (by omega)), fun k h1 _ _ => h.1 k (c_nin k (by omega)), by rw [h.1 45 (c_nin 45 (by omega))], by rw [h.2], fun k h1 _ _ _ _ => h.1 k (c_nin k (by omega)), fun j _ _ _ _ _ _ => by rw [h.1 56 (c_nin 56 (by omega))]⟩
theorem m_same_S {S T : a_M} (h : m_same S T) : i_S S T :=
  ⟨fun k h1 _ => h.1 k (by omega) (by omega) (by omega) (by omega), fun k h1 h2 _ => h.1 k (by omega) (by omega) (by omega) (by omega), by rw [h.1 45 (by decide) (by decide) (by decide) (by decide)], by rw [h.2.2],
    fun k h1 h2 h3 h4 h5 => h.1 k (by omega) h3 h4 h5, fun j h1 h2 h3 h4 _ _ => h.2.1 j h1 h2 h3 h4⟩
theorem i_text_c {S T : a_M} (h : c_text S) (e0 : T.1 0 10 = S.1 0 10) (e1 : T.1 1 1 = S.1 1 1) (e2 : T.1 2 = S.1 2) (e3 : T.1 3 3 = S.1 3 3) (e4 : T.1 4 = S.1 4) (e5 : T.1 5 = S.1 5) (e6 : T.1 6 = S.1 6) (e7 : ∀ c, 7 ≤ c → c ≤ 11 → T.1 c = S.1 c) : c_text T := by
  intro h0
  rw [e0] at h0
  have h1 := q_cb_frame (h h0) e7
  unfold q_pS
  rw [e1, e2, e3, e4, e5, e6]
  exact h1
theorem i_text_0 {S : a_M} (h : S.1 0 10 = 0) : c_text S := fun q => absurd h q
