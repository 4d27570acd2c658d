/-! ===== the reference lays a row into a record ===== -/
/-- record d holds the fields f -/
def recR (d : Nat) (f : Nat → Int32) (T : a_M) : Prop := (∀ i, i < 5 → T.1 85 (5 * d + i) = f i) ∧ T.1 86 d = f 5 ∧ T.1 87 d = f 6 ∧ T.1 88 d = f 7 ∧ T.1 89 d = f 8 ∧ T.1 90 d = f 9 ∧ T.1 92 d = f 10 ∧ T.1 93 d = f 11 ∧ ∀ i, i < 4 → f (13 + i) = if nI i < f 9 then T.1 91 (4 * d + i) else -1
def recF (N Z TT : Nat) (sz : Nat → Int32) (f : Nat → Int32) : Prop := i_rec N Z TT sz (f 0) (f 1) (f 2) (f 3) (f 4) (f 5) (f 6) (f 7) (f 8) (f 9) (f 10) (f 11)
/-- only record d (and scratch) may differ -/
def cd (d : Nat) (B T : a_M) : Prop := (∀ c, c ≠ 56 → c ≠ 95 → c < 85 ∨ 94 < c → T.1 c = B.1 c) ∧ (∀ j, j ≠ 55 → T.1 56 j = B.1 56 j) ∧ T.2 = B.2 ∧
  ∀ x, x ≠ d → T.1 86 x = B.1 86 x ∧ T.1 87 x = B.1 87 x ∧ T.1 88 x = B.1 88 x ∧ T.1 89 x = B.1 89 x ∧ T.1 90 x = B.1 90 x ∧ T.1 92 x = B.1 92 x ∧ T.1 93 x = B.1 93 x ∧ T.1 94 x = B.1 94 x ∧ (∀ i, i < 5 → T.1 85 (5 * x + i) = B.1 85 (5 * x + i)) ∧ ∀ i, i < 4 → T.1 91 (4 * x + i) = B.1 91 (4 * x + i)
theorem cd_rfl (d : Nat) (B : a_M) : cd d B B := ⟨fun _ _ _ _ => rfl, fun _ _ => rfl, rfl, fun _ _ => ⟨rfl, rfl, rfl, rfl, rfl, rfl, rfl, rfl, fun _ _ => rfl, fun _ _ => rfl⟩⟩
theorem cd_tr {d : Nat} {A B C : a_M} (h1 : cd d A B) (h2 : cd d B C) : cd d A C := by
  refine ⟨fun c a b e => (h2.1 c a b e).trans (h1.1 c a b e), fun j a => (h2.2.1 j a).trans (h1.2.1 j a), h2.2.2.1.trans h1.2.2.1, fun x hx => ?_⟩
  obtain ⟨a1, a2, a3, a4, a5, a6, a7, a8, a9, a10⟩ := h1.2.2.2 x hx
  obtain ⟨b1, b2, b3, b4, b5, b6, b7, b8, b9, b10⟩ := h2.2.2.2 x hx
  exact ⟨b1.trans a1, b2.trans a2, b3.trans a3, b4.trans a4, b5.trans a5, b6.trans a6, b7.trans a7, b8.trans a8, fun i hi => (b9 i hi).trans (a9 i hi), fun i hi => (b10 i hi).trans (a10 i hi)⟩
theorem cd_row {d : Nat} {A B : a_M} (h : crow A B) : cd d A B := by
  refine ⟨fun c a b _ => h.1 c a b, h.2.1, h.2.2, fun x _ => ?_⟩
  rw [h.1 86 (by decide) (by decide), h.1 87 (by decide) (by decide), h.1 88 (by decide) (by decide), h.1 89 (by decide) (by decide), h.1 90 (by decide) (by decide), h.1 92 (by decide) (by decide), h.1 93 (by decide) (by decide), h.1 94 (by decide) (by decide), h.1 85 (by decide) (by decide), h.1 91 (by decide) (by decide)]
  exact ⟨rfl, rfl, rfl, rfl, rfl, rfl, rfl, rfl, fun _ _ => rfl, fun _ _ => rfl⟩
theorem cd_1 {d c : Nat} (B : a_M) (v : Int32) (hc : c = 86 ∨ c = 87 ∨ c = 88 ∨ c = 89 ∨ c = 90 ∨ c = 92 ∨ c = 93 ∨ c = 94) : cd d B (a_wi B c d v) := by
  refine ⟨fun e _ _ g => wi_n (by omega), fun j _ => by rw [wi_n (by omega)], rfl, fun x hx => ?_⟩
  have k : ∀ e, (a_wi B c d v).1 e x = B.1 e x := by
    intro e
    by_cases he : e = c
    · subst he; exact wi_s hx
    · rw [wi_n he]
  exact ⟨k _, k _, k _, k _, k _, k _, k _, k _, fun i _ => by rw [wi_n (by omega)], fun i _ => by rw [wi_n (by omega)]⟩
theorem cd_85 {d i : Nat} (B : a_M) (v : Int32) (hi : i < 5) : cd d B (a_wi B 85 (5 * d + i) v) := by
  refine ⟨fun e _ _ g => wi_n (by omega), fun j _ => by rw [wi_n (by omega)], rfl, fun x hx => ?_⟩
  exact ⟨by rw [wi_n (by decide)], by rw [wi_n (by decide)], by rw [wi_n (by decide)], by rw [wi_n (by decide)], by rw [wi_n (by decide)], by rw [wi_n (by decide)], by rw [wi_n (by decide)], by rw [wi_n (by decide)], fun j _ => wi_s (by omega), fun j _ => by rw [wi_n (by decide)]⟩
theorem cd_91 {d i : Nat} (B : a_M) (v : Int32) (hi : i < 4) : cd d B (a_wi B 91 (4 * d + i) v) := by
  refine ⟨fun e _ _ g => wi_n (by omega), fun j _ => by rw [wi_n (by omega)], rfl, fun x hx => ?_⟩
  exact ⟨by rw [wi_n (by decide)], by rw [wi_n (by decide)], by rw [wi_n (by decide)], by rw [wi_n (by decide)], by rw [wi_n (by decide)], by rw [wi_n (by decide)], by rw [wi_n (by decide)], by rw [wi_n (by decide)], fun j _ => by rw [wi_n (by decide)], fun j _ => wi_s (by omega)⟩
theorem recR_row {d : Nat} {f : Nat → Int32} {A B : a_M} (h : crow A B) (hr : recR d f A) : recR d f B := by
  unfold recR at hr ⊢
  simp (disch := decide) only [h.1]
  exact hr
theorem sgF_x (P : q_P) (s : Nat) (f : Nat → Int32) : ∀ n x, sgF P s f n x = if 13 ≤ x ∧ x < 13 + n then q_sg P (s + 1) (x - 13) else f x := by
  intro n
  induction n with
  | zero => intro x; rw [if_neg (by omega)]; rfl
  | succ n ih =>
    intro x
    show upd (sgF P s f n) (13 + n) (q_sg P (s + 1) n) x = _
    rw [up_x]
    by_cases h : x = 13 + n
    · rw [if_pos h, if_pos (by omega), h, Nat.add_sub_cancel_left]
    · rw [if_neg h, ih]
      by_cases h2 : 13 ≤ x ∧ x < 13 + n
      · rw [if_pos h2, if_pos (by omega)]
      · rw [if_neg h2, if_neg (by omega)]
