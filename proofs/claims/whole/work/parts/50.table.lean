/-! ===== the table of ways, as values ===== -/
/-- cost, mark of each word, what is taken here -/
abbrev Wy : Type := Nat × (Nat → Nat) × Int32
def far : Wy := (1000000, fun _ => 0, 0)
def enc (n k : Nat) (w : Wy) : Nat := if w.1 < 1000000 then w.1 * 8 ^ 14 + e_ms w.2.1 k (n - k) else 2 ^ 62
def off (n k : Nat) (a b : Wy) : Wy := if enc n k b < enc n k a then b else a
def gen (r : Wy) (c k L mark : Nat) (take : Int32) : Wy := if r.1 < 1000000 then (c + r.1, fun j => if j < k + L then mark else r.2.1 j, take) else far
def rowsW (n : Nat) (rc : Nat → Nat → Nat → Nat) (bk : Nat → Nat → Nat) (tab : Nat → Nat → Wy) (k p : Nat) (w : Wy) : Nat → Wy
  | 0 => w
  | L + 1 => if k + (L + 1) ≤ n ∧ rc p k (L + 1) < 1000000 then off n k (rowsW n rc bk tab k p w L) (gen (tab (k + (L + 1)) (p + 1)) (rc p k (L + 1) + bk k (L + 1)) k (L + 1) p (nI (L + 1))) else rowsW n rc bk tab k p w L
def left (n : Nat) (tab : Nat → Nat → Wy) (k p : Nat) : Wy := if k < n then gen (tab (k + 1) p) 4 k 1 5 (-1) else far
def abse (n : Nat) (mu : Nat → Prop) [DecidablePred mu] (tab : Nat → Nat → Wy) (k p : Nat) (w : Wy) : Wy := if mu p then w else off n k w (gen (tab k (p + 1)) 3 k 0 0 0)
def stepW (n sz : Nat) (mu : Nat → Prop) [DecidablePred mu] (rc : Nat → Nat → Nat → Nat) (bk : Nat → Nat → Nat) (tab : Nat → Nat → Wy) (k p : Nat) : Wy :=
  if k = n ∧ p = sz then (0, fun _ => 0, 0)
  else if p = sz then left n tab k p
  else rowsW n rc bk tab k p (abse n mu tab k p (left n tab k p)) 4
def tb (n sz : Nat) (mu : Nat → Prop) [DecidablePred mu] (rc : Nat → Nat → Nat → Nat) (bk : Nat → Nat → Nat) : Nat → Nat → Nat → Wy
  | 0, _, _ => far
  | f + 1, k, p => stepW n sz mu rc bk (tb n sz mu rc bk f) k p
def tab (n sz : Nat) (mu : Nat → Prop) [DecidablePred mu] (rc : Nat → Nat → Nat → Nat) (bk : Nat → Nat → Nat) (k p : Nat) : Wy := tb n sz mu rc bk ((n - k) + (sz - p) + 1) k p
theorem rowsW_c {n : Nat} {rc : Nat → Nat → Nat → Nat} {bk : Nat → Nat → Nat} {t t' : Nat → Nat → Wy} {k p : Nat} {w : Wy} (h : ∀ k', k < k' → k' ≤ n → t k' (p + 1) = t' k' (p + 1)) : ∀ L, rowsW n rc bk t k p w L = rowsW n rc bk t' k p w L := by
  intro L
  induction L with
  | zero => rfl
  | succ L ih =>
    unfold rowsW
    rw [ih]
    by_cases hq : k + (L + 1) ≤ n ∧ rc p k (L + 1) < 1000000
    · rw [if_pos hq, if_pos hq, h _ (by omega) hq.1]
    · rw [if_neg hq, if_neg hq]
theorem stepW_c {n sz : Nat} {mu : Nat → Prop} [DecidablePred mu] {rc : Nat → Nat → Nat → Nat} {bk : Nat → Nat → Nat} {t t' : Nat → Nat → Wy} {k p : Nat} (hp : p ≤ sz) (h : ∀ k' p', k ≤ k' → k' ≤ n → p ≤ p' → p' ≤ sz → ¬ (k' = k ∧ p' = p) → t k' p' = t' k' p') (hk : k ≤ n) : stepW n sz mu rc bk t k p = stepW n sz mu rc bk t' k p := by
  unfold stepW
  have e1 : left n t k p = left n t' k p := by
    unfold left
    by_cases hq : k < n
    · rw [if_pos hq, if_pos hq, h (k + 1) p (by omega) (by omega) (Nat.le_refl _) hp (by omega)]
    · rw [if_neg hq, if_neg hq]
  by_cases h1 : k = n ∧ p = sz
  · rw [if_pos h1, if_pos h1]
  · rw [if_neg h1, if_neg h1]
    by_cases h2 : p = sz
    · rw [if_pos h2, if_pos h2, e1]
    · rw [if_neg h2, if_neg h2, e1]
      have e2 : abse n mu t k p (left n t' k p) = abse n mu t' k p (left n t' k p) := by
        unfold abse
        by_cases hq : mu p
        · rw [if_pos hq, if_pos hq]
        · rw [if_neg hq, if_neg hq, h k (p + 1) (Nat.le_refl _) hk (by omega) (by omega) (by omega)]
      rw [e2]
      exact rowsW_c (fun k' a b => h k' (p + 1) (by omega) b (by omega) (by omega) (by omega)) 4
theorem tb_f (n sz : Nat) (mu : Nat → Prop) [DecidablePred mu] (rc : Nat → Nat → Nat → Nat) (bk : Nat → Nat → Nat) : ∀ f k p, k ≤ n → p ≤ sz → (n - k) + (sz - p) + 1 ≤ f → tb n sz mu rc bk f k p = tab n sz mu rc bk k p := by
  intro f
  induction f using Nat.strongRecOn with
  | _ f ih =>
    intro k p hk hp hf
    obtain ⟨g, rfl⟩ : ∃ g, f = g + 1 := ⟨f - 1, by omega⟩
    unfold tab
    show stepW n sz mu rc bk (tb n sz mu rc bk g) k p = stepW n sz mu rc bk (tb n sz mu rc bk ((n - k) + (sz - p))) k p
    refine stepW_c hp (fun k' p' h1 h2 h3 h4 h5 => ?_) hk
    rw [ih g (by omega) k' p' h2 h4 (by omega)]
    by_cases he : (n - k) + (sz - p) = g + 1
    · omega
    · rw [ih ((n - k) + (sz - p)) (by omega) k' p' h2 h4 (by omega)]
theorem tab_step (n sz : Nat) (mu : Nat → Prop) [DecidablePred mu] (rc : Nat → Nat → Nat → Nat) (bk : Nat → Nat → Nat) {k p : Nat} (hk : k ≤ n) (hp : p ≤ sz) : tab n sz mu rc bk k p = stepW n sz mu rc bk (tab n sz mu rc bk) k p := by
  show stepW n sz mu rc bk (tb n sz mu rc bk ((n - k) + (sz - p))) k p = _
  exact stepW_c hp (fun k' p' h1 h2 h3 h4 h5 => tb_f n sz mu rc bk _ k' p' h2 h4 (by omega)) hk
/-- how a way goes on -/
def chn (n sz : Nat) (rc : Nat → Nat → Nat → Nat) (t : Nat → Nat → Wy) (k p : Nat) (w : Wy) : Prop :=
  (k = n ∧ p = sz) ∨
  (w.2.2 = -1 ∧ k < n ∧ (t (k + 1) p).1 < 1000000 ∧ w.2.1 k = 5 ∧ ∀ j, k < j → j < n → w.2.1 j = (t (k + 1) p).2.1 j) ∨
  (w.2.2 = 0 ∧ p < sz ∧ (t k (p + 1)).1 < 1000000 ∧ ∀ j, k ≤ j → j < n → w.2.1 j = (t k (p + 1)).2.1 j) ∨
  ∃ L, 1 ≤ L ∧ L ≤ 4 ∧ k + L ≤ n ∧ p < sz ∧ w.2.2 = nI L ∧ rc p k L < 1000000 ∧ (t (k + L) (p + 1)).1 < 1000000 ∧ (∀ j, k ≤ j → j < k + L → w.2.1 j = p) ∧ ∀ j, k + L ≤ j → j < n → w.2.1 j = (t (k + L) (p + 1)).2.1 j
def okW (n sz : Nat) (rc : Nat → Nat → Nat → Nat) (t : Nat → Nat → Wy) (k p : Nat) (w : Wy) : Prop :=
  w.1 ≤ 1000000 ∧ (w.1 < 1000000 → w.1 ≤ 4 * (n - k) + 20 * (sz - p) ∧ (∀ j, k ≤ j → j < n → w.2.1 j ≤ 5) ∧ chn n sz rc t k p w)
theorem okW_far (n sz : Nat) (rc : Nat → Nat → Nat → Nat) (t : Nat → Nat → Wy) (k p : Nat) : okW n sz rc t k p far := ⟨Nat.le_refl _, fun h => absurd h (Nat.lt_irrefl _)⟩
theorem okW_off {n sz : Nat} {rc : Nat → Nat → Nat → Nat} {t : Nat → Nat → Wy} {k p : Nat} {a b : Wy} (ha : okW n sz rc t k p a) (hb : okW n sz rc t k p b) : okW n sz rc t k p (off n k a b) := by
  unfold off
  by_cases h : enc n k b < enc n k a
  · rw [if_pos h]; exact hb
  · rw [if_neg h]; exact ha
theorem okW_left {n sz : Nat} {rc : Nat → Nat → Nat → Nat} {t : Nat → Nat → Wy} {k p : Nat} (hn : n ≤ 14) (hsz : sz ≤ 5) (h : k < n → okW n sz rc t (k + 1) p (t (k + 1) p)) : okW n sz rc t k p (left n t k p) := by
  unfold left
  by_cases hk : k < n
  · rw [if_pos hk]
    obtain ⟨h1, h2⟩ := h hk
    unfold gen
    by_cases hr : (t (k + 1) p).1 < 1000000
    · rw [if_pos hr]
      obtain ⟨g1, g2, g3⟩ := h2 hr
      refine ⟨by show 4 + _ ≤ _; omega, fun _ => ⟨by show 4 + _ ≤ _; omega, fun j a b => ?_, Or.inr (Or.inl ⟨rfl, hk, hr, if_pos (by omega), fun j a b => if_neg (by omega)⟩)⟩⟩
      show (if j < k + 1 then 5 else _) ≤ 5
      by_cases hj : j < k + 1
      · rw [if_pos hj]; exact Nat.le_refl _
      · rw [if_neg hj]; exact g2 j (by omega) b
    · rw [if_neg hr]; exact okW_far _ _ _ _ _ _
  · rw [if_neg hk]; exact okW_far _ _ _ _ _ _
theorem okW_abse {n sz : Nat} {mu : Nat → Prop} [DecidablePred mu] {rc : Nat → Nat → Nat → Nat} {t : Nat → Nat → Wy} {k p : Nat} {w : Wy} (hn : n ≤ 14) (hsz : sz ≤ 5) (hp : p < sz) (hw : okW n sz rc t k p w) (h : okW n sz rc t k (p + 1) (t k (p + 1))) : okW n sz rc t k p (abse n mu t k p w) := by
  unfold abse
  by_cases hm : mu p
  · rw [if_pos hm]; exact hw
  · rw [if_neg hm]
    refine okW_off hw ?_
    obtain ⟨h1, h2⟩ := h
    unfold gen
    by_cases hr : (t k (p + 1)).1 < 1000000
    · rw [if_pos hr]
      obtain ⟨g1, g2, g3⟩ := h2 hr
      refine ⟨by show 3 + _ ≤ _; omega, fun _ => ⟨by show 3 + _ ≤ _; omega, fun j a b => ?_, Or.inr (Or.inr (Or.inl ⟨rfl, hp, hr, fun j a b => if_neg (by omega)⟩))⟩⟩
      show (if j < k + 0 then 0 else _) ≤ 5
      rw [if_neg (by omega)]; exact g2 j a b
    · rw [if_neg hr]; exact okW_far _ _ _ _ _ _
theorem okW_rows {n sz : Nat} {rc : Nat → Nat → Nat → Nat} {bk : Nat → Nat → Nat} {t : Nat → Nat → Wy} {k p : Nat} {w : Wy} (hn : n ≤ 14) (hsz : sz ≤ 5) (hp : p < sz) (hrc : ∀ p k L, 1 ≤ L → L ≤ 4 → rc p k L < 1000000 → rc p k L + bk k L ≤ 20) (hw : okW n sz rc t k p w) (h : ∀ k', k < k' → k' ≤ n → okW n sz rc t k' (p + 1) (t k' (p + 1))) : ∀ L, L ≤ 4 → okW n sz rc t k p (rowsW n rc bk t k p w L) := by
  intro L
  induction L with
  | zero => intro _; exact hw
  | succ L ih =>
    intro hL
    unfold rowsW
    by_cases hq : k + (L + 1) ≤ n ∧ rc p k (L + 1) < 1000000
    · rw [if_pos hq]
      refine okW_off (ih (by omega)) ?_
      obtain ⟨h1, h2⟩ := h (k + (L + 1)) (by omega) hq.1
      have hb := hrc p k (L + 1) (by omega) hL hq.2
      unfold gen
      by_cases hr : (t (k + (L + 1)) (p + 1)).1 < 1000000
      · rw [if_pos hr]
        obtain ⟨g1, g2, g3⟩ := h2 hr
        refine ⟨by show _ + _ ≤ _; omega, fun _ => ⟨by show _ + _ ≤ _; omega, fun j a b => ?_, Or.inr (Or.inr (Or.inr ⟨L + 1, by omega, hL, hq.1, hp, rfl, hq.2, hr, fun j a b => if_pos b, fun j a b => if_neg (by omega)⟩))⟩⟩
        show (if j < k + (L + 1) then p else _) ≤ 5
        by_cases hj : j < k + (L + 1)
        · rw [if_pos hj]; omega
        · rw [if_neg hj]; exact g2 j (by omega) b
      · rw [if_neg hr]; exact okW_far _ _ _ _ _ _
    · rw [if_neg hq]; exact ih (by omega)
theorem tab_ok {n sz : Nat} {mu : Nat → Prop} [DecidablePred mu] {rc : Nat → Nat → Nat → Nat} {bk : Nat → Nat → Nat} (hn : n ≤ 14) (hsz : sz ≤ 5) (hrc : ∀ p k L, 1 ≤ L → L ≤ 4 → rc p k L < 1000000 → rc p k L + bk k L ≤ 20) : ∀ e k p, k ≤ n → p ≤ sz → (n - k) + (sz - p) = e → okW n sz rc (tab n sz mu rc bk) k p (tab n sz mu rc bk k p) := by
  intro e
  induction e using Nat.strongRecOn with
  | _ e ih =>
    intro k p hk hp he
    have hl := okW_left (k := k) (p := p) (rc := rc) (t := tab n sz mu rc bk) hn hsz (fun hk => ih _ (by omega) (k + 1) p (by omega) hp rfl)
    rw [tab_step n sz mu rc bk hk hp]
    unfold stepW
    by_cases h1 : k = n ∧ p = sz
    · rw [if_pos h1]
      exact ⟨Nat.zero_le _, fun _ => ⟨Nat.zero_le _, fun _ _ _ => Nat.zero_le _, Or.inl h1⟩⟩
    · rw [if_neg h1]
      by_cases h2 : p = sz
      · rw [if_pos h2]; exact hl
      · rw [if_neg h2]
        exact okW_rows hn hsz (by omega) hrc (okW_abse hn hsz (by omega) hl (ih _ (by omega) k (p + 1) hk (by omega) rfl)) (fun k' a b => ih _ (by omega) k' (p + 1) b (by omega) rfl) 4 (Nat.le_refl _)
