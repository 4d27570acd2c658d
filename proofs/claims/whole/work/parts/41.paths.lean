/-! ===== ways through a name, their least cost ===== -/
abbrev sho (S : a_M) (h : Nat) : Nat := cl (S.1 17 h)
abbrev lon (S : a_M) (h : Nat) : Nat := cl (S.1 18 h)
/-- short h is word t and stands for name a's words from d on -/
abbrev sedge (P : q_P) (S : a_M) (a t d h : Nat) : Prop := wlike P S t (b_id S (sho S h) 0) ∧ rch S (lon S h) a d
/-- a step through name a: word t takes the name from d to d' at cost c -/
def Ed (P : q_P) (S : a_M) (H a t d d' c : Nat) : Prop := d < b_sz S a ∧ ((d' = d + 1 ∧ c = wcost P S t (b_id S a d) ∧ c < 1000000) ∨ ∃ h, h < H ∧ sedge P S a t d h ∧ d' = d + b_sz S (lon S h) ∧ c = 1)
def Pth (P : q_P) (S : a_M) (H a : Nat) : Nat → Nat → Nat → Nat → Nat → Prop
  | 0, _, d, d', c => d' = d ∧ c = 0
  | k + 1, t, d, d', c => ∃ d1 c1 c2, Ed P S H a t d d1 c1 ∧ Pth P S H a k (t + 1) d1 d' c2 ∧ c = c1 + c2
theorem wcost_3 (P : q_P) (S : a_M) (k w : Nat) (h : wcost P S k w < 1000000) : wcost P S k w ≤ 3 := by
  unfold wcost at h ⊢
  split
  · omega
  · rename_i h1
    rw [if_neg h1] at h
    split
    · omega
    · rename_i h2
      rw [if_neg h2] at h
      omega
theorem Ed_b {P : q_P} {S : a_M} {N W H a t d d' c : Nat} (hB : i_B N W S) (hH : i_H N H S) (h : Ed P S H a t d d' c) : c ≤ 3 ∧ d < d' ∧ d' ≤ b_sz S a := by
  obtain ⟨h0, h⟩ := h
  rcases h with ⟨h1, h2, h3⟩ | ⟨k, h1, h2, h3, h4⟩
  · have := wcost_3 P S t (b_id S a d) (by omega)
    omega
  · obtain ⟨-, -, -, -, -, h6⟩ := hH
    obtain ⟨-, -, s3, -, -⟩ := h6 k h1
    have hz := (hB.2.2.2.2.2.2.1 _ s3).1
    have hr := h2.2.1
    have hz' : 1 ≤ b_sz S (lon S k) := hz
    omega
theorem Pth_b {P : q_P} {S : a_M} {N W H a : Nat} (hB : i_B N W S) (hH : i_H N H S) : ∀ k t d d' c, Pth P S H a k t d d' c → c ≤ 3 * k ∧ d + k ≤ d' := by
  intro k
  induction k with
  | zero => rintro t d d' c ⟨h1, h2⟩; omega
  | succ k ih =>
    rintro t d d' c ⟨d1, c1, c2, h1, h2, h3⟩
    have := Ed_b hB hH h1
    have := ih _ _ _ _ h2
    omega
theorem Pth_snoc {P : q_P} {S : a_M} {H a : Nat} : ∀ k t d d1 d' c1 c2, Pth P S H a k t d d1 c1 → Ed P S H a (t + k) d1 d' c2 → Pth P S H a (k + 1) t d d' (c1 + c2) := by
  intro k
  induction k with
  | zero =>
    rintro t d d1 d' c1 c2 ⟨h1, h2⟩ h3
    subst h1; subst h2
    exact ⟨d', c2, 0, h3, ⟨rfl, rfl⟩, by omega⟩
  | succ k ih =>
    rintro t d d1 d' c1 c2 ⟨e1, f1, f2, g1, g2, g3⟩ h3
    have := ih (t + 1) e1 d1 d' f2 c2 g2 (by rw [show t + 1 + k = t + (k + 1) by omega]; exact h3)
    exact ⟨e1, f1, f2 + c2, g1, this, by omega⟩
theorem Pth_last {P : q_P} {S : a_M} {H a : Nat} : ∀ k t d d' c, Pth P S H a (k + 1) t d d' c → ∃ d1 c1 c2, Pth P S H a k t d d1 c1 ∧ Ed P S H a (t + k) d1 d' c2 ∧ c = c1 + c2 := by
  intro k
  induction k with
  | zero =>
    rintro t d d' c ⟨d1, c1, c2, h1, ⟨h2, h3⟩, h4⟩
    subst h2; subst h3
    exact ⟨d, 0, c1, ⟨rfl, rfl⟩, h1, by omega⟩
  | succ k ih =>
    rintro t d d' c ⟨d1, c1, c2, h1, h2, h4⟩
    obtain ⟨e1, f1, f2, g1, g2, g3⟩ := ih _ _ _ _ h2
    refine ⟨e1, c1 + f1, f2, ⟨d1, c1, f1, h1, g1, rfl⟩, ?_, by omega⟩
    rw [show t + (k + 1) = t + 1 + k by omega]; exact g2
/-- the least of b and of those v that are asked for -/
def shl (q : Nat → Bool) (v : Nat → Nat) (b : Nat) : Nat → Nat
  | 0 => b
  | h + 1 => if q h = true then min (shl q v b h) (v h) else shl q v b h
theorem shl_le (q : Nat → Bool) (v : Nat → Nat) (b : Nat) : ∀ H, shl q v b H ≤ b ∧ ∀ h, h < H → q h = true → shl q v b H ≤ v h := by
  intro H
  induction H with
  | zero => exact ⟨Nat.le_refl _, fun h hh => absurd hh (Nat.not_lt_zero _)⟩
  | succ H ih =>
    unfold shl
    by_cases e : q H = true
    · rw [if_pos e]
      refine ⟨by omega, fun h h1 h2 => ?_⟩
      by_cases e2 : h = H
      · rw [e2]; omega
      · have := ih.2 h (by omega) h2; omega
    · rw [if_neg e]
      refine ⟨ih.1, fun h h1 h2 => ?_⟩
      by_cases e2 : h = H
      · rw [e2] at h2; exact absurd h2 e
      · exact ih.2 h (by omega) h2
theorem shl_is (q : Nat → Bool) (v : Nat → Nat) (b : Nat) : ∀ H, shl q v b H = b ∨ ∃ h, h < H ∧ q h = true ∧ shl q v b H = v h := by
  intro H
  induction H with
  | zero => exact Or.inl rfl
  | succ H ih =>
    unfold shl
    by_cases e : q H = true
    · rw [if_pos e]
      rcases Nat.le_total (shl q v b H) (v H) with h | h
      · rw [Nat.min_eq_left h]
        rcases ih with h1 | ⟨k, h1, h2, h3⟩
        · exact Or.inl h1
        · exact Or.inr ⟨k, by omega, h2, h3⟩
      · rw [Nat.min_eq_right h]
        exact Or.inr ⟨H, by omega, e, rfl⟩
    · rw [if_neg e]
      rcases ih with h1 | ⟨k, h1, h2, h3⟩
      · exact Or.inl h1
      · exact Or.inr ⟨k, by omega, h2, h3⟩
/-- the least cost of L words from t on as name a from its word d on -/
def nc (P : q_P) (S : a_M) (H a : Nat) : Nat → Nat → Nat → Nat
  | 0, _, d => if d = b_sz S a then 0 else 1000000
  | L + 1, t, d => if d < b_sz S a then
      shl (fun h => decide (sedge P S a t d h)) (fun h => nc P S H a L (t + 1) (d + b_sz S (lon S h)) + 1)
        (if wcost P S t (b_id S a d) < 1000000 then min (nc P S H a L (t + 1) (d + 1) + wcost P S t (b_id S a d)) 1000000 else 1000000) H
    else 1000000
theorem nc_far (P : q_P) (S : a_M) (H a : Nat) : ∀ L t d, nc P S H a L t d ≤ 1000000 := by
  intro L
  cases L with
  | zero => intro t d; unfold nc; split <;> omega
  | succ L =>
    intro t d
    unfold nc
    split
    · refine Nat.le_trans (shl_le _ _ _ _).1 ?_
      split <;> omega
    · omega
theorem nc_sound (P : q_P) (S : a_M) (H a : Nat) : ∀ L t d, nc P S H a L t d < 1000000 → Pth P S H a L t d (b_sz S a) (nc P S H a L t d) := by
  intro L
  induction L with
  | zero =>
    intro t d h
    unfold nc at h ⊢
    by_cases e : d = b_sz S a
    · rw [if_pos e]; exact ⟨e.symm, rfl⟩
    · rw [if_neg e] at h; omega
  | succ L ih =>
    intro t d h
    have hu : nc P S H a (L + 1) t d = if d < b_sz S a then shl (fun h => decide (sedge P S a t d h)) (fun h => nc P S H a L (t + 1) (d + b_sz S (lon S h)) + 1) (if wcost P S t (b_id S a d) < 1000000 then min (nc P S H a L (t + 1) (d + 1) + wcost P S t (b_id S a d)) 1000000 else 1000000) H else 1000000 := rfl
    by_cases e : d < b_sz S a
    · rw [if_pos e] at hu
      rcases shl_is (fun h => decide (sedge P S a t d h)) (fun h => nc P S H a L (t + 1) (d + b_sz S (lon S h)) + 1) (if wcost P S t (b_id S a d) < 1000000 then min (nc P S H a L (t + 1) (d + 1) + wcost P S t (b_id S a d)) 1000000 else 1000000) H with h1 | ⟨k, k1, k2, k3⟩
      · rw [h1] at hu
        by_cases e2 : wcost P S t (b_id S a d) < 1000000
        · rw [if_pos e2] at hu
          have hm : nc P S H a (L + 1) t d = nc P S H a L (t + 1) (d + 1) + wcost P S t (b_id S a d) := by omega
          rw [hm]
          exact ⟨d + 1, wcost P S t (b_id S a d), nc P S H a L (t + 1) (d + 1), ⟨e, Or.inl ⟨rfl, rfl, e2⟩⟩, ih _ _ (by omega), by omega⟩
        · rw [if_neg e2] at hu; omega
      · rw [k3] at hu
        rw [hu] at h ⊢
        exact ⟨d + b_sz S (lon S k), 1, nc P S H a L (t + 1) (d + b_sz S (lon S k)), ⟨e, Or.inr ⟨k, k1, of_decide_eq_true k2, rfl, rfl⟩⟩, ih _ _ (by omega), by omega⟩
    · rw [if_neg e] at hu; omega
theorem nc_le (P : q_P) (S : a_M) (H a : Nat) : ∀ L t d c, Pth P S H a L t d (b_sz S a) c → nc P S H a L t d ≤ c := by
  intro L
  induction L with
  | zero =>
    rintro t d c ⟨h1, h2⟩
    unfold nc
    rw [if_pos h1.symm, h2]
    exact Nat.le_refl _
  | succ L ih =>
    rintro t d c ⟨d1, c1, c2, ⟨e0, e⟩, h2, h3⟩
    have i1 := ih _ _ _ h2
    unfold nc
    rw [if_pos e0]
    have hs := shl_le (fun h => decide (sedge P S a t d h)) (fun h => nc P S H a L (t + 1) (d + b_sz S (lon S h)) + 1) (if wcost P S t (b_id S a d) < 1000000 then min (nc P S H a L (t + 1) (d + 1) + wcost P S t (b_id S a d)) 1000000 else 1000000) H
    rcases e with ⟨e1, e2, e3⟩ | ⟨k, k1, k2, k3, k4⟩
    · rw [e1] at i1
      refine Nat.le_trans hs.1 ?_
      rw [if_pos (by omega)]
      omega
    · rw [k3] at i1
      refine Nat.le_trans (hs.2 k k1 (decide_eq_true k2)) ?_
      omega
theorem wcost_c {P : q_P} {S T : a_M} (e : ∀ c, 13 ≤ c → c ≤ 18 → T.1 c = S.1 c) (k w : Nat) : wcost P T k w = wcost P S k w := by
  unfold wcost wlike
  rw [e 13 (by decide) (by decide), e 14 (by decide) (by decide)]
theorem nc_c {P : q_P} {S T : a_M} (e : ∀ c, 13 ≤ c → c ≤ 18 → T.1 c = S.1 c) (H a : Nat) : ∀ L t d, nc P T H a L t d = nc P S H a L t d := by
  intro L
  induction L with
  | zero =>
    intro t d
    unfold nc b_sz
    rw [e 16 (by decide) (by decide)]
  | succ L ih =>
    intro t d
    show (if d < b_sz T a then shl (fun h => decide (sedge P T a t d h)) (fun h => nc P T H a L (t + 1) (d + b_sz T (lon T h)) + 1) (if wcost P T t (b_id T a d) < 1000000 then min (nc P T H a L (t + 1) (d + 1) + wcost P T t (b_id T a d)) 1000000 else 1000000) H else 1000000) = (if d < b_sz S a then shl (fun h => decide (sedge P S a t d h)) (fun h => nc P S H a L (t + 1) (d + b_sz S (lon S h)) + 1) (if wcost P S t (b_id S a d) < 1000000 then min (nc P S H a L (t + 1) (d + 1) + wcost P S t (b_id S a d)) 1000000 else 1000000) H else 1000000)
    have e15 := e 15 (by decide) (by decide)
    have e16 := e 16 (by decide) (by decide)
    have e17 := e 17 (by decide) (by decide)
    have e18 := e 18 (by decide) (by decide)
    have e13 := e 13 (by decide) (by decide)
    have e14 := e 14 (by decide) (by decide)
    have h1 : ∀ h, decide (sedge P T a t d h) = decide (sedge P S a t d h) := by
      intro h
      unfold sedge wlike rch b_id b_sz sho lon
      simp only [e13, e14, e15, e16, e17, e18]
    have h2 : ∀ k, b_sz T k = b_sz S k := fun k => by unfold b_sz; rw [e16]
    have h3 : ∀ k, lon T k = lon S k := fun k => by unfold lon; rw [e18]
    have h4 : b_id T a d = b_id S a d := by unfold b_id; rw [e15]
    simp only [h1, h2, h3, h4, ih, wcost_c e]
