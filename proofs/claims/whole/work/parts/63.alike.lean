/-! ===== the reference's deliveries alike ===== -/
theorem usz_m {N Z TT : Nat} {sz : Nat → Int32} {f : Nat → Int32} (hf : recF N Z TT sz f) : ∃ m, m ≤ 4 ∧ ∀ i, i < 2 ^ 31 → (nI i < f 9 ↔ i < m) := by
  rcases hf.2.2.1 with ⟨-, -, v, v1, v2, v3⟩ | ⟨-, -, v3⟩
  · exact ⟨v, v2, fun i hi => by rw [v3]; exact nI_ltI hi (by omega)⟩
  · refine ⟨0, Nat.zero_le _, fun i hi => ?_⟩
    rw [v3]
    exact ⟨fun q => absurd (Int32.lt_trans q (by decide)) (nI_pos hi), fun q => absurd q (Nat.not_lt_zero _)⟩
theorem sg_eq {f g a b : Nat → Int32} {m : Nat} (hm : m ≤ 4) (h : ∀ i, i < 2 ^ 31 → (nI i < f 9 ↔ i < m)) (e9 : f 9 = g 9) (hf : ∀ i, i < 4 → f (13 + i) = if nI i < f 9 then a i else -1) (hg : ∀ i, i < 4 → g (13 + i) = if nI i < g 9 then b i else -1) : (∀ i, i < 4 → f (13 + i) = g (13 + i)) ↔ ∀ i, i < m → a i = b i := by
  constructor
  · intro q i hi
    have := q i (by omega)
    rw [hf i (by omega), hg i (by omega), ← e9, if_pos ((h i (by omega)).mpr hi), if_pos ((h i (by omega)).mpr hi)] at this
    exact this
  · intro q i hi
    rw [hf i hi, hg i hi, ← e9]
    by_cases hl : nI i < f 9
    · rw [if_pos hl, if_pos hl]; exact q i ((h i (by omega)).mp hl)
    · rw [if_neg hl, if_neg hl]
theorem X12_isAlike {N Z TT a b : Nat} {sz : Nat → Int32} {f g : Nat → Int32} {T : a_M} (ha : a < 40) (hb : b < 40) (hf : recR a f T) (hg : recR b g T) (r1 : recF N Z TT sz f) :
    (eqF f g ∧ x_X12_isAlike [.ref 56, .int (nI a), .int (nI b)] T = some (some (.int 1), T)) ∨ (¬ eqF f g ∧ x_X12_isAlike [.ref 56, .int (nI a), .int (nI b)] T = some (some (.int 0), T)) := by
  obtain ⟨m, m1, m2⟩ := usz_m r1
  obtain ⟨-, f5, f6, f7, f8, f9, f10, f11, f13⟩ := hf
  obtain ⟨-, g5, g6, g7, g8, g9, g10, g11, g13⟩ := hg
  have na : ¬ (nI a < 0 ∨ 40 ≤ (nI a).toNatClampNeg) := nI_out (by omega) (by decide)
  have nb : ¬ (nI b < 0 ∨ 40 ≤ (nI b).toNatClampNeg) := nI_out (by omega) (by decide)
  have ca : (nI a).toNatClampNeg = a := nI_clamp (by omega)
  have cb : (nI b).toNatClampNeg = b := nI_clamp (by omega)
  have na2 : ¬ (nI a < 0 ∨ 40 ≤ a) := nI_out2 ha (by omega)
  have nb2 : ¬ (nI b < 0 ∨ 40 ≤ b) := nI_out2 hb (by omega)
  have zero : ∀ i, i < 2 ^ 31 → g_X12_isAlike 114 [.ref 56, .int (nI a), .int (nI b), .int 0, .int (nI i)] [] T = some (some (.int 0), T) := by
    intro i hi
    rw [b_X12_isAlike_114, if_neg na]
    split
    · rw [if_pos rfl, if_pos (Or.inl rfl)]; rfl
    · rw [if_pos (Or.inl rfl)]; rfl
  have zero' : g_X12_isAlike 109 [.ref 56, .int (nI a), .int (nI b), .null, .null] [] T = some (some (.int 0), T) := by
    rw [b_X12_isAlike_109]
    have := zero 0 (by decide)
    rw [nI_0] at this
    exact this
  have st : ∀ i, i < m → g_X12_isAlike 114 [.ref 56, .int (nI a), .int (nI b), .int 1, .int (nI i)] [] T = if ¬ T.1 91 (4 * a + i) = T.1 91 (4 * b + i) then some (some (.int 0), T) else g_X12_isAlike 114 [.ref 56, .int (nI a), .int (nI b), .int 1, .int (nI (i + 1))] [] T := by
    intro i hi
    have e1 : (4 : Int32) * nI a + nI i = nI (4 * a + i) := by rw [show (4 : Int32) = nI 4 from rfl, pk_mul, nI_add]
    have e2 : (4 : Int32) * nI b + nI i = nI (4 * b + i) := by rw [show (4 : Int32) = nI 4 from rfl, pk_mul, nI_add]
    rw [b_X12_isAlike_114, if_neg na, ca, f9, if_pos ((m2 i (by omega)).mpr hi), if_neg (by decide), e1, e2, if_neg (nI_out (by omega) (by decide)), if_neg (nI_out (by omega) (by decide)), nI_clamp (show 4 * a + i < 2 ^ 31 by omega), nI_clamp (show 4 * b + i < 2 ^ 31 by omega), nI_1]
    by_cases h : T.1 91 (4 * a + i) = T.1 91 (4 * b + i)
    · rw [if_pos h, if_neg (not_not_intro h)]
    · rw [if_neg h, if_pos h, zero (i + 1) (by omega)]
  have fin : g_X12_isAlike 114 [.ref 56, .int (nI a), .int (nI b), .int 1, .int (nI m)] [] T = some (some (.int 1), T) := by
    rw [b_X12_isAlike_114, if_neg na, ca, f9, if_neg (fun q => Nat.lt_irrefl _ ((m2 m (by omega)).mp q)), if_pos (Or.inr rfl)]; rfl
  have key := lp_find (fun i => g_X12_isAlike 114 [.ref 56, .int (nI a), .int (nI b), .int 1, .int (nI i)] [] T) m (fun i => ¬ T.1 91 (4 * a + i) = T.1 91 (4 * b + i)) (some (some (.int 0), T)) (fun i hi hq => by rw [st i hi, if_pos hq]) (fun i hi hq => by rw [st i hi, if_neg hq])
  rw [nI_0] at key
  rw [e_X12_isAlike, ca, cb, if_neg na2, if_neg nb2, if_neg na2, if_neg nb2, if_neg na2, if_neg nb2, if_neg na2, if_neg nb2, if_neg na2, if_neg nb2, if_neg na2, if_neg nb2, if_neg na2, if_neg nb2, f5, f6, f7, f8, f9, f10, f11, g5, g6, g7, g8, g9, g10, g11, zero']
  by_cases e5 : f 5 = g 5
  · rw [if_pos e5]
    by_cases e6 : f 6 = g 6
    · rw [if_pos e6]
      by_cases e7 : f 7 = g 7
      · rw [if_pos e7]
        by_cases e8 : f 8 = g 8
        · rw [if_pos e8]
          by_cases e9 : f 9 = g 9
          · rw [if_pos e9]
            by_cases e10 : f 10 = g 10
            · rw [if_pos e10]
              by_cases e11 : f 11 = g 11
              · rw [if_pos e11]
                have hs := sg_eq m1 m2 e9 f13 g13
                rcases key with ⟨⟨i, k1, k2⟩, k3⟩ | ⟨k1, k2⟩
                · exact Or.inr ⟨fun q => k2 (hs.mp q.2.2.2.2.2.2.2 i k1), k3⟩
                · exact Or.inl ⟨⟨e5, e6, e7, e8, e9, e10, e11, hs.mpr (fun i hi => Decidable.not_not.mp (k1 i hi))⟩, by rw [k2, fin]⟩
              · rw [if_neg e11]; exact Or.inr ⟨fun q => e11 q.2.2.2.2.2.2.1, rfl⟩
            · rw [if_neg e10]; exact Or.inr ⟨fun q => e10 q.2.2.2.2.2.1, rfl⟩
          · rw [if_neg e9]; exact Or.inr ⟨fun q => e9 q.2.2.2.2.1, rfl⟩
        · rw [if_neg e8]; exact Or.inr ⟨fun q => e8 q.2.2.2.1, rfl⟩
      · rw [if_neg e7]; exact Or.inr ⟨fun q => e7 q.2.2.1, rfl⟩
    · rw [if_neg e6]; exact Or.inr ⟨fun q => e6 q.2.1, rfl⟩
  · rw [if_neg e5]; exact Or.inr ⟨fun q => e5 q.1, rfl⟩
/-- the newest as it is kept aside -/
def recN (g : Nat → Int32) (T : a_M) : Prop := T.1 101 0 = g 5 ∧ T.1 101 1 = g 6 ∧ T.1 101 2 = g 7 ∧ T.1 101 3 = g 8 ∧ T.1 101 4 = g 9 ∧ T.1 101 5 = g 10 ∧ T.1 101 6 = g 11 ∧ ∀ i, i < 4 → g (13 + i) = if nI i < g 9 then T.1 99 i else -1
theorem X12_isAlikeNewest {N Z TT a : Nat} {sz : Nat → Int32} {f g : Nat → Int32} {T : a_M} (ha : a < 40) (hf : recR a f T) (hg : recN g T) (r1 : recF N Z TT sz f) :
    (eqF f g ∧ x_X12_isAlikeNewest [.ref 56, .int (nI a)] T = some (some (.int 1), T)) ∨ (¬ eqF f g ∧ x_X12_isAlikeNewest [.ref 56, .int (nI a)] T = some (some (.int 0), T)) := by
  obtain ⟨m, m1, m2⟩ := usz_m r1
  obtain ⟨-, f5, f6, f7, f8, f9, f10, f11, f13⟩ := hf
  obtain ⟨g5, g6, g7, g8, g9, g10, g11, g13⟩ := hg
  have na : ¬ (nI a < 0 ∨ 40 ≤ (nI a).toNatClampNeg) := nI_out (by omega) (by decide)
  have ca : (nI a).toNatClampNeg = a := nI_clamp (by omega)
  have na2 : ¬ (nI a < 0 ∨ 40 ≤ a) := nI_out2 ha (by omega)
  have zero : ∀ i, i < 2 ^ 31 → g_X12_isAlikeNewest 114 [.ref 56, .int (nI a), .int 0, .int (nI i)] [] T = some (some (.int 0), T) := by
    intro i hi
    rw [b_X12_isAlikeNewest_114, if_neg na]
    split
    · rw [if_pos rfl, if_pos (Or.inl rfl)]; rfl
    · rw [if_pos (Or.inl rfl)]; rfl
  have zero' : g_X12_isAlikeNewest 110 [.ref 56, .int (nI a), .null, .null] [] T = some (some (.int 0), T) := by
    rw [b_X12_isAlikeNewest_110]
    have := zero 0 (by decide)
    rw [nI_0] at this
    exact this
  have st : ∀ i, i < m → g_X12_isAlikeNewest 114 [.ref 56, .int (nI a), .int 1, .int (nI i)] [] T = if ¬ T.1 91 (4 * a + i) = T.1 99 i then some (some (.int 0), T) else g_X12_isAlikeNewest 114 [.ref 56, .int (nI a), .int 1, .int (nI (i + 1))] [] T := by
    intro i hi
    have e1 : (4 : Int32) * nI a + nI i = nI (4 * a + i) := by rw [show (4 : Int32) = nI 4 from rfl, pk_mul, nI_add]
    rw [b_X12_isAlikeNewest_114, if_neg na, ca, f9, if_pos ((m2 i (by omega)).mpr hi), if_neg (by decide), e1, if_neg (nI_out (by omega) (by decide)), if_neg (nI_out (by omega) (by decide)), nI_clamp (show 4 * a + i < 2 ^ 31 by omega), nI_clamp (show i < 2 ^ 31 by omega), nI_1]
    by_cases h : T.1 91 (4 * a + i) = T.1 99 i
    · rw [if_pos h, if_neg (not_not_intro h)]
    · rw [if_neg h, if_pos h, zero (i + 1) (by omega)]
  have fin : g_X12_isAlikeNewest 114 [.ref 56, .int (nI a), .int 1, .int (nI m)] [] T = some (some (.int 1), T) := by
    rw [b_X12_isAlikeNewest_114, if_neg na, ca, f9, if_neg (fun q => Nat.lt_irrefl _ ((m2 m (by omega)).mp q)), if_pos (Or.inr rfl)]; rfl
  have key := lp_find (fun i => g_X12_isAlikeNewest 114 [.ref 56, .int (nI a), .int 1, .int (nI i)] [] T) m (fun i => ¬ T.1 91 (4 * a + i) = T.1 99 i) (some (some (.int 0), T)) (fun i hi hq => by rw [st i hi, if_pos hq]) (fun i hi hq => by rw [st i hi, if_neg hq])
  rw [nI_0] at key
  rw [e_X12_isAlikeNewest, ca, if_neg na2, if_neg na2, if_neg na2, if_neg na2, if_neg na2, if_neg na2, if_neg na2, f5, f6, f7, f8, f9, f10, f11, g5, g6, g7, g8, g9, g10, g11, zero']
  by_cases e5 : f 5 = g 5
  · rw [if_pos e5]
    by_cases e6 : f 6 = g 6
    · rw [if_pos e6]
      by_cases e7 : f 7 = g 7
      · rw [if_pos e7]
        by_cases e8 : f 8 = g 8
        · rw [if_pos e8]
          by_cases e9 : f 9 = g 9
          · rw [if_pos e9]
            by_cases e10 : f 10 = g 10
            · rw [if_pos e10]
              by_cases e11 : f 11 = g 11
              · rw [if_pos e11]
                have hs := sg_eq m1 m2 e9 f13 g13
                rcases key with ⟨⟨i, k1, k2⟩, k3⟩ | ⟨k1, k2⟩
                · exact Or.inr ⟨fun q => k2 (hs.mp q.2.2.2.2.2.2.2 i k1), k3⟩
                · exact Or.inl ⟨⟨e5, e6, e7, e8, e9, e10, e11, hs.mpr (fun i hi => Decidable.not_not.mp (k1 i hi))⟩, by rw [k2, fin]⟩
              · rw [if_neg e11]; exact Or.inr ⟨fun q => e11 q.2.2.2.2.2.2.1, rfl⟩
            · rw [if_neg e10]; exact Or.inr ⟨fun q => e10 q.2.2.2.2.2.1, rfl⟩
          · rw [if_neg e9]; exact Or.inr ⟨fun q => e9 q.2.2.2.2.1, rfl⟩
        · rw [if_neg e8]; exact Or.inr ⟨fun q => e8 q.2.2.2.1, rfl⟩
      · rw [if_neg e7]; exact Or.inr ⟨fun q => e7 q.2.2.1, rfl⟩
    · rw [if_neg e6]; exact Or.inr ⟨fun q => e6 q.2.1, rfl⟩
  · rw [if_neg e5]; exact Or.inr ⟨fun q => e5 q.1, rfl⟩
