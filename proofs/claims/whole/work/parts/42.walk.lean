/-! ===== the class's walk through a name ===== -/
/-- T is B but for the walk's cells, which hold v -/
def wK (B : a_M) (v : Nat → Nat → Nat) (T : a_M) : Prop := (∀ c, c ≠ 44 → T.1 c = B.1 c) ∧ T.2 = B.2 ∧ ∀ i d, i ≤ 4 → d ≤ 4 → v i d ≤ 1000000 ∧ T.1 44 (i * 5 + d) = nI (v i d)
def vlow (v : Nat → Nat → Nat) (i d c : Nat) : Nat → Nat → Nat := fun x y => if x = i ∧ y = d then min (v i d) c else v x y
theorem X2_lower {B T : a_M} {v : Nat → Nat → Nat} {i d c : Nat} (h : wK B v T) (hi : i ≤ 4) (hd : d ≤ 4) (hc : c ≤ 2000000) : ∃ T', x_X2_lower [.ref 41, .int (nI i), .int (nI d), .int (nI c)] T = some (none, T') ∧ wK B (vlow v i d c) T' := by
  obtain ⟨h1, h2, h3⟩ := h
  obtain ⟨k1, k2⟩ := h3 i d hi hd
  rw [e_X2_lower, show nI i * 5 + nI d = nI (i * 5 + d) by rw [show (5 : Int32) = nI 5 from rfl, pk_mul, nI_add], at_44, av_nI (by omega) (by decide), k2]
  simp only [Option.bind_some, Option.toList_some, List.cons_append, List.nil_append, b_X2_lower_17]
  by_cases e : c < v i d
  · rw [if_pos (nI_lt e (by omega)), put_44, pv_nI (by omega) (by decide)]
    simp only [Option.bind_some, Option.toList_none, List.append_nil, b_X2_lower_30]
    refine ⟨_, rfl, fun a ha => (wi_n ha).trans (h1 a ha), h2, fun x y hx hy => ?_⟩
    unfold vlow
    rw [wi_at, if_pos rfl]
    by_cases e2 : x = i ∧ y = d
    · rw [if_pos e2, if_pos (by omega), Nat.min_eq_right (by omega)]
      exact ⟨by omega, rfl⟩
    · rw [if_neg e2, if_neg (by omega)]
      exact h3 x y hx hy
  · rw [if_neg (nI_nlt (by omega) (by omega))]
    refine ⟨T, rfl, h1, h2, fun x y hx hy => ?_⟩
    unfold vlow
    by_cases e2 : x = i ∧ y = d
    · rw [if_pos e2, Nat.min_eq_left (by omega), e2.1, e2.2]
      exact ⟨k1, k2⟩
    · rw [if_neg e2]
      exact h3 x y hx hy
/-- what a step at (i, d), text word k, does to the costs; shorts below hc have been looked at -/
def wR (P : q_P) (B : a_M) (H a k i d hc : Nat) (v v' : Nat → Nat → Nat) : Prop :=
  (∀ x y, x ≠ i + 1 → v' x y = v x y) ∧ (∀ y, v' (i + 1) y ≤ v (i + 1) y) ∧ (wcost P B k (b_id B a d) < 1000000 → v' (i + 1) (d + 1) ≤ v i d + wcost P B k (b_id B a d)) ∧
  (∀ h, h < hc → sedge P B a k d h → v' (i + 1) (d + b_sz B (lon B h)) ≤ v i d + 1) ∧ ∀ y, v' (i + 1) y = v (i + 1) y ∨ ∃ c, Ed P B H a k d y c ∧ v' (i + 1) y = v i d + c
theorem wK_B {N W : Nat} {B T : a_M} (e : ∀ c, c ≠ 44 → T.1 c = B.1 c) (hB : i_B N W B) : i_B N W T := by
  unfold i_B at hB ⊢
  simp (disch := decide) only [e]
  exact hB
theorem wK_H {N H : Nat} {B T : a_M} (e : ∀ c, c ≠ 44 → T.1 c = B.1 c) (hH : i_H N H B) : i_H N H T := by
  unfold i_H at hH ⊢
  simp (disch := decide) only [e]
  exact hH
theorem X2_step {P : q_P} {B T : a_M} {N W H a k i d : Nat} {v : Nat → Nat → Nat} (hn : P.1 ≤ 14) (hB : i_B N W B) (hH : i_H N H B) (hf : fit P B W B) (ha : a < N) (hk : k < P.1) (hi : i ≤ 3) (hd : d < b_sz B a) (hv : v i d ≤ 1000) (hT : wK B v T) :
    ∃ T' v', x_X2_step [.ref 41, .int (nI a), .int (nI k), .int (nI i), .int (nI d)] T = some (none, T') ∧ wK B v' T' ∧ wR P B H a k i d H v v' := by
  have hN := hB.1
  have hW := hB.2.1
  have hH30 := hH.1
  obtain ⟨y1, y2, y3⟩ := hB.2.2.2.2.2.2.1 a ha
  have y2' : b_sz B a ≤ 4 := y2
  obtain ⟨p1, p2, p3, p4⟩ := hB.2.2.2.2.2.2.2.1 a d ha hd
  have p1' : b_id B a d < W := p1
  obtain ⟨h1, h2, h3⟩ := hT
  rw [e_X2_step, show nI i * 5 + nI d = nI (i * 5 + d) by rw [show (5 : Int32) = nI 5 from rfl, pk_mul, nI_add], at_44, av_nI (by omega) (by decide), (h3 i d (by omega) (by omega)).2]
  simp only [Option.bind_some, Option.toList_some, List.append_nil, b_X2_step_13]
  rw [X0_wordOf (by omega) (by omega), h1 15 (by decide), p2]
  simp only [Option.bind_some, Option.toList_some, List.cons_append, List.nil_append, b_X2_step_34]
  rw [show nI k * 240 + nI (cl (B.1 15 (a * 4 + d))) = nI (k * 240 + b_id B a d) by rw [show (240 : Int32) = nI 240 from rfl, pk_mul, nI_add], at_43, av_nI (by omega) (by decide), h1 43 (by decide), hf.2 k (b_id B a d) hk p1']
  simp only [Option.bind_some, Option.toList_some, List.append_nil, b_X2_step_38]
  have hwc : wcost P B k (b_id B a d) ≤ 1000000 := by unfold wcost; split; omega; split <;> omega
  -- the word itself
  have word : ∃ T1 v1, (if nI (wcost P B k (b_id B a d)) < 1000000 then ((x_X2_lower [.ref 41, .int (nI i + 1), .int (nI d + 1), .int (nI (v i d) + nI (wcost P B k (b_id B a d)))] T).bind fun q => g_X2_step 63 [.ref 41, .int (nI a), .int (nI k), .int (nI i), .int (nI d), .int (nI (v i d)), .null, .null, .null, .null] q.1.toList q.2) else g_X2_step 63 [.ref 41, .int (nI a), .int (nI k), .int (nI i), .int (nI d), .int (nI (v i d)), .null, .null, .null, .null] [] T) = g_X2_step 63 [.ref 41, .int (nI a), .int (nI k), .int (nI i), .int (nI d), .int (nI (v i d)), .null, .null, .null, .null] [] T1 ∧ wK B v1 T1 ∧ wR P B H a k i d 0 v v1 := by
    by_cases e : wcost P B k (b_id B a d) < 1000000
    · rw [if_pos (show nI (wcost P B k (b_id B a d)) < 1000000 from nI_lt (b := 1000000) e (by decide)), nI_1, nI_1, nI_add]
      have hc3 := wcost_3 P B k (b_id B a d) e
      obtain ⟨T1, f1, f2⟩ := X2_lower (i := i + 1) (d := d + 1) (c := v i d + wcost P B k (b_id B a d)) ⟨h1, h2, h3⟩ (by omega) (by omega) (by omega)
      rw [f1]
      simp only [Option.bind_some, Option.toList_none, List.append_nil]
      refine ⟨T1, _, rfl, f2, fun x y hx => ?_, fun y => ?_, fun _ => ?_, fun h hh => absurd hh (Nat.not_lt_zero _), fun y => ?_⟩
      · unfold vlow; rw [if_neg (fun q => hx q.1)]
      · unfold vlow
        by_cases e2 : i + 1 = i + 1 ∧ y = d + 1
        · rw [if_pos e2, e2.2]; omega
        · rw [if_neg e2]; omega
      · unfold vlow; rw [if_pos ⟨rfl, rfl⟩]; omega
      · unfold vlow
        by_cases e2 : i + 1 = i + 1 ∧ y = d + 1
        · rw [if_pos e2, e2.2]
          rcases Nat.le_total (v (i + 1) (d + 1)) (v i d + wcost P B k (b_id B a d)) with h | h
          · rw [Nat.min_eq_left h]; exact Or.inl rfl
          · rw [Nat.min_eq_right h]; exact Or.inr ⟨_, ⟨hd, Or.inl ⟨rfl, rfl, e⟩⟩, rfl⟩
        · rw [if_neg e2]; exact Or.inl rfl
    · rw [if_neg (show ¬ nI (wcost P B k (b_id B a d)) < 1000000 from nI_nlt (b := 1000000) (by omega) (by omega))]
      exact ⟨T, v, rfl, ⟨h1, h2, h3⟩, fun _ _ _ => rfl, fun _ => Nat.le_refl _, fun q => absurd q e, fun h hh => absurd hh (Nat.not_lt_zero _), fun _ => Or.inl rfl⟩
  obtain ⟨T1, v1, w1, w2, w3⟩ := word
  rw [w1, b_X2_step_63, at_42, av_nI (by omega) (by decide), w2.1 42 (by decide), hf.1 k hk]
  simp only [Option.bind_some, Option.toList_some, List.append_nil, b_X2_step_71]
  rcases lkf_spec P (B.1 14) (B.1 13) W k with ⟨w, q1, q2, q3⟩ | ⟨q1, q2⟩
  · rw [q3, if_neg (fun q => by have := nI_pos (n := w) (by omega); rw [q] at this; exact this (by decide))]
    have loop : ∀ e hc T2 v2, hc + e = H → wK B v2 T2 → wR P B H a k i d hc v v2 → ∃ T' v', g_X2_step 83 [.ref 41, .int (nI a), .null, .int (nI i), .int (nI d), .int (nI (v i d)), .null, .int (nI w), .int (nI hc), .null] [] T2 = some (none, T') ∧ wK B v' T' ∧ wR P B H a k i d H v v' := by
      intro e
      induction e with
      | zero =>
        intro hc T2 v2 g1 g2 g3
        obtain rfl : hc = H := by omega
        rw [b_X2_step_83, g2.1 12 (by decide), hH.2.1, if_neg (nI_nlt (Nat.le_refl _) (by omega))]
        exact ⟨T2, v2, rfl, g2, g3⟩
      | succ e ih =>
        intro hc T2 v2 g1 g2 g3
        have hh : hc < H := by omega
        obtain ⟨s1, s2, s3, s4, s5⟩ := hH.2.2.2.2.2 hc hh
        have s1' : sho B hc < N := s1
        have s3' : lon B hc < N := s3
        obtain ⟨z1, z2, z3⟩ := hB.2.2.2.2.2.2.1 _ s3
        have z1' : 1 ≤ b_sz B (lon B hc) := z1
        have z2' : b_sz B (lon B hc) ≤ 4 := z2
        have hsr := X0_shortReach (S := T2) (N := N) (W := W) (H := H) (h := hc) (a := a) (d := d) (wd := nI w) (wK_B g2.1 hB) (wK_H g2.1 hH) hh ha (by unfold b_sz; rw [g2.1 16 (by decide)]; exact hd)
        unfold rch b_sz at hsr
        simp (disch := decide) only [g2.1] at hsr
        obtain ⟨u1, u2, -, -⟩ := hB.2.2.2.2.2.2.2.1 (sho B hc) 0 s1 (by have h1 : cl (B.1 16 (sho B hc)) = 1 := s5; omega)
        rw [Nat.add_zero] at u1 u2
        have u1' : b_id B (sho B hc) 0 < W := u1
        have hse : (B.1 15 (cl (B.1 17 hc) * 4) = nI w ∧ (d + cl (B.1 16 (cl (B.1 18 hc))) ≤ cl (B.1 16 a) ∧ ∀ i, i < cl (B.1 16 (cl (B.1 18 hc))) → B.1 15 (cl (B.1 18 hc) * 4 + i) = B.1 15 (a * 4 + (d + i)))) ↔ sedge P B a k d hc := by
          have e1 : B.1 15 (cl (B.1 17 hc) * 4) = nI w ↔ wlike P B k (b_id B (sho B hc) 0) := by
            have e2 : B.1 15 (cl (B.1 17 hc) * 4) = nI (b_id B (sho B hc) 0) := u2
            rw [e2, nI_eq (by omega) (by omega)]
            exact ⟨fun q => by rw [q]; exact q2, fun q => wlk_uniq hB.2.2.2.2.2.2.2.2.2.1 u1' q1 q q2⟩
          exact ⟨fun q => ⟨e1.mp q.1, q.2⟩, fun q => ⟨e1.mpr q.1, q.2⟩⟩
        rw [b_X2_step_83, g2.1 12 (by decide), hH.2.1, if_pos (nI_lt hh (by omega)), hsr]
        simp only [Option.bind_some, Option.toList_some, List.append_nil, b_X2_step_109, nI_1]
        by_cases hs : sedge P B a k d hc
        · rw [if_pos (hse.mpr hs)]
          have hr := hs.2.1
          have e5 : cl (B.1 16 (cl (B.1 18 hc))) = b_sz B (lon B hc) := rfl
          rw [e5, if_pos (show (0 : Int32) < nI (b_sz B (lon B hc)) by rw [← nI_0]; exact nI_lt (by omega) (by omega)), nI_add]
          obtain ⟨T3, f1, f2⟩ := X2_lower (i := i + 1) (d := d + b_sz B (lon B hc)) (c := v i d + 1) g2 (by omega) (by omega) (by omega)
          rw [f1]
          simp only [Option.bind_some, Option.toList_none, List.append_nil, b_X2_step_132]
          rw [nI_1]
          obtain ⟨r1, r2, r3, r4, r5⟩ := g3
          refine ih (hc + 1) T3 _ (by omega) f2 ⟨fun x y hx => ?_, fun y => ?_, fun q => ?_, fun h hh2 hs2 => ?_, fun y => ?_⟩
          · unfold vlow; rw [if_neg (fun q => hx q.1)]; exact r1 x y hx
          · unfold vlow
            have := r2 y
            by_cases e2 : i + 1 = i + 1 ∧ y = d + b_sz B (lon B hc)
            · rw [if_pos e2]; rw [e2.2] at this ⊢; omega
            · rw [if_neg e2]; exact this
          · unfold vlow
            have := r3 q
            by_cases e2 : i + 1 = i + 1 ∧ d + 1 = d + b_sz B (lon B hc)
            · rw [if_pos e2, ← e2.2]; omega
            · rw [if_neg e2]; exact this
          · unfold vlow
            by_cases e2 : i + 1 = i + 1 ∧ d + b_sz B (lon B h) = d + b_sz B (lon B hc)
            · rw [if_pos e2]; omega
            · rw [if_neg e2]
              by_cases e3 : h = hc
              · rw [e3] at e2; exact absurd ⟨rfl, rfl⟩ e2
              · exact r4 h (by omega) hs2
          · unfold vlow
            by_cases e2 : i + 1 = i + 1 ∧ y = d + b_sz B (lon B hc)
            · rw [if_pos e2, e2.2]
              rcases Nat.le_total (v2 (i + 1) (d + b_sz B (lon B hc))) (v i d + 1) with h | h
              · rw [Nat.min_eq_left h]; exact r5 _
              · rw [Nat.min_eq_right h]; exact Or.inr ⟨1, ⟨hd, Or.inr ⟨hc, hh, hs, rfl, rfl⟩⟩, rfl⟩
            · rw [if_neg e2]; exact r5 y
        · rw [if_neg (fun q => hs (hse.mp q)), if_neg (show ¬ (0 : Int32) < nI 0 by decide)]
          obtain ⟨r1, r2, r3, r4, r5⟩ := g3
          refine ih (hc + 1) T2 v2 (by omega) g2 ⟨r1, r2, r3, fun h hh2 hs2 => ?_, r5⟩
          by_cases e3 : h = hc
          · rw [e3] at hs2; exact absurd hs2 hs
          · exact r4 h (by omega) hs2
    have := loop H 0 T1 v1 (by omega) w2 w3
    rw [nI_0] at this
    exact this
  · rw [q2, if_pos rfl]
    obtain ⟨r1, r2, r3, r4, r5⟩ := w3
    refine ⟨T1, v1, rfl, w2, r1, r2, r3, fun h hh hs => ?_, r5⟩
    obtain ⟨s1, s2, s3, s4, s5⟩ := hH.2.2.2.2.2 h hh
    obtain ⟨u1, -⟩ := hB.2.2.2.2.2.2.2.1 (sho B h) 0 s1 (by have h1 : cl (B.1 16 (sho B h)) = 1 := s5; omega)
    exact absurd hs.1 (q1 _ u1)
/-- what holds of the costs while a walk from text word s has come to (i, d); rows above m are untouched -/
def wI (P : q_P) (B : a_M) (H a s i d m : Nat) (v : Nat → Nat → Nat) : Prop :=
  v 0 0 = 0 ∧ (∀ x y, v x y < 1000000 → Pth P B H a x s 0 y (v x y)) ∧ (∀ x y, (x < i ∨ (x = i ∧ y < d)) → y < b_sz B a → v x y < 1000000 → ∀ y' c, Ed P B H a (s + x) y y' c → v (x + 1) y' ≤ v x y + c) ∧ (∀ x y, m < x → v x y = 1000000) ∧ ∀ x y, v x y ≤ 1000000
theorem X2_walk52 {P : q_P} {B : a_M} {N W H a s i : Nat} (hn : P.1 ≤ 14) (hB : i_B N W B) (hH : i_H N H B) (hf : fit P B W B) (ha : a < N) (hi : s + i < P.1) (hiz : i < b_sz B a) (lg : Nat) : ∀ e d T v, d + e = b_sz B a → wK B v T → wI P B H a s i d (i + 1) v →
    ∃ T' v', g_X2_walk 52 [.ref 41, .int (nI a), .int (nI s), .int (nI lg), .int (nI i), .int (nI d)] [] T = g_X2_walk 42 [.ref 41, .int (nI a), .int (nI s), .int (nI lg), .int (nI (i + 1)), .null] [] T' ∧ wK B v' T' ∧ wI P B H a s i (b_sz B a) (i + 1) v' := by
  have hN := hB.1
  obtain ⟨y1, y2, y3⟩ := hB.2.2.2.2.2.2.1 a ha
  have y2' : b_sz B a ≤ 4 := y2
  have y3' : B.1 16 a = nI (b_sz B a) := y3
  intro e
  induction e with
  | zero =>
    intro d T v h1 h2 h3
    obtain rfl : d = b_sz B a := by omega
    rw [b_X2_walk_52, X0_sizeOf (by omega), h2.1 16 (by decide), y3']
    simp only [Option.bind_some, Option.toList_some, List.cons_append, List.nil_append, b_X2_walk_62]
    rw [if_neg (nI_nlt (Nat.le_refl _) (by omega)), nI_1]
    exact ⟨T, v, rfl, h2, h3⟩
  | succ e ih =>
    intro d T v h1 h2 h3
    have hd : d < b_sz B a := by omega
    obtain ⟨k1, k2⟩ := h2.2.2 i d (by omega) (by omega)
    rw [b_X2_walk_52, X0_sizeOf (by omega), h2.1 16 (by decide), y3']
    simp only [Option.bind_some, Option.toList_some, List.cons_append, List.nil_append, b_X2_walk_62]
    rw [if_pos (nI_lt hd (by omega)), show nI i * 5 + nI d = nI (i * 5 + d) by rw [show (5 : Int32) = nI 5 from rfl, pk_mul, nI_add], at_44, av_nI (by omega) (by decide), k2]
    simp only [Option.bind_some, Option.toList_some, List.append_nil, b_X2_walk_79]
    obtain ⟨g1, g2, g3, g4, g5⟩ := h3
    by_cases hv : v i d < 1000000
    · rw [if_pos (show nI (v i d) < 1000000 from nI_lt (b := 1000000) hv (by decide)), nI_add]
      have hp := (Pth_b hB hH _ _ _ _ _ (g2 i d hv)).1
      obtain ⟨T1, v1, f1, f2, r1, r2, r3, r4, r5⟩ := X2_step (k := s + i) (i := i) (d := d) hn hB hH hf ha hi (by omega) hd (by omega) h2
      rw [f1]
      simp only [Option.bind_some, Option.toList_none, List.append_nil, b_X2_walk_97]
      rw [nI_1]
      refine ih (d + 1) T1 v1 (by omega) f2 ⟨?_, fun x y hx => ?_, fun x y hx hy hv1 y' c hE => ?_, fun x y hx => ?_, fun x y => ?_⟩
      · rw [r1 0 0 (by omega)]; exact g1
      · by_cases ex : x = i + 1
        · subst ex
          rcases r5 y with h | ⟨c, h, h'⟩
          · rw [h] at hx ⊢; exact g2 _ _ hx
          · rw [h']
            exact Pth_snoc i s 0 d y (v i d) c (g2 i d hv) h
        · rw [r1 x y ex] at hx ⊢; exact g2 x y hx
      · have hxi : x ≤ i := by omega
        rw [r1 x y (by omega)] at hv1 ⊢
        by_cases ed : x = i ∧ y = d
        · obtain ⟨ex, ey⟩ := ed
          subst ex; subst ey
          obtain ⟨-, hE2⟩ := hE
          rcases hE2 with ⟨e1, e2, e3⟩ | ⟨h, e1, e2, e3, e4⟩
          · rw [e1, e2]; exact r3 (by omega)
          · rw [e3, e4]; exact r4 h e1 e2
        · have old := g3 x y (by omega) hy hv1 y' c hE
          by_cases ex : x = i
          · subst ex
            exact Nat.le_trans (r2 y') old
          · rw [r1 (x + 1) y' (by omega)]; exact old
      · rw [r1 x y (by omega)]; exact g4 x y hx
      · by_cases ex : x = i + 1
        · rw [ex]; exact Nat.le_trans (r2 y) (g5 _ _)
        · rw [r1 x y ex]; exact g5 x y
    · rw [if_neg (show ¬ nI (v i d) < 1000000 from nI_nlt (b := 1000000) (by omega) (by omega)), nI_1]
      refine ih (d + 1) T v (by omega) h2 ⟨g1, g2, fun x y hx hy hv1 y' c hE => ?_, g4, g5⟩
      by_cases ed : x = i ∧ y = d
      · rw [ed.1, ed.2] at hv1; exact absurd hv1 hv
      · exact g3 x y (by omega) hy hv1 y' c hE
theorem X2_walk {P : q_P} {B T : a_M} {N W H a s : Nat} (hn : P.1 ≤ 14) (hc : q_c P B) (hB : i_B N W B) (hH : i_H N H B) (hf : fit P B W B) (ha : a < N) (hs : s ≤ P.1) (h1 : ∀ c, c ≠ 44 → T.1 c = B.1 c) (h2 : T.2 = B.2) :
    ∃ T' v, x_X2_walk [.ref 41, .int (nI a), .int (nI s)] T = some (none, T') ∧ wK B v T' ∧ ∀ L, L ≤ 4 → s + L ≤ P.1 → v L (b_sz B a) = nc P B H a L s 0 := by
  have hN := hB.1
  obtain ⟨y1, y2, y3⟩ := hB.2.2.2.2.2.2.1 a ha
  have y1' : 1 ≤ b_sz B a := y1
  have y2' : b_sz B a ≤ 4 := y2
  have y3' : B.1 16 a = nI (b_sz B a) := y3
  rw [e_X2_walk, fill_44]
  simp only [Option.bind_some, Option.toList_none, List.append_nil, b_X2_walk_9]
  rw [show (.int 0 : Value) = .int (nI 0) from rfl, put_44, pv_nI (by decide) (by decide)]
  simp only [Option.bind_some, Option.toList_none, List.append_nil, b_X2_walk_18]
  obtain ⟨T0, hT0⟩ : ∃ T0, T0 = a_wi (fv T 44 25 1000000) 44 0 (nI 0) := ⟨_, rfl⟩
  rw [← hT0]
  have t0c : ∀ c, c ≠ 44 → T0.1 c = B.1 c := fun c hcc => by rw [hT0, wi_n hcc, fv_n hcc]; exact h1 c hcc
  rw [X0_sizeOf (by omega), t0c 16 (by decide), y3']
  simp only [Option.bind_some, Option.toList_some, List.append_nil, b_X2_walk_26]
  rw [t0c 7 (by decide), hc.1, pk_sub hs, J9_min]
  simp only [Option.bind_some, Option.toList_some, List.append_nil, b_X2_walk_38]
  obtain ⟨lg, hlg⟩ : ∃ lg, lg = min (b_sz B a) (P.1 - s) := ⟨_, rfl⟩
  have elg : (if nI (P.1 - s) < nI (b_sz B a) then nI (P.1 - s) else nI (b_sz B a)) = nI lg := by
    by_cases h : P.1 - s < b_sz B a
    · rw [if_pos (nI_lt h (by omega)), hlg, Nat.min_eq_right (by omega)]
    · rw [if_neg (nI_nlt (by omega) (by omega)), hlg, Nat.min_eq_left (by omega)]
  rw [elg]
  have hK0 : wK B (fun x y => if x = 0 ∧ y = 0 then 0 else 1000000) T0 := by
    refine ⟨t0c, by rw [hT0, wi_2, fv_2]; exact h2, fun i d hi hd => ⟨by dsimp only; split <;> omega, ?_⟩⟩
    show _ = nI (if i = 0 ∧ d = 0 then 0 else 1000000)
    rw [hT0, wi_at, if_pos rfl]
    by_cases e : i = 0 ∧ d = 0
    · rw [if_pos (by omega), if_pos e]
    · rw [if_neg (by omega), if_neg e, fv_e]
      show (if i * 5 + d < 25 then (1000000 : Int32) else T.1 44 (i * 5 + d)) = _
      rw [if_pos (by omega)]; rfl
  have hI0 : wI P B H a s 0 0 0 (fun x y => if x = 0 ∧ y = 0 then 0 else 1000000) := by
    refine ⟨rfl, fun x y h => ?_, fun x y h => by omega, fun x y h => if_neg (by omega), fun x y => by dsimp only; split <;> omega⟩
    dsimp only at h ⊢
    by_cases e : x = 0 ∧ y = 0
    · obtain ⟨e1, e2⟩ := e
      subst e1; subst e2
      exact ⟨rfl, rfl⟩
    · rw [if_neg e] at h; omega
  have loop : ∀ e i T1 v1, i + e = lg → wK B v1 T1 → wI P B H a s i 0 i v1 → ∃ T' v', g_X2_walk 42 [.ref 41, .int (nI a), .int (nI s), .int (nI lg), .int (nI i), .null] [] T1 = some (none, T') ∧ wK B v' T' ∧ wI P B H a s lg 0 lg v' := by
    intro e
    induction e with
    | zero =>
      intro i T1 v1 g1 g2 g3
      obtain rfl : i = lg := by omega
      rw [b_X2_walk_42, if_neg (nI_nlt (Nat.le_refl _) (by omega))]
      exact ⟨T1, v1, rfl, g2, g3⟩
    | succ e ih =>
      intro i T1 v1 g1 g2 g3
      rw [b_X2_walk_42, if_pos (nI_lt (by omega) (by omega))]
      obtain ⟨j1, j2, j3, j4, j5⟩ := g3
      obtain ⟨T2, v2, f1, f2, f3⟩ := X2_walk52 (s := s) (i := i) hn hB hH hf ha (by omega) (by omega) lg (b_sz B a - i) i T1 v1 (by omega) g2 ⟨j1, j2, fun x y hx hy hv y' c hE => by
        rcases hx with hx | ⟨hx, hy2⟩
        · exact j3 x y (Or.inl hx) hy hv y' c hE
        · have := (Pth_b hB hH _ _ _ _ _ (j2 x y hv)).2
          omega, fun x y hx => j4 x y (by omega), j5⟩
      rw [f1]
      obtain ⟨k1, k2, k3, k4, k5⟩ := f3
      refine ih (i + 1) T2 v2 (by omega) f2 ⟨k1, k2, fun x y hx hy hv y' c hE => k3 x y (by omega) hy hv y' c hE, k4, k5⟩
  obtain ⟨T', v, f1, f2, k1, k2, k3, k4, k5⟩ := loop lg 0 T0 _ (by omega) hK0 hI0
  rw [nI_0] at f1
  rw [f1]
  refine ⟨T', v, rfl, f2, fun L hL hsL => ?_⟩
  have comp : ∀ L, L ≤ lg → ∀ y c, Pth P B H a L s 0 y c → v L y ≤ c := by
    intro L
    induction L with
    | zero =>
      rintro _ y c ⟨e1, e2⟩
      rw [e1, e2, k1]
      exact Nat.le_refl _
    | succ L ih =>
      intro hL y c hp
      obtain ⟨d1, c1, c2, p1, p2, p3⟩ := Pth_last L s 0 y c hp
      have i1 := ih (by omega) d1 c1 p1
      have hb := (Pth_b hB hH _ _ _ _ _ p1).1
      have := k3 L d1 (Or.inl (by omega)) p2.1 (by omega) y c2 p2
      omega
  have nf := nc_far P B H a L s 0
  have vf := k5 L (b_sz B a)
  by_cases hz : L ≤ b_sz B a
  · by_cases hv : v L (b_sz B a) < 1000000
    · have q1 := nc_le P B H a L s 0 _ (k2 L _ hv)
      have q2 := comp L (by omega) _ _ (nc_sound P B H a L s 0 (by omega))
      omega
    · by_cases hc2 : nc P B H a L s 0 < 1000000
      · have q2 := comp L (by omega) _ _ (nc_sound P B H a L s 0 hc2)
        omega
      · omega
  · have q1 : ¬ v L (b_sz B a) < 1000000 := fun hv => by have := (Pth_b hB hH _ _ _ _ _ (k2 L _ hv)).2; omega
    have q2 : ¬ nc P B H a L s 0 < 1000000 := fun hv => by have := (Pth_b hB hH _ _ _ _ _ (nc_sound P B H a L s 0 hv)).2; omega
    omega
theorem X2_costOf {B T : a_M} {N W a L : Nat} {v : Nat → Nat → Nat} (hB : i_B N W B) (ha : a < N) (hT : wK B v T) (hL : L ≤ 4) : x_X2_costOf [.ref 41, .int (nI a), .int (nI L)] T = some (some (.int (nI (v L (b_sz B a)))), T) := by
  have hN := hB.1
  obtain ⟨y1, y2, y3⟩ := hB.2.2.2.2.2.2.1 a ha
  have y2' : b_sz B a ≤ 4 := y2
  have y3' : B.1 16 a = nI (b_sz B a) := y3
  rw [e_X2_costOf, if_neg (nI_pos (by omega)), if_pos (show nI L < 5 from nI_lt (b := 5) (by omega) (by decide)), X0_sizeOf (by omega), hT.1 16 (by decide), y3']
  simp only [Option.bind_some, Option.toList_some, List.cons_append, List.nil_append, b_X2_costOf_24]
  rw [show nI L * 5 + nI (b_sz B a) = nI (L * 5 + b_sz B a) by rw [show (5 : Int32) = nI 5 from rfl, pk_mul, nI_add], at_44, av_nI (by omega) (by decide), (hT.2.2 L (b_sz B a) hL y2').2]
  simp only [Option.bind_some, Option.toList_some, List.append_nil, b_X2_costOf_28]
