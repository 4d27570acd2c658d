/-! ===== the words of a line, as a value ===== -/
/-- how many, lengths, signs, breaks; in a word; a comma seen; too long -/
abbrev q_P : Type := Nat × (Nat → Nat) × (Nat → Nat → Int32) × (Nat → Bool) × Bool × Bool × Bool
abbrev q_len (P : q_P) : Nat → Nat := P.2.1
abbrev q_sg (P : q_P) : Nat → Nat → Int32 := P.2.2.1
abbrev q_br (P : q_P) : Nat → Bool := P.2.2.2.1
abbrev q_in (P : q_P) : Bool := P.2.2.2.2.1
abbrev q_co (P : q_P) : Bool := P.2.2.2.2.2.1
abbrev q_lo (P : q_P) : Bool := P.2.2.2.2.2.2
theorem nI_out2 {i n : Nat} (h : i < n) (hi : i < 2 ^ 31) : ¬ (nI i < 0 ∨ n ≤ i) := fun q => q.elim (nI_pos hi) (fun q => by omega)
def q_u {α : Type} (f : Nat → α) (i : Nat) (v : α) : Nat → α := fun j => if j = i then v else f j
theorem q_ue {α : Type} (f : Nat → α) (i : Nat) (v : α) : q_u f i v i = v := if_pos rfl
theorem q_un {α : Type} {f : Nat → α} {i j : Nat} {v : α} (h : j ≠ i) : q_u f i v j = f j := if_neg h
/-- how many figures stand ahead -/
def q_lead (f : Nat → Int32) : Nat → Nat
  | 0 => 0
  | l + 1 => if q_lead f l = l ∧ p_fig (f l) then l + 1 else q_lead f l
theorem q_lead_le (f : Nat → Int32) : ∀ l, q_lead f l ≤ l := by
  intro l
  induction l with
  | zero => exact Nat.le_refl _
  | succ l ih =>
    unfold q_lead
    split <;> omega
theorem q_lead_fig (f : Nat → Int32) : ∀ l i, i < q_lead f l → p_fig (f i) := by
  intro l
  induction l with
  | zero => intro i h; simp [q_lead] at h
  | succ l ih =>
    intro i h
    unfold q_lead at h
    split at h
    · rename_i h1
      rcases Nat.lt_or_ge i l with h2 | h2
      · exact ih i (by omega)
      · rw [show i = l by omega]; exact h1.2
    · exact ih i h
theorem q_lead_stop (f : Nat → Int32) : ∀ l, q_lead f l < l → ¬ p_fig (f (q_lead f l)) := by
  intro l
  induction l with
  | zero => intro h; omega
  | succ l ih =>
    intro h
    have hle := q_lead_le f l
    unfold q_lead at h ⊢
    by_cases h1 : q_lead f l = l ∧ p_fig (f l)
    · rw [if_pos h1] at h; omega
    · rw [if_neg h1] at h ⊢
      by_cases h2 : q_lead f l = l
      · intro h3
        exact h1 ⟨h2, by rw [h2] at h3; exact h3⟩
      · exact ih (by omega)
theorem q_lead_congr {f g : Nat → Int32} : ∀ l, (∀ i, i < l → f i = g i) → q_lead f l = q_lead g l := by
  intro l
  induction l with
  | zero => intro _; rfl
  | succ l ih =>
    intro h
    unfold q_lead
    rw [ih (fun i hi => h i (by omega)), h l (by omega)]
theorem q_lead_eq {f : Nat → Int32} {l r : Nat} (h1 : r ≤ l) (h2 : ∀ i, i < r → p_fig (f i)) (h3 : r = l ∨ ¬ p_fig (f r)) : q_lead f l = r := by
  have a1 := q_lead_le f l
  rcases Nat.lt_trichotomy (q_lead f l) r with h | h | h
  · exact absurd (h2 _ h) (q_lead_stop f l (by omega))
  · exact h
  · rcases h3 with h3 | h3
    · omega
    · exact absurd (q_lead_fig f l r h) h3
def q_begin (P : q_P) : q_P := if P.1 < 14 then (P.1 + 1, q_u (q_len P) P.1 0, q_sg P, q_u (q_br P) P.1 (q_co P && decide (0 < P.1)), true, false, q_lo P)
  else (P.1, q_len P, q_sg P, q_br P, true, q_co P, true)
def q_app (a : Int32) (P : q_P) : q_P := if q_lo P = true then P
  else if q_len P (P.1 - 1) = 16 then (P.1, q_len P, q_sg P, q_br P, q_in P, q_co P, true)
  else (P.1, q_u (q_len P) (P.1 - 1) (q_len P (P.1 - 1) + 1), q_u (q_sg P) (P.1 - 1) (q_u (q_sg P (P.1 - 1)) (q_len P (P.1 - 1)) a), q_br P, q_in P, q_co P, q_lo P)
def q_take (a : Int32) (P : q_P) : q_P := if p_word a then q_app a (if q_in P = true then P else q_begin P)
  else (P.1, q_len P, q_sg P, q_br P, false, q_co P || decide (a = 44), q_lo P)
/-- words may be empty here: just begun -/
def q_ok0 (P : q_P) : Prop := P.1 ≤ 14 ∧ (q_in P = true → 0 < P.1) ∧ (∀ k, k < P.1 → q_len P k ≤ 16) ∧ (q_lo P = false → ∀ k, k + 1 < P.1 → 0 < q_len P k) ∧ ∀ k, k < P.1 → ∀ i, i < q_len P k → p_word (q_sg P k i)
def q_ok (P : q_P) : Prop := q_ok0 P ∧ (q_lo P = false → ∀ k, k < P.1 → 0 < q_len P k)
theorem q_begin_ok {P : q_P} (h : q_ok P) : q_ok0 (q_begin P) := by
  obtain ⟨n, len, sg, br, iw, co, lo⟩ := P
  obtain ⟨⟨h1, h2, h3, h4, h5⟩, h6⟩ := h
  dsimp only [q_len, q_sg, q_br, q_in, q_co, q_lo] at h1 h2 h3 h4 h5 h6
  unfold q_begin
  split
  · rename_i hn
    refine ⟨?_, ?_, ?_, ?_, ?_⟩ <;> dsimp only [q_len, q_sg, q_br, q_in, q_co, q_lo] at *
    · omega
    · intro _; omega
    · intro k hk
      by_cases e : k = n
      · subst e; rw [q_ue]; omega
      · rw [q_un e]; exact h3 k (by omega)
    · intro hl k hk
      rw [q_un (by omega)]; exact h6 hl k (by omega)
    · intro k hk i hi
      by_cases e : k = n
      · subst e; rw [q_ue] at hi; omega
      · rw [q_un e] at hi; exact h5 k (by omega) i hi
  · rename_i hn
    refine ⟨?_, ?_, ?_, ?_, ?_⟩ <;> dsimp only [q_len, q_sg, q_br, q_in, q_co, q_lo] at *
    · omega
    · intro _; omega
    · exact h3
    · intro hl; cases hl
    · exact h5
theorem q_begin_in (P : q_P) : q_in (q_begin P) = true := by
  unfold q_begin
  split <;> rfl
theorem q_app_ok {P : q_P} {a : Int32} (ha : p_word a) (hin : q_in P = true) (h : q_ok0 P) : q_ok (q_app a P) := by
  obtain ⟨n, len, sg, br, iw, co, lo⟩ := P
  obtain ⟨h1, h2, h3, h4, h5⟩ := h
  dsimp only [q_len, q_sg, q_br, q_in, q_co, q_lo] at h1 h2 h3 h4 h5 hin
  have hn := h2 hin
  unfold q_app
  by_cases hl : lo = true
  · rw [if_pos hl]
    exact ⟨⟨h1, h2, h3, h4, h5⟩, fun q => by dsimp only [q_len, q_sg, q_br, q_in, q_co, q_lo] at q; rw [hl] at q; cases q⟩
  · rw [if_neg hl]
    have hlf : lo = false := by cases lo <;> simp at hl ⊢
    by_cases h16 : len (n - 1) = 16
    · rw [if_pos h16]
      exact ⟨⟨h1, h2, h3, fun q => (by cases q), h5⟩, fun q => by cases q⟩
    · rw [if_neg h16]
      have h17 := h3 (n - 1) (by omega)
      refine ⟨⟨h1, h2, ?_, ?_, ?_⟩, ?_⟩ <;> dsimp only [q_len, q_sg, q_br, q_in, q_co, q_lo]
      · intro k hk
        by_cases e : k = n - 1
        · rw [e, q_ue]; omega
        · rw [q_un e]; exact h3 k hk
      · intro _ k hk
        rw [q_un (by omega)]; exact h4 hlf k hk
      · intro k hk i hi
        by_cases e : k = n - 1
        · subst e
          rw [q_ue] at hi ⊢
          by_cases e2 : i = len (n - 1)
          · rw [e2, q_ue]; exact ha
          · rw [q_un e2]; exact h5 _ hk i (by omega)
        · rw [q_un e] at hi ⊢
          exact h5 k hk i hi
      · intro _ k hk
        by_cases e : k = n - 1
        · rw [e, q_ue]; omega
        · rw [q_un e]; exact h4 hlf k (by omega)
theorem q_take_ok {P : q_P} {a : Int32} (h : q_ok P) : q_ok (q_take a P) := by
  unfold q_take
  by_cases hw : p_word a
  · rw [if_pos hw]
    by_cases hi : q_in P = true
    · rw [if_pos hi]; exact q_app_ok hw hi h.1
    · rw [if_neg hi]; exact q_app_ok hw (q_begin_in P) (q_begin_ok h)
  · rw [if_neg hw]
    exact ⟨⟨h.1.1, fun q => (by cases q), h.1.2.2.1, h.1.2.2.2.1, h.1.2.2.2.2⟩, h.2⟩
def q_foldl (l : List Int32) (P : q_P) : q_P := l.foldl (fun T s => q_take s T) P
theorem q_foldl_ok (l : List Int32) : ∀ P, q_ok P → q_ok (q_foldl l P) := by
  induction l with
  | nil => intro P h; exact h
  | cons a l ih => intro P h; exact ih _ (q_take_ok h)
def q_zero : q_P := (0, fun _ => 0, fun _ _ => 0, fun _ => false, false, false, false)
theorem q_zero_ok : q_ok q_zero := by
  refine ⟨⟨Nat.zero_le _, fun q => (by cases q), fun k hk => ?_, fun _ k hk => ?_, fun k hk => ?_⟩, fun _ k hk => ?_⟩ <;> exact absurd hk (by simp [q_zero])
theorem p_walk_rel {σ τ : Type} (R : σ → τ → Prop) {u : Nat → Int32} {n : Nat} {F : Int32 → σ → σ} {B : σ → σ} {F' : Int32 → τ → τ} {B' : τ → τ} (hF : ∀ a s t, R s t → R (F a s) (F' a t)) (hB : ∀ s t, R s t → R (B s) (B' t)) :
    ∀ d i s t, R s t → R (p_walk u n F B d i s) (p_walk u n F' B' d i t) := by
  intro d
  induction d with
  | zero => intro i s t h; exact h
  | succ d ih =>
    intro i s t h
    unfold p_walk
    split
    · split
      · exact ih _ _ _ (hF _ _ _ h)
      · split
        · exact ih _ _ _ (hB _ _ h)
        · exact ih _ _ _ (hF _ _ _ h)
    · exact h
/-- the line gone through: its words, and whether it is broken -/
def q_F (m : Nat) (f g h : Nat → Int32) (a : Int32) (x : q_P × Bool) : q_P × Bool := (q_foldl (fo m f g h a) x.1, x.2)
def q_B (x : q_P × Bool) : q_P × Bool := (x.1, true)
def q_parse (u : Nat → Int32) (n m : Nat) (f g h : Nat → Int32) : q_P × Bool := p_walk u n (q_F m f g h) q_B n 0 (q_zero, false)
theorem q_parse_ok (u : Nat → Int32) (n m : Nat) (f g h : Nat → Int32) : q_ok (q_parse u n m f g h).1 := by
  have key : ∀ d i (x : q_P × Bool), q_ok x.1 → q_ok (p_walk u n (q_F m f g h) q_B d i x).1 := by
    intro d i x hx
    exact p_walk_rel (fun (s : q_P × Bool) (_ : Unit) => q_ok s.1) (F := q_F m f g h) (B := q_B) (F' := fun _ t => t) (B' := fun t => t) (fun a s t hs => q_foldl_ok _ _ hs) (fun s t hs => hs) d i x () hx
  exact key n 0 _ q_zero_ok
/-- what words() answers -/
def q_ans (x : q_P × Bool) : Int32 := if x.2 = true then -3 else if q_lo x.1 = true then -4 else if x.1.1 = 0 then -5 else nI x.1.1
/-- the class's cells hold these words -/
def q_c (P : q_P) (T : a_M) : Prop := T.1 7 4 = nI P.1 ∧ T.1 7 6 = b2i (q_lo P = true) ∧ T.1 7 7 = b2i (q_in P = true) ∧ T.1 7 8 = b2i (q_co P = true) ∧
  ∀ k, k < P.1 → T.1 9 k = nI (q_len P k) ∧ T.1 11 k = b2i (q_br P k = true) ∧ T.1 10 k = nI (q_lead (q_sg P k) (q_len P k)) ∧ ∀ i, i < q_len P k → T.1 8 (k * 16 + i) = q_sg P k i
theorem wi_at (S : a_M) (k i : Nat) (v : Int32) (a b : Nat) : (a_wi S k i v).1 a b = if a = k then (if b = i then v else S.1 a b) else S.1 a b := by
  by_cases h : a = k
  · subst h
    rw [if_pos rfl, wi_e]
    rfl
  · rw [if_neg h, wi_n h]
theorem c_begin_rep {P : q_P} {T : a_M} (ok : q_ok P) (h : q_c P T) : q_c (q_begin P) (c_begin T) := by
  obtain ⟨n, len, sg, br, iw, co, lo⟩ := P
  obtain ⟨⟨k1, -, -, -, -⟩, -⟩ := ok
  obtain ⟨h1, h2, h3, h4, h5⟩ := h
  dsimp only [q_len, q_sg, q_br, q_in, q_co, q_lo] at k1 h1 h2 h3 h4 h5
  unfold c_begin q_begin
  rw [h1]
  dsimp only [q_len, q_sg, q_br, q_in, q_co, q_lo]
  by_cases hn : n < 14
  · rw [if_pos (show nI n < 14 from nI_lt (b := 14) hn (by decide)), if_pos hn, pv_nI hn (by omega), pv_nI hn (by omega), pv_nI hn (by omega), h4]
    refine ⟨?_, ?_, ?_, ?_, fun k hk => ?_⟩
    · simp [wi_at, nI_1]
    · simp [wi_at, h2]
    · simp [wi_at, b2i]
    · simp [wi_at, b2i]
    · dsimp only [q_len, q_sg, q_br, q_in, q_co, q_lo] at hk ⊢
      by_cases e : k = n
      · subst e
        simp only [q_ue]
        refine ⟨?_, ?_, ?_, ?_⟩
        · simp [wi_at, nI_0]
        · have : (0 : Int32) < nI k ↔ 0 < k := by rw [← nI_0]; exact nI_ltI (by omega) (by omega)
          simp only [this]
          cases co <;> by_cases hk0 : 0 < k <;> simp [wi_at, b2i, hk0]
        · simp [wi_at, q_lead, nI_0]
        · intro i hi; omega
      · simp only [q_un e]
        obtain ⟨a1, a2, a3, a4⟩ := h5 k (by omega)
        refine ⟨?_, ?_, ?_, ?_⟩
        · simp [wi_at, e, a1]
        · simp [wi_at, e, a2]
        · simp [wi_at, e, a3]
        · intro i hi
          simp [wi_at, a4 i hi]
  · rw [if_neg (show ¬ nI n < 14 from nI_nlt (b := 14) (by omega) (by omega)), if_neg hn]
    refine ⟨?_, ?_, ?_, ?_, fun k hk => ?_⟩
    · simp [wi_at, h1]
    · simp [wi_at, b2i]
    · simp [wi_at, b2i]
    · simp [wi_at, h4]
    · dsimp only [q_len, q_sg, q_br, q_in, q_co, q_lo] at hk ⊢
      obtain ⟨a1, a2, a3, a4⟩ := h5 k hk
      refine ⟨?_, ?_, ?_, ?_⟩
      · simp [wi_at, a1]
      · simp [wi_at, a2]
      · simp [wi_at, a3]
      · intro i hi
        simp [wi_at, a4 i hi]
theorem c_append_rep {P : q_P} {T : a_M} {a : Int32} (ok : q_ok0 P) (hin : q_in P = true) (h : q_c P T) : q_c (q_app a P) (c_append a T) := by
  obtain ⟨n, len, sg, br, iw, co, lo⟩ := P
  obtain ⟨k1, k2, k3, -, -⟩ := ok
  obtain ⟨h1, h2, h3, h4, h5⟩ := h
  dsimp only [q_len, q_sg, q_br, q_in, q_co, q_lo] at k1 k2 k3 h1 h2 h3 h4 h5 hin
  have hn := k2 hin
  obtain ⟨m, rfl⟩ : ∃ m, n = m + 1 := ⟨n - 1, by omega⟩
  have l16 := k3 m (by omega)
  obtain ⟨a1, a2, a3, a4⟩ := h5 m (by omega)
  unfold c_append q_app
  rw [h1, nI_pred, av_nI (by omega) (by decide), a1]
  dsimp only [q_len, q_sg, q_br, q_in, q_co, q_lo]
  rw [Nat.add_sub_cancel]
  by_cases hl : lo = true
  · rw [if_pos hl]
    have e6 : (if nI (len m) < 16 then T else a_wi T 7 6 1).1 7 6 = 1 := by
      split
      · rw [h2, b2i_t hl]
      · exact wi_v _ _ _ _
    unfold c_app1
    rw [if_neg (by rw [e6]; decide)]
    have eT : ∀ x y, (if nI (len m) < 16 then T else a_wi T 7 6 1).1 x y = T.1 x y := by
      intro x y
      split
      · rfl
      · rw [wi_at]
        split
        · split
          · rename_i e1 e2
            rw [e1, e2, h2, b2i_t hl]
          · rfl
        · rfl
    refine ⟨?_, ?_, ?_, ?_, fun k hk => ?_⟩ <;> dsimp only [q_len, q_sg, q_br, q_in, q_co, q_lo] at *
    · rw [eT]; exact h1
    · rw [eT]; exact h2
    · rw [eT]; exact h3
    · rw [eT]; exact h4
    · simp only [eT]
      exact h5 k hk
  · have hlf : lo = false := by cases lo <;> simp at hl ⊢
    rw [if_neg hl]
    by_cases h16 : len m = 16
    · rw [if_pos h16, if_neg (by rw [h16]; decide)]
      unfold c_app1
      rw [if_neg (by rw [wi_v]; decide)]
      refine ⟨?_, ?_, ?_, ?_, fun k hk => ?_⟩
      · simp [wi_at, h1]
      · simp [wi_at, b2i]
      · simp [wi_at, h3]
      · simp [wi_at, h4]
      · obtain ⟨a1, a2, a3, a4⟩ := h5 k hk
        refine ⟨?_, ?_, ?_, ?_⟩
        · simp [wi_at, a1]
        · simp [wi_at, a2]
        · simp [wi_at, a3]
        · intro i hi
          simp [wi_at, a4 i hi]
    · rw [if_neg h16, if_pos (show nI (len m) < 16 from nI_lt (b := 16) (by omega) (by decide))]
      unfold c_app1 c_app2
      rw [if_pos (by rw [h2, b2i_f hl])]
      have e1 : nI m * 16 + nI (len m) = nI (m * 16 + len m) := by
        rw [show (16 : Int32) = nI 16 from rfl, pk_mul, nI_add]
      rw [e1, pv_nI (by omega) (by decide), pv_nI (by omega) (by decide), av_nI (by omega) (by decide), pv_nI (by omega) (by decide), nI_1]
      have e10 : (a_wi (a_wi T 8 (m * 16 + len m) a) 9 m (nI (len m + 1))).1 10 m = nI (q_lead (sg m) (len m)) := by
        simp [wi_at, a3]
      rw [e10]
      have hle := q_lead_le (sg m) (len m)
      have hd : (nI (q_lead (sg m) (len m)) = nI (len m)) ↔ q_lead (sg m) (len m) = len m := nI_eq (by omega) (by omega)
      have hc : q_lead (q_u (sg m) (len m) a) (len m) = q_lead (sg m) (len m) := q_lead_congr _ (fun i hi => q_un (by omega))
      have hx : q_lead (q_u (sg m) (len m) a) (len m + 1) = if q_lead (sg m) (len m) = len m ∧ p_fig a then len m + 1 else q_lead (sg m) (len m) := by
        show (if q_lead (q_u (sg m) (len m) a) (len m) = len m ∧ p_fig (q_u (sg m) (len m) a (len m)) then len m + 1 else q_lead (q_u (sg m) (len m) a) (len m)) = _
        rw [hc, q_ue]
      obtain ⟨T', hT', e7, e8, e9, e10', e11⟩ : ∃ T' : a_M, T' = (if p_fig a then (if nI (q_lead (sg m) (len m)) = nI (len m) then a_wi (a_wi (a_wi T 8 (m * 16 + len m) a) 9 m (nI (len m + 1))) 10 m (nI (len m + 1)) else a_wi (a_wi T 8 (m * 16 + len m) a) 9 m (nI (len m + 1))) else a_wi (a_wi T 8 (m * 16 + len m) a) 9 m (nI (len m + 1))) ∧ T'.1 7 = T.1 7 ∧ (∀ j, T'.1 8 j = if j = m * 16 + len m then a else T.1 8 j) ∧ (∀ j, T'.1 9 j = if j = m then nI (len m + 1) else T.1 9 j) ∧ (∀ j, T'.1 10 j = if j = m then nI (q_lead (q_u (sg m) (len m) a) (len m + 1)) else T.1 10 j) ∧ T'.1 11 = T.1 11 := by
        refine ⟨_, rfl, ?_⟩
        by_cases q : p_fig a ∧ q_lead (sg m) (len m) = len m
        · rw [if_pos q.1, if_pos (hd.mpr q.2), hx, if_pos ⟨q.2, q.1⟩]
          refine ⟨?_, ?_, ?_, ?_, ?_⟩
          · simp [wi_n]
          · intro j; simp [wi_at]
          · intro j; simp [wi_at]
          · intro j; simp [wi_at]
          · simp [wi_n]
        · have e0 : (if p_fig a then (if nI (q_lead (sg m) (len m)) = nI (len m) then a_wi (a_wi (a_wi T 8 (m * 16 + len m) a) 9 m (nI (len m + 1))) 10 m (nI (len m + 1)) else a_wi (a_wi T 8 (m * 16 + len m) a) 9 m (nI (len m + 1))) else a_wi (a_wi T 8 (m * 16 + len m) a) 9 m (nI (len m + 1))) = a_wi (a_wi T 8 (m * 16 + len m) a) 9 m (nI (len m + 1)) := by
            by_cases q1 : p_fig a
            · rw [if_pos q1, if_neg (fun q2 => q ⟨q1, hd.mp q2⟩)]
            · rw [if_neg q1]
          rw [e0, hx, if_neg (fun q2 => q ⟨q2.2, q2.1⟩)]
          refine ⟨?_, ?_, ?_, ?_, ?_⟩
          · simp [wi_n]
          · intro j; simp [wi_at]
          · intro j; simp [wi_at]
          · intro j
            by_cases e : j = m
            · subst e; simp [wi_at, a3]
            · simp [wi_at, e]
          · simp [wi_n]
      rw [← hT']
      refine ⟨?_, ?_, ?_, ?_, fun k hk => ?_⟩ <;> dsimp only [q_len, q_sg, q_br, q_in, q_co, q_lo] at *
      · rw [e7]; exact h1
      · rw [e7]; exact h2
      · rw [e7]; exact h3
      · rw [e7]; exact h4
      · obtain ⟨b1, b2, b3, b4⟩ := h5 k hk
        by_cases e : k = m
        · subst e
          simp only [q_ue]
          refine ⟨?_, ?_, ?_, ?_⟩
          · rw [e9, if_pos rfl]
          · rw [e11]; exact b2
          · rw [e10', if_pos rfl]
          · intro i hi
            rw [e8]
            by_cases e2 : i = len k
            · rw [if_pos (by omega), e2, q_ue]
            · rw [if_neg (by omega), q_un e2]; exact b4 i (by omega)
        · simp only [q_un e]
          refine ⟨?_, ?_, ?_, ?_⟩
          · rw [e9, if_neg e]; exact b1
          · rw [e11]; exact b2
          · rw [e10', if_neg e]; exact b3
          · intro i hi
            have := k3 k hk
            rw [e8, if_neg (by omega)]; exact b4 i hi
theorem c_take_rep {P : q_P} {T : a_M} {a : Int32} (ok : q_ok P) (h : q_c P T) : q_c (q_take a P) (c_take a T) := by
  unfold c_take q_take
  by_cases hw : p_word a
  · rw [if_pos hw, if_pos hw, h.2.2.1]
    by_cases hi : q_in P = true
    · rw [if_pos hi, if_neg (by rw [b2i_t hi]; decide)]
      exact c_append_rep ok.1 hi h
    · rw [if_neg hi, if_pos (b2i_f hi)]
      exact c_append_rep (q_begin_ok ok) (q_begin_in P) (c_begin_rep ok h)
  · rw [if_neg hw, if_neg hw]
    obtain ⟨n, len, sg, br, iw, co, lo⟩ := P
    obtain ⟨h1, h2, h3, h4, h5⟩ := h
    dsimp only [q_len, q_sg, q_br, q_in, q_co, q_lo] at h1 h2 h3 h4 h5
    by_cases h44 : a = 44
    · rw [if_pos h44]
      refine ⟨?_, ?_, ?_, ?_, fun k hk => ?_⟩
      · simp [wi_at, h1]
      · simp [wi_at, h2]
      · simp [wi_at, b2i]
      · simp [wi_at, b2i, h44]
      · obtain ⟨a1, a2, a3, a4⟩ := h5 k hk
        refine ⟨?_, ?_, ?_, ?_⟩
        · simp [wi_at, a1]
        · simp [wi_at, a2]
        · simp [wi_at, a3]
        · intro i hi
          simp [wi_at, a4 i hi]
    · rw [if_neg h44]
      refine ⟨?_, ?_, ?_, ?_, fun k hk => ?_⟩
      · simp [wi_at, h1]
      · simp [wi_at, h2]
      · simp [wi_at, b2i]
      · simp [wi_at, h4, h44]
      · obtain ⟨a1, a2, a3, a4⟩ := h5 k hk
        refine ⟨?_, ?_, ?_, ?_⟩
        · simp [wi_at, a1]
        · simp [wi_at, a2]
        · simp [wi_at, a3]
        · intro i hi
          simp [wi_at, a4 i hi]
