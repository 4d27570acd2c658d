/-! ===== canonical: what is written, as a list ===== -/
def sg_u (s : Int32) : List Int32 := if s < 65536 then [s] else [55296 + ((s - 65536) / 1024), 56320 + ((s - 65536) - (s - 65536) / 1024 * 1024)]
theorem sg_u_len (s : Int32) : (sg_u s).length ≤ 2 ∧ 1 ≤ (sg_u s).length := by
  unfold sg_u
  split <;> simp
theorem sg_u_1 {s : Int32} (h : s < 65536) : sg_u s = [s] := if_pos h
/-- the class's scribe has written this -/
def wc (S0 : a_M) (out : List Int32) (T : a_M) : Prop := (∀ c, c ≠ 54 → c ≠ 55 → T.1 c = S0.1 c) ∧ T.2 = S0.2 ∧ T.1 54 4 = nI out.length ∧ ∀ i, i < 120 → i < out.length → out[i]? = some (T.1 55 i)
/-- the reference has written this -/
def wm (S0 : a_M) (out : List Int32) (T : a_M) : Prop := (∀ c, c ≠ 56 → c ≠ 102 → T.1 c = S0.1 c) ∧ T.2 = S0.2 ∧ (∀ j, j ≠ 63 → T.1 56 j = S0.1 56 j) ∧ T.1 56 63 = nI out.length ∧ out.length ≤ 400 ∧ ∀ i, i < out.length → out[i]? = some (T.1 102 i)
theorem concat_at {out : List Int32} {u : Int32} {i : Nat} : (out ++ [u])[i]? = if i = out.length then some u else out[i]? := by
  by_cases h : i = out.length
  · rw [if_pos h, h, List.getElem?_concat_length]
  · rw [if_neg h]
    rcases Nat.lt_or_ge i out.length with h1 | h1
    · rw [List.getElem?_append_left h1]
    · rw [List.getElem?_eq_none (by simp; omega), List.getElem?_eq_none (by omega)]
theorem X9_writeUnit {S0 T : a_M} {out : List Int32} (u : Int32) (h : wc S0 out T) (hl : out.length < 1000) : ∃ T', x_X9_writeUnit [.ref 54, .int u] T = some (none, T') ∧ wc S0 (out ++ [u]) T' := by
  obtain ⟨h1, h2, h3, h4⟩ := h
  rw [e_X9_writeUnit, put_55, h3]
  simp only [Option.bind_some, Option.toList_none, List.append_nil, b_X9_writeUnit_12]
  have e54 : (pv T 55 120 (nI out.length) u).1 54 4 = nI out.length := by rw [pv_n (by decide)]; exact h3
  rw [e54, nI_1]
  refine ⟨_, rfl, fun c c1 c2 => by rw [wi_n c1, pv_n c2, h1 c c1 c2], by rw [wi_2, pv_2]; exact h2, by rw [wi_v, List.length_append]; rfl, fun i hi hi2 => ?_⟩
  rw [List.length_append] at hi2
  rw [concat_at, wi_n (by decide)]
  rcases Nat.lt_or_ge out.length 120 with h5 | h5
  · rw [pv_nI h5 (by decide), wi_at, if_pos rfl]
    by_cases e : i = out.length
    · rw [if_pos e, if_pos e]
    · rw [if_neg e, if_neg e]
      exact h4 i hi (by simp at hi2; omega)
  · have : pv T 55 120 (nI out.length) u = T := by
      unfold pv
      rw [if_pos (Or.inr (by rw [nI_clamp (by omega)]; exact h5))]
    rw [this, if_neg (by omega)]
    exact h4 i hi (by omega)
theorem X9_writeSign {S0 T : a_M} {out : List Int32} (s : Int32) (h : wc S0 out T) (hl : out.length < 900) : ∃ T', x_X9_writeSign [.ref 54, .int s] T = some (none, T') ∧ wc S0 (out ++ sg_u s) T' := by
  rw [e_X9_writeSign]
  unfold sg_u
  by_cases hs : s < 65536
  · rw [if_pos hs, if_pos hs]
    obtain ⟨T', e1, e2⟩ := X9_writeUnit s h (by omega)
    rw [e1]
    simp only [Option.bind_some, Option.toList_none, List.append_nil, b_X9_writeSign_11]
    exact ⟨T', rfl, e2⟩
  · rw [if_neg hs, if_neg hs]
    obtain ⟨T', e1, e2⟩ := X9_writeUnit (55296 + ((s - 65536) / 1024)) h (by omega)
    rw [e1]
    simp only [Option.bind_some, Option.toList_none, List.append_nil, b_X9_writeSign_29]
    obtain ⟨T2, f1, f2⟩ := X9_writeUnit (56320 + ((s - 65536) - (s - 65536) / 1024 * 1024)) e2 (by rw [List.length_append]; simp; omega)
    rw [f1]
    simp only [Option.bind_some, Option.toList_none, List.append_nil, b_X9_writeSign_44]
    refine ⟨T2, rfl, ?_⟩
    rw [List.append_assoc] at f2
    exact f2
theorem X12_write {S0 T : a_M} {out : List Int32} (s : Int32) (h : wm S0 out T) (hl : out.length + 2 ≤ 400) : ∃ T', x_X12_write [.ref 56, .int s] T = some (none, T') ∧ wm S0 (out ++ sg_u s) T' := by
  obtain ⟨h1, h2, h3, h4, h5, h6⟩ := h
  rw [e_X12_write, h4]
  have hs : s < 65536 ↔ ¬ 65535 < s := p_lt_le _ _ _ (by decide)
  unfold sg_u
  by_cases hq : s < 65536
  · rw [if_neg (hs.mp hq), if_pos hq, if_neg (nI_out (by omega) (by decide)), nI_clamp (by omega), nI_1]
    refine ⟨_, rfl, fun c c1 c2 => by rw [wi_n c1, wi_n c2, h1 c c1 c2], h2, fun j hj => by rw [wi_s hj, wi_n (by decide)]; exact h3 j hj, by rw [wi_v, List.length_append]; rfl, by rw [List.length_append]; simp; omega, fun i hi => ?_⟩
    rw [List.length_append] at hi
    simp only [List.length_singleton] at hi
    rw [concat_at, wi_n (by decide), wi_at, if_pos rfl]
    by_cases e : i = out.length
    · rw [if_pos e, if_pos e]
    · rw [if_neg e, if_neg e]
      exact h6 i (by omega)
  · have hq' : 65535 < s := Decidable.not_not.mp (fun q => hq (hs.mpr q))
    rw [if_pos hq', if_neg hq, if_neg (nI_out (by omega) (by decide)), nI_1, if_neg (nI_out (by omega) (by decide)), nI_clamp (by omega), nI_clamp (by omega), show (2 : Int32) = nI 2 from rfl, nI_add]
    refine ⟨_, rfl, fun c c1 c2 => by rw [wi_n c1, wi_n c2, wi_n c2, h1 c c1 c2], h2, fun j hj => by rw [wi_s hj, wi_n (by decide), wi_n (by decide)]; exact h3 j hj, by rw [wi_v, List.length_append]; rfl, by rw [List.length_append]; simp; omega, fun i hi => ?_⟩
    rw [List.length_append] at hi
    simp only [List.length_cons, List.length_nil] at hi
    rw [show ∀ a b : Int32, out ++ [a, b] = (out ++ [a]) ++ [b] from fun a b => by simp, concat_at, concat_at, wi_n (by decide), wi_at, if_pos rfl, wi_at, if_pos rfl, List.length_append]
    simp only [List.length_singleton]
    by_cases e1 : i = out.length + 1
    · rw [if_pos e1, if_pos e1]
    · rw [if_neg e1, if_neg e1]
      by_cases e : i = out.length
      · rw [if_pos e, if_pos e]
      · rw [if_neg e, if_neg e]
        exact h6 i (by omega)
/-! figures -/
def dig (v b : Nat) : Int32 := nI (48 + v / 10 ^ b % 10)
theorem dig_lt (v b : Nat) : dig v b < 65536 := by
  unfold dig
  exact nI_lt (b := 65536) (by have := Nat.mod_lt (v / 10 ^ b) (show 0 < 10 by decide); omega) (by decide)
def figl (v wanted : Nat) : Nat → List Int32
  | 0 => []
  | b + 1 => (if 0 < v / 10 ^ b ∨ b < wanted then [dig v b] else []) ++ figl v wanted b
def refl_ (v : Nat) : Nat → List Int32
  | 0 => []
  | b + 1 => dig v b :: refl_ v b
theorem figl_len (v wanted : Nat) : ∀ b, (figl v wanted b).length ≤ b := by
  intro b
  induction b with
  | zero => exact Nat.le_refl _
  | succ b ih =>
    unfold figl
    rw [List.length_append]
    split <;> simp <;> omega
theorem X9_fig12 {v wanted b : Nat} {T : a_M} (hv : v < 2 ^ 31) (hb : b ≤ 4) : ∀ d i, i + d = b → g_X9_writeFigures 12 [.ref 54, .int (nI v), .int (nI wanted), .int (nI b), .int (nI (v / 10 ^ i)), .int (nI i)] [] T = g_X9_writeFigures 12 [.ref 54, .int (nI v), .int (nI wanted), .int (nI b), .int (nI (v / 10 ^ b)), .int (nI b)] [] T := by
  intro d
  induction d with
  | zero => intro i h; rw [show i = b by omega]
  | succ d ih =>
    intro i h
    have hd : v / 10 ^ i < 2 ^ 31 := Nat.lt_of_le_of_lt (Nat.div_le_self _ _) hv
    rw [b_X9_writeFigures_12, if_pos (nI_lt (by omega) (by omega)), show (10 : Int32) = nI 10 from rfl, pk_div hd (by decide) (by decide), Nat.div_div_eq_div_mul, ← Nat.pow_succ, nI_1]
    exact ih (i + 1) (by omega)
theorem X9_figl {S0 : a_M} {v wanted : Nat} (hv : v < 2 ^ 31) (hw : wanted ≤ 5) : ∀ b T out, b ≤ 5 → wc S0 out T → out.length + b ≤ 800 → ∃ T', g_X9_writeFigures 2 [.ref 54, .int (nI v), .int (nI wanted), .int (dn b), .null, .null] [] T = some (none, T') ∧ wc S0 (out ++ figl v wanted b) T' := by
  intro b
  induction b with
  | zero =>
    intro T out _ h _
    rw [b_X9_writeFigures_2, if_pos (by decide)]
    refine ⟨T, rfl, ?_⟩
    unfold figl
    rw [List.append_nil]
    exact h
  | succ b ih =>
    intro T out hb h hl
    have hd : v / 10 ^ b < 2 ^ 31 := Nat.lt_of_le_of_lt (Nat.div_le_self _ _) hv
    have h12 := X9_fig12 (v := v) (wanted := wanted) (b := b) (T := T) hv (by omega) b 0 (by omega)
    rw [Nat.pow_zero, Nat.div_one, nI_0] at h12
    rw [b_X9_writeFigures_2, show dn (b + 1) = nI b from rfl, if_neg (nI_pos (by omega)), h12, b_X9_writeFigures_12, if_neg (nI_nlt (Nat.le_refl _) (by omega))]
    have hz : (0 : Int32) < nI (v / 10 ^ b) ↔ 0 < v / 10 ^ b := by rw [← nI_0]; exact nI_ltI (by decide) hd
    have hw2 : nI b < nI wanted ↔ b < wanted := nI_ltI (by omega) (by omega)
    unfold figl
    have w41 : ∃ T', g_X9_writeFigures 41 [.ref 54, .int (nI v), .int (nI wanted), .int (nI b), .int (nI (v / 10 ^ b)), .null] [] T = some (none, T') ∧ wc S0 (out ++ ([dig v b] ++ figl v wanted b)) T' := by
      have e1 : (48 : Int32) + (nI (v / 10 ^ b) - nI (v / 10 ^ b) / 10 * 10) = dig v b := by
        rw [show (10 : Int32) = nI 10 from rfl, pk_rem hd (by decide) (by decide), show (48 : Int32) = nI 48 from rfl, nI_add]
        rfl
      rw [b_X9_writeFigures_41, e1]
      obtain ⟨T1, f1, f2⟩ := X9_writeUnit (dig v b) h (by omega)
      rw [f1]
      simp only [Option.bind_some, Option.toList_none, List.append_nil, b_X9_writeFigures_53]
      rw [dn_p]
      obtain ⟨T2, g1, g2⟩ := ih T1 (out ++ [dig v b]) (by omega) f2 (by rw [List.length_append]; simp; omega)
      refine ⟨T2, g1, ?_⟩
      rw [List.append_assoc] at g2
      exact g2
    by_cases h0 : 0 < v / 10 ^ b
    · rw [if_pos (hz.mpr h0), if_pos (Or.inl h0)]
      exact w41
    · rw [if_neg (fun q => h0 (hz.mp q))]
      by_cases h1 : b < wanted
      · rw [if_pos (hw2.mpr h1), if_pos (Or.inr h1)]
        exact w41
      · rw [if_neg (fun q => h1 (hw2.mp q)), if_neg (fun q => q.elim h0 h1), dn_p, List.nil_append]
        exact ih T out (by omega) h (by omega)
def pw : Nat → Nat
  | 0 => 0
  | b + 1 => 10 ^ b
theorem X12_figl {S0 : a_M} {v : Nat} (hv : v < 2 ^ 31) : ∀ b T out, b ≤ 5 → wm S0 out T → out.length + b + 2 ≤ 400 → ∃ T', g_X12_writeFigures 2 [.ref 56, .int (nI v), .null, .int (nI (pw b))] [] T = some (none, T') ∧ wm S0 (out ++ refl_ v b) T' := by
  intro b
  induction b with
  | zero =>
    intro T out _ h _
    rw [b_X12_writeFigures_2, if_neg (by decide)]
    refine ⟨T, rfl, ?_⟩
    unfold refl_
    rw [List.append_nil]
    exact h
  | succ b ih =>
    intro T out hb h hl
    have hp : 0 < 10 ^ b := Nat.pow_pos (by decide)
    have hp2 : 10 ^ b ≤ 10 ^ 4 := Nat.pow_le_pow_right (by decide) (by omega)
    have hd : v / 10 ^ b < 2 ^ 31 := Nat.lt_of_le_of_lt (Nat.div_le_self _ _) hv
    have e1 : (48 : Int32) + (nI v / nI (10 ^ b) - nI v / nI (10 ^ b) / 10 * 10) = dig v b := by
      rw [pk_div hv hp (by omega), show (10 : Int32) = nI 10 from rfl, pk_rem hd (by decide) (by decide), show (48 : Int32) = nI 48 from rfl, nI_add]
      rfl
    have e2 : nI (10 ^ b) / 10 = nI (pw b) := by
      rw [show (10 : Int32) = nI 10 from rfl, pk_div (by omega) (by decide) (by decide)]
      cases b with
      | zero => rfl
      | succ b => rw [Nat.pow_succ, Nat.mul_div_cancel _ (by decide)]; rfl
    rw [b_X12_writeFigures_2, show pw (b + 1) = 10 ^ b from rfl, if_pos (by rw [← nI_0]; exact nI_lt hp (by omega)), if_neg (nI_ne0 hp (by omega)), e1]
    obtain ⟨T1, f1, f2⟩ := X12_write (dig v b) h (by omega)
    rw [f1]
    simp only [Option.bind_some, Option.toList_none, List.append_nil, b_X12_writeFigures_19]
    rw [sg_u_1 (dig_lt v b)] at f2
    rw [e2]
    obtain ⟨T2, g1, g2⟩ := ih T1 (out ++ [dig v b]) (by omega) f2 (by rw [List.length_append]; simp; omega)
    refine ⟨T2, g1, ?_⟩
    rw [List.append_assoc] at g2
    exact g2
theorem figl_5 (v : Nat) : figl v 5 5 = refl_ v 5 := by
  simp [figl, refl_]
/-- how many figures v has -/
def nfig (v : Nat) : Nat := if 9999 < v then 5 else if 999 < v then 4 else if 99 < v then 3 else if 9 < v then 2 else 1
theorem nfig_le (v : Nat) : nfig v ≤ 5 := by
  unfold nfig
  repeat (first | omega | split)
theorem figl_1 {v : Nat} (hv : v ≤ 99999) : figl v 1 5 = refl_ v (nfig v) := by
  unfold nfig
  have e4 : 0 < v / 10 ^ 4 ↔ 9999 < v := by constructor <;> intro h <;> omega
  have e3 : 0 < v / 10 ^ 3 ↔ 999 < v := by constructor <;> intro h <;> omega
  have e2 : 0 < v / 10 ^ 2 ↔ 99 < v := by constructor <;> intro h <;> omega
  have e1 : 0 < v / 10 ^ 1 ↔ 9 < v := by constructor <;> intro h <;> omega
  simp only [figl, e4, e3, e2, e1]
  by_cases h4 : 9999 < v
  · rw [if_pos h4, if_pos (Or.inl h4), if_pos (Or.inl (by omega)), if_pos (Or.inl (by omega)), if_pos (Or.inl (by omega)), if_pos (Or.inr (by omega))]; rfl
  rw [if_neg h4, if_neg (fun q => q.elim h4 (by omega))]
  by_cases h3 : 999 < v
  · rw [if_pos h3, if_pos (Or.inl h3), if_pos (Or.inl (by omega)), if_pos (Or.inl (by omega)), if_pos (Or.inr (by omega))]; rfl
  rw [if_neg h3, if_neg (fun q => q.elim h3 (by omega))]
  by_cases h2 : 99 < v
  · rw [if_pos h2, if_pos (Or.inl h2), if_pos (Or.inl (by omega)), if_pos (Or.inr (by omega))]; rfl
  rw [if_neg h2, if_neg (fun q => q.elim h2 (by omega))]
  by_cases h1 : 9 < v
  · rw [if_pos h1, if_pos (Or.inl h1), if_pos (Or.inr (by omega))]; rfl
  rw [if_neg h1, if_neg (fun q => q.elim h1 (by omega)), if_pos (Or.inr (by omega))]; rfl
/-! rows of things -/
def wsl (f : Nat → List Int32) : Nat → List Int32
  | 0 => []
  | n + 1 => wsl f n ++ f n
theorem wsl_len {f : Nat → List Int32} {c : Nat} : ∀ n, (∀ i, i < n → (f i).length ≤ c) → (wsl f n).length ≤ n * c := by
  intro n
  induction n with
  | zero => intro _; simp [wsl]
  | succ n ih =>
    intro h
    have h1 := ih (fun i hi => h i (by omega))
    have h2 := h n (by omega)
    show (wsl f n ++ f n).length ≤ _
    rw [List.length_append, Nat.succ_mul]
    omega
theorem wsl_congr {f g : Nat → List Int32} : ∀ n, (∀ i, i < n → f i = g i) → wsl f n = wsl g n := by
  intro n
  induction n with
  | zero => intro _; rfl
  | succ n ih =>
    intro h
    show wsl f n ++ f n = wsl g n ++ g n
    rw [ih (fun i hi => h i (by omega)), h n (by omega)]
