/-! ===== what the small machine says of the large one ===== -/
/-- the tables' words that a method takes along; those of nest mates, which its state takes along -/
def a_isN : Jvm.Cond → Bool
  | .fieldLinkNest _ _ _ _ _ _ => true
  | .methodLinkNest _ _ _ _ => true
  | _ => false
def a_T : List Jvm.Cond := lw_tbl.filter goodWord
def a_N : List Jvm.Cond := lw_tbl.filter a_isN
theorem a_inT {w : Jvm.Cond} (h : w ∈ lw_tbl) (hg : goodWord w = true) : w ∈ a_T := List.mem_filter.mpr ⟨h, hg⟩
theorem a_inN {w : Jvm.Cond} (h : w ∈ lw_tbl) (hg : a_isN w = true) : w ∈ a_N := List.mem_filter.mpr ⟨h, hg⟩
theorem a_Nw_warm {s U : State} (hW : s.WarmedH U.vm) (h : ∀ w ∈ a_N, va_Nw w s) : ∀ w ∈ a_N, va_Nw w U := by
  intro w hw
  have h1 := h w hw
  have h2 := (List.mem_filter.mp hw).2
  cases w <;> simp only [a_isN] at h2 <;> first
    | exact absurd h2 (by decide)
    | exact va_Nw.warmF hW h1
    | exact va_Nw.warmM hW h1
theorem a_Nw_same {u U : State} (hvm : u.vm = U.vm) (h : ∀ w ∈ a_N, va_Nw w u) : ∀ w ∈ a_N, va_Nw w U := by
  intro w hw
  have h1 := h w hw
  have h2 := (List.mem_filter.mp hw).2
  cases w <;> simp only [a_isN] at h2 <;> first
    | exact absurd h2 (by decide)
    | exact va_Nw.same rfl hvm h1
def a_cv (ad : Nat → Nat) : Value → Value
  | .ref k => .ref (ad k)
  | v => v
theorem a_cv_null {ad : Nat → Nat} {v : Value} (h : v ≠ .null) : a_cv ad v ≠ .null := by
  cases v <;> simp_all [a_cv]
theorem a_cv_cat (ad : Nat → Nat) (v : Value) : (a_cv ad v).category = v.category := by cases v <;> rfl
theorem a_isl_cat (v : Value) : a_isl v = true ↔ v.category = 2 := by cases v <;> simp [a_isl, Value.category]
theorem a_isl_1 {v : Value} (h : a_isl v = false) : v.category = 1 := by cases v <;> simp_all [a_isl, Value.category]
theorem a_cats_sum (ad : Nat → Nat) (l : List Value) : ((l.map (a_cv ad)).map fun v => v.category).sum = a_cats l := by
  induction l with
  | nil => rfl
  | cons v l ih =>
    simp only [List.map_cons, List.sum_cons, ih, a_cats, a_cv_cat]
    cases v <;> rfl
/-- the locals of the large machine hold those of the small one, but for what isn't known -/
def a_lo (ad : Nat → Nat) (ls : Array Slot) (nL : Nat) (L : List Value) : Prop := ls.size = nL ∧ lv_wf ls ∧ L.length = nL ∧ ∀ (i : Nat) (v : Value), L[i]? = some v → v ≠ .null → ls[i]? = some (.val (a_cv ad v))
theorem a_lk_some {L : List Value} {k : Nat} {v : Value} (h : a_lk L k = v) (hv : v ≠ .null) : L[k]? = some v := by
  unfold a_lk at h
  rw [List.getD_eq_getElem?_getD] at h
  cases hk : L[k]? with
  | none => rw [hk] at h; exact absurd h.symm hv
  | some u => rw [hk] at h; exact congrArg some h
theorem a_lo.get {ad : Nat → Nat} {ls : Array Slot} {nL : Nat} {L : List Value} (h : a_lo ad ls nL L) {k : Nat} {v : Value} (hk : a_lk L k = v) (hv : v ≠ .null) : ls[k]? = some (.val (a_cv ad v)) := h.2.2.2 k v (a_lk_some hk hv) hv
def a_pl (ad : Nat → Nat) (L : List Value) : List (Nat × Value) := (List.range L.length).filterMap (fun i => match L[i]? with
  | some v => if v = .null then none else some (i, a_cv ad v)
  | none => none)
theorem a_pl_mem {ad : Nat → Nat} {L : List Value} {i : Nat} {u : Value} : (i, u) ∈ a_pl ad L ↔ ∃ v, L[i]? = some v ∧ v ≠ .null ∧ u = a_cv ad v := by
  unfold a_pl
  rw [List.mem_filterMap]
  constructor
  · rintro ⟨j, -, hj⟩
    split at hj
    · rename_i v hv
      split at hj
      · cases hj
      · rename_i hn
        cases hj
        exact ⟨v, hv, hn, rfl⟩
    · cases hj
  · rintro ⟨v, hv, hn, rfl⟩
    refine ⟨i, List.mem_range.mpr (List.getElem?_eq_some_iff.mp hv).1, ?_⟩
    rw [hv]
    dsimp only
    rw [if_neg hn]
theorem a_lo.has {ad : Nat → Nat} {ls : Array Slot} {nL : Nat} {L : List Value} (h : a_lo ad ls nL L) : lv_has ls nL (a_pl ad L) := by
  refine ⟨h.1, h.2.1, fun q hq => ?_⟩
  obtain ⟨i, u⟩ := q
  obtain ⟨v, h1, h2, rfl⟩ := a_pl_mem.mp hq
  exact h.2.2.2 i v h1 h2
theorem a_kill_len (L : List Value) (k : Nat) : (a_kill L k).length = L.length := by
  cases k with
  | zero => rfl
  | succ j =>
    simp only [a_kill]
    cases a_isl (L.getD j .null) <;> simp
theorem a_kill_at {L : List Value} {k i : Nat} {v : Value} (h : (a_kill L k)[i]? = some v) (hv : v ≠ .null) : L[i]? = some v ∧ ¬ (i + 1 = k ∧ v.category = 2) := by
  cases k with
  | zero => exact ⟨h, fun q => by omega⟩
  | succ j =>
    simp only [a_kill] at h
    cases hb : a_isl (L.getD j .null) with
    | false =>
      rw [hb] at h
      refine ⟨h, fun q => ?_⟩
      have hij : i = j := by omega
      subst hij
      have h2 : L[i]? = some v := h
      rw [List.getD_eq_getElem?_getD, h2] at hb
      have := (a_isl_cat v).mpr q.2
      simp only [Option.getD_some] at hb
      rw [hb] at this; cases this
    | true =>
      rw [hb] at h
      by_cases hij : i = j
      · subst hij
        have hlt : i < L.length := by
          have := (List.getElem?_eq_some_iff.mp h).1
          simpa using this
        have h2 : (L.set i Value.null)[i]? = some v := h
        rw [List.getElem?_set_self hlt] at h2
        cases h2
        exact absurd rfl hv
      · have h2 : (L.set j Value.null)[i]? = some v := h
        rw [List.getElem?_set_ne (Ne.symm hij)] at h2
        exact ⟨h2, fun q => hij (by omega)⟩
theorem a_lo.s1 {ad : Nat → Nat} {ls' : Array Slot} {nL : Nat} {L : List Value} {i : Nat} {v : Value} (hlen : L.length = nL) (h : lv_has ls' nL ((i, a_cv ad v) :: (a_pl ad L).filter (fun q => !(q.1 == i) && !(q.1 + 1 == i && q.2.category == 2)))) : a_lo ad ls' nL (a_s1 L i v) := by
  refine ⟨h.1, h.2.1, by simp [a_s1, a_kill_len, hlen], fun j u hj hu => ?_⟩
  unfold a_s1 at hj
  by_cases hji : j = i
  · subst hji
    have hlt : j < (a_kill L j).length := by
      have := (List.getElem?_eq_some_iff.mp hj).1
      simpa using this
    rw [List.getElem?_set_self hlt] at hj
    cases hj
    exact h.2.2 (j, a_cv ad v) List.mem_cons_self
  · rw [List.getElem?_set_ne (Ne.symm hji)] at hj
    obtain ⟨h1, h2⟩ := a_kill_at hj hu
    refine h.2.2 (j, a_cv ad u) (List.mem_cons_of_mem _ (List.mem_filter.mpr ⟨a_pl_mem.mpr ⟨u, h1, hu, rfl⟩, ?_⟩))
    simp only [Bool.and_eq_true, Bool.not_eq_true', beq_eq_false_iff_ne, ne_eq, Bool.and_eq_false_iff, a_cv_cat]
    refine ⟨hji, ?_⟩
    by_cases hc : j + 1 = i
    · exact Or.inr (fun q => h2 ⟨hc, q⟩)
    · exact Or.inl hc
theorem a_lo.s2 {ad : Nat → Nat} {ls' : Array Slot} {nL : Nat} {L : List Value} {i : Nat} {v : Value} (hlen : L.length = nL) (h : lv_has ls' nL ((i, a_cv ad v) :: (a_pl ad L).filter (fun q => !(q.1 == i) && (!(q.1 == i + 1) && !(q.1 + 1 == i && q.2.category == 2))))) : a_lo ad ls' nL (a_s2 L i v) := by
  refine ⟨h.1, h.2.1, by simp [a_s2, a_kill_len, hlen], fun j u hj hu => ?_⟩
  unfold a_s2 at hj
  by_cases hj1 : j = i + 1
  · subst hj1
    have hlt : i + 1 < ((a_kill L i).set i v).length := by
      have := (List.getElem?_eq_some_iff.mp hj).1
      simpa using this
    rw [List.getElem?_set_self hlt] at hj
    cases hj
    exact absurd rfl hu
  · rw [List.getElem?_set_ne (Ne.symm hj1)] at hj
    by_cases hji : j = i
    · subst hji
      have hlt : j < (a_kill L j).length := by
        have := (List.getElem?_eq_some_iff.mp hj).1
        simpa using this
      rw [List.getElem?_set_self hlt] at hj
      cases hj
      exact h.2.2 (j, a_cv ad v) List.mem_cons_self
    · rw [List.getElem?_set_ne (Ne.symm hji)] at hj
      obtain ⟨h1, h2⟩ := a_kill_at hj hu
      refine h.2.2 (j, a_cv ad u) (List.mem_cons_of_mem _ (List.mem_filter.mpr ⟨a_pl_mem.mpr ⟨u, h1, hu, rfl⟩, ?_⟩))
      simp only [Bool.and_eq_true, Bool.not_eq_true', beq_eq_false_iff_ne, ne_eq, Bool.and_eq_false_iff, a_cv_cat]
      refine ⟨hji, hj1, ?_⟩
      by_cases hc : j + 1 = i
      · exact Or.inr (fun q => h2 ⟨hc, q⟩)
      · exact Or.inl hc
theorem a_mk_at : ∀ (m : List Bool) (L : List Value) (i : Nat) (v : Value), (a_mk m L)[i]? = some v → v ≠ .null → L[i]? = some v
  | [], L, i, v, h, _ => h
  | b :: m, [], i, v, h, _ => by simp [a_mk] at h
  | b :: m, u :: l, i, v, h, hv => by
    cases i with
    | zero =>
      simp only [a_mk, List.getElem?_cons_zero] at h ⊢
      cases b
      · cases h; exact absurd rfl hv
      · exact h
    | succ i =>
      simp only [a_mk, List.getElem?_cons_succ] at h ⊢
      cases m with
      | nil =>
        simp only [List.getElem?_map] at h
        cases hl : l[i]? with
        | none => rw [hl] at h; cases h
        | some z => rw [hl] at h; cases h; exact absurd rfl hv
      | cons b2 m2 => exact a_mk_at (b2 :: m2) l i v h hv
theorem a_mk_len : ∀ (m : List Bool) (L : List Value), (a_mk m L).length = L.length
  | [], L => rfl
  | b :: m, [] => rfl
  | b :: m, u :: l => by
    cases m with
    | nil => simp [a_mk]
    | cons b2 m2 =>
      have := a_mk_len (b2 :: m2) l
      simp only [a_mk, List.length_cons] at this ⊢
      omega
theorem a_lo.mk {ad : Nat → Nat} {ls : Array Slot} {nL : Nat} {L : List Value} (m : List Bool) (h : a_lo ad ls nL L) : a_lo ad ls nL (a_mk m L) :=
  ⟨h.1, h.2.1, by rw [a_mk_len]; exact h.2.2.1, fun i v hi hv => h.2.2.2 i v (a_mk_at m L i v hi hv) hv⟩
/-! the cells -/
def a_fv (ad : Nat → Nat) (S : a_M) (k ci j : Nat) : Value := match a_fk ci j with
  | 0 => .int (S.1 k j)
  | 1 => .long (S.2 k j)
  | 2 => .int (S.1 k j)
  | _ => .ref (ad (a_rf k j))
def a_en (cI cZ cJ : ClassId) (ad : Nat → Nat) (S : a_M) (k : Nat) : va_E := match a_ds k with
  | (0, ci) => .inr (ci, (List.range (a_nf ci)).map (a_fv ad S k ci))
  | (1, n) => .inl (cI, n, .inl (S.1 k))
  | (2, n) => .inl (cZ, n, .inl (S.1 k))
  | (_, n) => .inl (cJ, n, .inr (.inl (S.2 k)))
def a_ws (cI cZ cJ : ClassId) (ad : Nat → Nat) (S : a_M) : va_W := (List.range 103).map (fun k => (ad k, a_en cI cZ cJ ad S k))
theorem a_ws_at {cI cZ cJ : ClassId} {ad : Nat → Nat} {S : a_M} {k : Nat} (hk : k < 103) : (a_ws cI cZ cJ ad S)[k]? = some (ad k, a_en cI cZ cJ ad S k) := by
  simp [a_ws, hk]
theorem a_ws_lt {cI cZ cJ : ClassId} {ad : Nat → Nat} {S : a_M} {k : Nat} {q : Nat × va_E} (h : (a_ws cI cZ cJ ad S)[k]? = some q) : k < 103 ∧ q.1 = ad k := by
  have hk : k < 103 := by
    have := (List.getElem?_eq_some_iff.mp h).1
    simpa [a_ws] using this
  rw [a_ws_at hk] at h
  cases h
  exact ⟨hk, rfl⟩
theorem a_ws_set {cI cZ cJ : ClassId} {ad : Nat → Nat} {S S' : a_M} {k : Nat} (h : ∀ j, j ≠ k → a_en cI cZ cJ ad S' j = a_en cI cZ cJ ad S j) : (a_ws cI cZ cJ ad S).set k (ad k, a_en cI cZ cJ ad S' k) = a_ws cI cZ cJ ad S' := by
  apply List.ext_getElem?
  intro j
  by_cases hjk : j = k
  · subst hjk
    by_cases hj : j < 103
    · rw [a_ws_at hj, List.getElem?_set_self (by simpa [a_ws] using hj)]
    · rw [List.getElem?_eq_none (by simpa [a_ws] using hj), List.getElem?_eq_none (by simpa [a_ws] using hj)]
  · rw [List.getElem?_set_ne (Ne.symm hjk)]
    by_cases hj : j < 103
    · rw [a_ws_at hj, a_ws_at hj, h j hjk]
    · rw [List.getElem?_eq_none (by simpa [a_ws] using hj), List.getElem?_eq_none (by simpa [a_ws] using hj)]
theorem a_en_wi {cI cZ cJ : ClassId} {ad : Nat → Nat} {S : a_M} {k i : Nat} {v : Int32} : ∀ j, j ≠ k → a_en cI cZ cJ ad (a_wi S k i v) j = a_en cI cZ cJ ad S j := by
  intro j hj
  have h1 : (a_wi S k i v).1 j = S.1 j := if_neg hj
  have h2 : (a_wi S k i v).2 = S.2 := rfl
  have h3 : a_fv ad (a_wi S k i v) j = a_fv ad S j := by funext ci x; simp only [a_fv, h1, h2]
  unfold a_en
  rw [h1, h2, h3]
theorem a_en_wl {cI cZ cJ : ClassId} {ad : Nat → Nat} {S : a_M} {k i : Nat} {v : Int64} : ∀ j, j ≠ k → a_en cI cZ cJ ad (a_wl S k i v) j = a_en cI cZ cJ ad S j := by
  intro j hj
  have h1 : (a_wl S k i v).2 j = S.2 j := if_neg hj
  have h2 : (a_wl S k i v).1 = S.1 := rfl
  have h3 : a_fv ad (a_wl S k i v) j = a_fv ad S j := by funext ci x; simp only [a_fv, h1, h2]
  unfold a_en
  rw [h1, h2, h3]
theorem a_wi_k {S : a_M} {k i : Nat} {v : Int32} : (a_wi S k i v).1 k = upd (S.1 k) i v := if_pos rfl
theorem a_wl_k {S : a_M} {k i : Nat} {v : Int64} : (a_wl S k i v).2 k = vp_updL (S.2 k) i v := if_pos rfl
theorem a_ds_big {k : Nat} (h : 103 ≤ k) : 4 ≤ (a_ds k).1 := by
  rcases Nat.lt_or_ge 103 k with h1 | h1
  · have : Nat.ble k 103 = false := by
      cases hb : Nat.ble k 103
      · rfl
      · exact absurd (Nat.le_of_ble_eq_true hb) (by omega)
    unfold a_ds
    rw [this]
    show 4 ≤ 9
    decide
  · have : k = 103 := by omega
    subst this
    decide
theorem a_ds_lt {k a n : Nat} (h : a_ds k = (a, n)) (ha : a < 4) : k < 103 := by
  rcases Nat.lt_or_ge k 103 with h1 | h1
  · exact h1
  · have := a_ds_big h1
    rw [h] at this
    dsimp only at this
    omega
theorem a_fs_len {ad : Nat → Nat} {S : a_M} {k ci N : Nat} : ((List.range N).map (a_fv ad S k ci)).length = N := by simp
theorem a_fs_i {ad : Nat → Nat} {S : a_M} {k ci y N : Nat} {a : Int32} (h : a_fk ci y = 0 ∨ a_fk ci y = 2) : ((List.range N).map (a_fv ad S k ci)).set y (.int a) = (List.range N).map (a_fv ad (a_wi S k y a) k ci) := by
  apply List.ext_getElem?
  intro j
  by_cases hj : j = y
  · subst hj
    by_cases hN : j < N
    · rw [List.getElem?_set_self (by simpa using hN)]
      have hv : a_fv ad (a_wi S k j a) k ci j = .int a := by
        unfold a_fv
        rw [a_wi_k]
        rcases h with h | h <;> (rw [h]; simp [upd])
      simp [hN, hv]
    · rw [List.getElem?_eq_none (by simpa using hN), List.getElem?_eq_none (by simpa using hN)]
  · rw [List.getElem?_set_ne (Ne.symm hj)]
    have hv : a_fv ad (a_wi S k y a) k ci j = a_fv ad S k ci j := by
      unfold a_fv
      rw [a_wi_k, show (a_wi S k y a).2 = S.2 from rfl, show upd (S.1 k) y a j = S.1 k j from if_neg hj]
    simp [List.getElem?_map, hv]
    by_cases hN : j < N
    · simp [hN, hv]
    · rw [List.getElem?_eq_none (by simpa using hN)]; rfl
theorem a_fs_l {ad : Nat → Nat} {S : a_M} {k ci y N : Nat} {a : Int64} (h : a_fk ci y = 1) : ((List.range N).map (a_fv ad S k ci)).set y (.long a) = (List.range N).map (a_fv ad (a_wl S k y a) k ci) := by
  apply List.ext_getElem?
  intro j
  by_cases hj : j = y
  · subst hj
    by_cases hN : j < N
    · rw [List.getElem?_set_self (by simpa using hN)]
      have hv : a_fv ad (a_wl S k j a) k ci j = .long a := by
        unfold a_fv
        rw [a_wl_k, h]
        simp [vp_updL]
      simp [hN, hv]
    · rw [List.getElem?_eq_none (by simpa using hN), List.getElem?_eq_none (by simpa using hN)]
  · rw [List.getElem?_set_ne (Ne.symm hj)]
    have hv : a_fv ad (a_wl S k y a) k ci j = a_fv ad S k ci j := by
      unfold a_fv
      rw [a_wl_k, show (a_wl S k y a).1 = S.1 from rfl, show vp_updL (S.2 k) y a j = S.2 k j from if_neg hj]
    by_cases hN : j < N
    · simp [hN, hv]
    · rw [List.getElem?_eq_none (by simpa using hN), List.getElem?_eq_none (by simpa using hN)]
/-- an entry of a class's pool that names a field -/
def a_CF (own : String) (idx x y : Nat) : Prop := ∃ (C : String) (T : u_T) (N : Nat) (ty0 : Nat → FieldType), vwCl[x]? = some (C, T, N) ∧ N = a_nf x ∧ y < N ∧ (∀ w ∈ u_ws C T N, w ∈ a_T) ∧ (∀ k, k < N → parseFieldDescriptor (T k).2.2.1 = some (ty0 k)) ∧ (∀ a, a < N → ∀ b, b < N → a ≠ b → (T a).2.1 ≠ (T b).2.1) ∧ (T y).1 = C ∧ (a_fk x y = 3 ∨ ((T y).2.2.2 = false ∧ ((a_fk x y = 0 ∧ ty0 y = .int) ∨ (a_fk x y = 1 ∧ ty0 y = .long) ∨ (a_fk x y = 2 ∧ ty0 y = .boolean)))) ∧ (Jvm.Cond.fieldLink own idx C (T y).2.1 (T y).2.2.1 ∈ lw_tbl ∨ ∃ host, Jvm.Cond.fieldLinkNest own idx C (T y).2.1 (T y).2.2.1 host ∈ lw_tbl)
def a_swok (pc : Nat) (lo hi : Int) (offs : Array Int) : Nat → List (Int32 × Nat) → Bool
  | j, [] => decide (lo + (j : Int) = hi + 1)
  | j, (c, t) :: l => decide (c.toInt = lo + (j : Int)) && decide (lo + (j : Int) ≤ hi) && decide (offs[j]? = some ((t : Int) - (pc : Int))) && a_swok pc lo hi offs (j + 1) l
def a_rok (i : Instr) (y : Nat) (ret : Option FieldType) : Bool := match i with
  | .ireturn => (Nat.beq y 0 && decide (ret = some .int)) || (Nat.beq y 1 && decide (ret = some .boolean))
  | .lreturn => decide (ret = some .long)
  | .areturn => match ret with
    | some (.object _) => true
    | _ => false
  | .return_ => decide (ret = none)
  | _ => false
/-- an entry of a method's table is as its bytes say -/
def a_ok (ft : List (Nat × Nat × Nat)) (ct : List (Nat × Int32)) (lt : List (Nat × Int64)) (kd : Nat → Option Nat) (ret : Option FieldType) (nL pc : Nat) (e : a_E) : Bool := match e with
  | (i, len, x, y, v, w, sw, _) => match i with
  | .iconst n => Nat.beq len 1 && decide (Int32.ofInt n = v)
  | .bipush n => Nat.beq len 2 && decide ((Int8.ofInt n).toInt32 = v)
  | .sipush n => Nat.beq len 3 && decide ((Int16.ofInt n).toInt32 = v)
  | .ldc idx => Nat.beq len 2 && decide ((idx, v) ∈ ct)
  | .ldc_w idx => Nat.beq len 3 && decide ((idx, v) ∈ ct)
  | .lconst n => Nat.beq len 1 && decide (Int64.ofNat (n : Nat) = w)
  | .ldc2_w idx => Nat.beq len 3 && decide ((idx, w) ∈ lt)
  | .iload k => Nat.beq len 2 && Nat.beq k x
  | .lload k => Nat.beq len 2 && Nat.beq k x
  | .aload k => Nat.beq len 2 && Nat.beq k x
  | .iload_n k => Nat.beq len 1 && Nat.beq (k : Nat) x
  | .lload_n k => Nat.beq len 1 && Nat.beq (k : Nat) x
  | .aload_n k => Nat.beq len 1 && Nat.beq (k : Nat) x
  | .istore k => Nat.beq len 2 && Nat.beq k x && decide (x < nL)
  | .astore k => Nat.beq len 2 && Nat.beq k x && decide (x < nL)
  | .istore_n k => Nat.beq len 1 && Nat.beq (k : Nat) x && decide (x < nL)
  | .astore_n k => Nat.beq len 1 && Nat.beq (k : Nat) x && decide (x < nL)
  | .lstore k => Nat.beq len 2 && Nat.beq k x && decide (x + 1 < nL)
  | .lstore_n k => Nat.beq len 1 && Nat.beq (k : Nat) x && decide (x + 1 < nL)
  | .iinc k n => Nat.beq len 3 && Nat.beq k x && decide (Int32.ofInt n = v) && decide (x < nL)
  | .ifCond _ off => Nat.beq len 3 && decide ((pc : Int) + off = (x : Int))
  | .if_icmp _ off => Nat.beq len 3 && decide ((pc : Int) + off = (x : Int))
  | .goto off => decide ((pc : Int) + off = (x : Int)) && Nat.beq len 3
  | .getfield idx => Nat.beq len 3 && decide ((idx, x, y) ∈ ft)
  | .putfield idx => Nat.beq len 3 && decide ((idx, x, y) ∈ ft)
  | .tableswitch d lo hi offs => decide ((pc : Int) + d = (x : Int)) && a_swok pc lo hi offs 0 sw
  | .invokevirtual idx => Nat.beq len 3 && decide (kd idx = some 0)
  | .invokestatic idx => Nat.beq len 3 && decide (kd idx = some 1)
  | .invokespecial idx => Nat.beq len 3 && decide (kd idx = some 2)
  | .ireturn => Nat.beq len 1 && a_rok .ireturn y ret
  | .lreturn => Nat.beq len 1 && a_rok .lreturn y ret
  | .areturn => Nat.beq len 1 && a_rok .areturn y ret
  | .return_ => Nat.beq len 1 && a_rok .return_ y ret
  | _ => Nat.beq len 1
section ASTEP
variable {p : Program} {l : Launch} {en : Env} {R : Room} {s : State} {m : MethodId} {args : Array Value} {below : List Frame} {meth : Method} {c : Code} {Q : State → Prop}
variable {dC : Nat → ClassId} {dI : Nat → Nat → Nat} {cI cZ cJ : ClassId} {ad : Nat → Nat} {A : Nat → Prop} {H0 : Heap} {cc : ByteArray} {nL ce sl : Nat} {own : String} {o : a_O} {ret : Option FieldType}
/-- to go on at a place of the small machine is to go on there in the large one -/
def a_Kok (p : Program) (l : Launch) (en : Env) (R : Room) (s : State) (m : MethodId) (args : Array Value) (below : List Frame) (meth : Method) (c : Code) (Q : State → Prop) (dC : Nat → ClassId) (dI : Nat → Nat → Nat) (cI cZ cJ : ClassId) (ad : Nat → Nat) (A : Nat → Prop) (H0 : Heap) (nL ce sl : Nat) (o : a_O) (K : a_K) : Prop :=
  ∀ (pc : Nat) (L st : List Value) (S : a_M) (H : Heap) (locs : List Loc) (ls : Array Slot), K pc L st S = some o → a_lo ad ls nL L → va_P (dC, dI) vwCl (a_ws cI cZ cJ ad S) H → va_S A H0 H locs → W p l en R s m args below meth c H locs ce sl Q (F0 m pc ls (st.map (a_cv ad)))
/-- a call at a place of the pool -/
def a_Cl (p : Program) (l : Launch) (en : Env) (R : Room) (s : State) (m : MethodId) (args : Array Value) (below : List Frame) (meth : Method) (c : Code) (Q : State → Prop) (dC : Nat → ClassId) (dI : Nat → Nat → Nat) (cI cZ cJ : ClassId) (ad : Nat → Nat) (A : Nat → Prop) (H0 : Heap) (cc : ByteArray) (nL ce sl : Nat) (kd idx na : Nat) (f : a_F) : Prop :=
  ∀ (i : Instr) (pc : Nat) (ls : Array Slot) (vs rest : List Value) (S : a_M) (q : a_O) (H : Heap) (locs : List Loc), ((kd = 0 ∧ i = .invokevirtual idx) ∨ (kd = 1 ∧ i = .invokestatic idx) ∨ (kd = 2 ∧ i = .invokespecial idx)) → decode cc pc = .ok (i, 3) → vs.length = na → a_cats rest ≤ 8 → f vs S = some q → ls.size = nL →
    va_P (dC, dI) vwCl (a_ws cI cZ cJ ad S) H → va_S A H0 H locs →
    (∀ (H1 : Heap) (locs1 : List Loc), va_P (dC, dI) vwCl (a_ws cI cZ cJ ad q.2) H1 → va_S A H0 H1 locs1 → W p l en R s m args below meth c H1 locs1 ce sl Q (F0 m (pc + 3) ls ((q.1.toList ++ rest).map (a_cv ad)))) →
    W p l en R s m args below meth c H locs ce sl Q (F0 m pc ls ((vs.reverse ++ rest).map (a_cv ad)))
theorem a_ws_D {S : a_M} (hJ : ∀ i j, i < 103 → j < 103 → ad i = ad j → i = j) (hA : ∀ k, k < 103 → A (ad k)) : va_D A (a_ws cI cZ cJ ad S) := by
  refine ⟨fun i j x y hi hj hxy => ?_, fun k q hk => ?_⟩
  · obtain ⟨h1, e1⟩ := a_ws_lt hi
    obtain ⟨h2, e2⟩ := a_ws_lt hj
    exact hJ i j h1 h2 (by rw [← e1, ← e2]; exact hxy)
  · obtain ⟨h1, e1⟩ := a_ws_lt hk
    rw [e1]; exact hA k h1
theorem a_sw_W (hx : p.tables.exec = Jvm.exec) (hb : c.code = cc) {K : a_K} {pc len x : Nat} {d lo hi : Int} {offs : Array Int} {a : Int32} {L r : List Value} {S : a_M} {H : Heap} {locs : List Loc} {ls : Array Slot} (hd : decode cc pc = .ok (.tableswitch d lo hi offs, len)) (hdx : (pc : Int) + d = (x : Int))
    (kk : ∀ t : Nat, K t L r S = some o → W p l en R s m args below meth c H locs ce sl Q (F0 m t ls (r.map (a_cv ad)))) :
    ∀ (sw : List (Int32 × Nat)) (j : Nat), a_swok pc lo hi offs j sw = true → (a.toInt < lo ∨ lo + (j : Int) ≤ a.toInt) → a_swi a (fun t => K t L r S) x sw = some o → W p l en R s m args below meth c H locs ce sl Q (F0 m pc ls (.int a :: r.map (a_cv ad)))
  | [], j, hok, hj, h => by
    simp only [a_swok, decide_eq_true_eq] at hok
    exact lv_tableOut hx hb hd (by omega) hdx (kk x h)
  | (c0, t) :: sw, j, hok, hj, h => by
    simp only [a_swok, Bool.and_eq_true, decide_eq_true_eq] at hok
    obtain ⟨⟨⟨h1, h2⟩, h3⟩, h4⟩ := hok
    by_cases hac : a = c0
    · subst hac
      simp only [a_swi, if_true] at h
      have h5 : (a.toInt - lo).toNat = j := by rw [h1]; omega
      exact lv_tableIn hx hb hd (by omega) (by omega) (by rw [h5]; exact h3) (tgt := t) (by omega) (kk t h)
    · simp only [a_swi, if_neg hac] at h
      refine a_sw_W hx hb hd hdx kk sw (j + 1) h4 ?_ h
      have : a.toInt ≠ c0.toInt := fun q => hac (Int32.toInt_inj.mp q)
      omega
end ASTEP
