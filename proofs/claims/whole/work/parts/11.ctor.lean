/-! ===== the constructors: a machine of straight lines over a growing list of cells ===== -/
abbrev a_Cel : Type := Nat × Nat × List Value
abbrev a_F2 : Type := List Value → List a_Cel → Option (List a_Cel)
abbrev a_C2 : Type := Nat → Option (Nat × a_F2)
def a_dv (k : Nat) : Value := match k with
  | 0 => .int 0
  | 1 => .long 0
  | 2 => .int 0
  | _ => .null
def a_cz (c : a_Cel) : Nat := bif Nat.beq c.1 0 then c.2.2.length else c.2.1
def a_sz (w : List a_Cel) : Nat := (w.map a_cz).sum
def a_nat (t : ArrayType) : Nat := match t with
  | .int => 1
  | .boolean => 2
  | .long => 3
  | _ => 9
def a_ev2 (tab : Nat → Option a_E) (cb : a_C2) : Nat → Nat → List Value → List Value → List a_Cel → Option (List a_Cel)
  | 0, _, _, _, _ => none
  | n + 1, pc, L, st, w => match tab pc with
    | none => none
    | some (i, len, x, y, v, _, _, _) => match i with
      | .iconst _ => a_ev2 tab cb n (pc + len) L (.int v :: st) w
      | .bipush _ => a_ev2 tab cb n (pc + len) L (.int v :: st) w
      | .sipush _ => a_ev2 tab cb n (pc + len) L (.int v :: st) w
      | .aload _ => match a_lk L x with | .ref a => a_ev2 tab cb n (pc + len) L (.ref a :: st) w | _ => none
      | .aload_n _ => match a_lk L x with | .ref a => a_ev2 tab cb n (pc + len) L (.ref a :: st) w | _ => none
      | .dup => match st with | .ref a :: r => a_ev2 tab cb n (pc + len) L (.ref a :: .ref a :: r) w | _ => none
      | .new _ => a_ev2 tab cb n (pc + len) L (.ref w.length :: st) (w ++ [(0, x, (List.range (a_nf x)).map (fun j => a_dv (a_fk x j)))])
      | .newarray t => match st with
        | .int k :: r => bif decide (¬ k < 0) && Nat.ble k.toNatClampNeg 10000 && Nat.ble (a_nat t) 3 then a_ev2 tab cb n (pc + len) L (.ref w.length :: r) (w ++ [(a_nat t, k.toNatClampNeg, [])]) else none
        | _ => none
      | .putfield _ => match st with
        | .ref q :: .ref k :: r => (match w[k]? with
          | some (0, ci, fs) => bif Nat.beq ci x && Nat.beq (a_fk x y) 3 && Nat.blt y fs.length then a_ev2 tab cb n (pc + len) L r (w.set k (0, ci, fs.set y (.ref q))) else none
          | _ => none)
        | .int q :: .ref k :: r => (match w[k]? with
          | some (0, ci, fs) => bif Nat.beq ci x && Nat.beq (a_fk x y) 2 && Nat.blt y fs.length && decide (q = 0) then a_ev2 tab cb n (pc + len) L r (w.set k (0, ci, fs.set y (.int 0))) else none
          | _ => none)
        | _ => none
      | .getfield _ => match st with
        | .ref k :: r => (match w[k]? with
          | some (0, ci, fs) => (match fs[y]? with
            | some (.ref q) => bif Nat.beq ci x then a_ev2 tab cb n (pc + len) L (.ref q :: r) w else none
            | _ => none)
          | _ => none)
        | _ => none
      | .invokespecial idx => bif Nat.beq y 1 then (match st with
          | .ref _ :: r => bif Nat.ble (a_cats r) 8 then a_ev2 tab cb n (pc + len) L r w else none
          | _ => none)
        else (match cb idx with
          | some (na, f) => bif Nat.ble na st.length && Nat.ble (a_cats (st.drop na)) 8 then (match f (st.take na).reverse w with
            | some w' => a_ev2 tab cb n (pc + len) L (st.drop na) w'
            | none => none) else none
          | none => none)
      | .return_ => match st with | [] => some w | _ => none
      | _ => none
def a_grow (f : a_F2) : Prop := ∀ vs w w', f vs w = some w' → w.length ≤ w'.length ∧ a_sz w ≤ a_sz w'
theorem a_sz_app (w : List a_Cel) (c : a_Cel) : a_sz (w ++ [c]) = a_sz w + a_cz c := by simp [a_sz]
theorem a_sz_set {w : List a_Cel} {k : Nat} {c c' : a_Cel} (h : w[k]? = some c) (hc : a_cz c' = a_cz c) : a_sz (w.set k c') = a_sz w := by
  unfold a_sz
  rw [List.map_set, hc]
  have hk : (w.map a_cz)[k]? = some (a_cz c) := by rw [List.getElem?_map, h]; rfl
  have hlt := (List.getElem?_eq_some_iff.mp hk).1
  have : (w.map a_cz).set k (a_cz c) = w.map a_cz := by
    apply List.ext_getElem?
    intro j
    by_cases hj : j = k
    · subst hj; rw [List.getElem?_set_self hlt, hk]
    · rw [List.getElem?_set_ne (Ne.symm hj)]
  rw [this]
theorem a_ev2_grow {tab : Nat → Option a_E} {cb : a_C2} (hcb : ∀ idx na f, cb idx = some (na, f) → a_grow f) (n : Nat) : ∀ (pc : Nat) (L st : List Value) (w w' : List a_Cel), a_ev2 tab cb n pc L st w = some w' → w.length ≤ w'.length ∧ a_sz w ≤ a_sz w' := by
  induction n with
  | zero => intro pc L st w w' h; cases h
  | succ n ih =>
    intro pc L st w w' h
    have push : ∀ {c : a_Cel} {pc' : Nat} {L' st' : List Value}, a_ev2 tab cb n pc' L' st' (w ++ [c]) = some w' → w.length ≤ w'.length ∧ a_sz w ≤ a_sz w' := by
      intro c pc' L' st' h
      have := ih _ _ _ _ _ h
      rw [a_sz_app, List.length_append] at this
      exact ⟨by have := this.1; simp only [List.length_cons, List.length_nil] at this; omega, by omega⟩
    have put : ∀ {k : Nat} {c c' : a_Cel} {pc' : Nat} {L' st' : List Value}, w[k]? = some c → a_cz c' = a_cz c → a_ev2 tab cb n pc' L' st' (w.set k c') = some w' → w.length ≤ w'.length ∧ a_sz w ≤ a_sz w' := by
      intro k c c' pc' L' st' h1 h2 h
      have := ih _ _ _ _ _ h
      rw [a_sz_set h1 h2, List.length_set] at this
      exact this
    unfold a_ev2 at h
    split at h
    · cases h
    · split at h
      · exact ih _ _ _ _ _ h
      · exact ih _ _ _ _ _ h
      · exact ih _ _ _ _ _ h
      · split at h
        · exact ih _ _ _ _ _ h
        · cases h
      · split at h
        · exact ih _ _ _ _ _ h
        · cases h
      · split at h
        · exact ih _ _ _ _ _ h
        · cases h
      · exact push h
      · split at h
        · rename_i k r
          cases hb : (decide (¬ k < 0) && Nat.ble k.toNatClampNeg 10000 && Nat.ble (a_nat _) 3) with
          | false => rw [hb] at h; cases h
          | true => rw [hb] at h; exact push h
        · cases h
      · split at h
        · split at h
          · rename_i ci fs hw
            rw [Bool.cond_eq_ite] at h
            split at h
            · exact put hw (by simp [a_cz]) h
            · cases h
          · cases h
        · split at h
          · rename_i ci fs hw
            rw [Bool.cond_eq_ite] at h
            split at h
            · exact put hw (by simp [a_cz]) h
            · cases h
          · cases h
        · cases h
      · split at h
        · split at h
          · split at h
            · rw [Bool.cond_eq_ite] at h
              split at h
              · exact ih _ _ _ _ _ h
              · cases h
            · cases h
          · cases h
        · cases h
      · rw [Bool.cond_eq_ite] at h
        split at h
        · split at h
          · rw [Bool.cond_eq_ite] at h
            split at h
            · exact ih _ _ _ _ _ h
            · cases h
          · cases h
        · split at h
          · rename_i na f hcbi
            rw [Bool.cond_eq_ite] at h
            split at h
            · split at h
              · rename_i w1 hf
                have h1 := hcb _ _ _ hcbi _ _ _ hf
                have h2 := ih _ _ _ _ _ h
                exact ⟨Nat.le_trans h1.1 h2.1, Nat.le_trans h1.2 h2.2⟩
              · cases h
            · cases h
          · cases h
      · split at h
        · cases h; exact ⟨Nat.le_refl _, Nat.le_refl _⟩
        · cases h
      · cases h
