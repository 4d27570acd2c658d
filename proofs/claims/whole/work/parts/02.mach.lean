/-! ===== a small machine over the cells of both objects: its states are numbers, its steps are those of the bytecode ===== -/
abbrev a_M : Type := (Nat → Nat → Int32) × (Nat → Nat → Int64)
abbrev a_O : Type := Option Value × a_M
abbrev a_F : Type := List Value → a_M → Option a_O
abbrev a_E : Type := Instr × Nat × Nat × Nat × Int32 × Int64 × List (Int32 × Nat) × List Bool
abbrev a_K : Type := Nat → List Value → List Value → a_M → Option a_O
abbrev a_C : Type := Nat → Option (Nat × Nat × a_F)
abbrev a_Sc : Type := Option (Nat × (Nat → Int32))
def a_wi (S : a_M) (k i : Nat) (v : Int32) : a_M := (fun a => if a = k then upd (S.1 k) i v else S.1 a, S.2)
def a_wl (S : a_M) (k i : Nat) (v : Int64) : a_M := (S.1, fun a => if a = k then vp_updL (S.2 k) i v else S.2 a)
def a_e0 (i : Instr) (len : Nat) : a_E := (i, len, 0, 0, 0, 0, [], [])
def a_ex (i : Instr) (len x : Nat) : a_E := (i, len, x, 0, 0, 0, [], [])
def a_exy (i : Instr) (len x y : Nat) : a_E := (i, len, x, y, 0, 0, [], [])
def a_ev0 (i : Instr) (len : Nat) (v : Int32) : a_E := (i, len, 0, 0, v, 0, [], [])
def a_exv (i : Instr) (len x : Nat) (v : Int32) : a_E := (i, len, x, 0, v, 0, [], [])
def a_ew (i : Instr) (len : Nat) (w : Int64) : a_E := (i, len, 0, 0, 0, w, [], [])
def a_esw (i : Instr) (len x : Nat) (l : List (Int32 × Nat)) : a_E := (i, len, x, 0, 0, 0, l, [])
def a_msk (e : a_E) (m : List Bool) : a_E := (e.1, e.2.1, e.2.2.1, e.2.2.2.1, e.2.2.2.2.1, e.2.2.2.2.2.1, e.2.2.2.2.2.2.1, m)
def a_lk (L : List Value) (k : Nat) : Value := L.getD k .null
def a_isl : Value → Bool
  | .long _ => true
  | .double _ => true
  | _ => false
def a_kill (L : List Value) : Nat → List Value
  | 0 => L
  | j + 1 => bif a_isl (L.getD j .null) then L.set j .null else L
def a_s1 (L : List Value) (k : Nat) (v : Value) : List Value := (a_kill L k).set k v
def a_s2 (L : List Value) (k : Nat) (v : Value) : List Value := ((a_kill L k).set k v).set (k + 1) .null
def a_cats : List Value → Nat
  | [] => 0
  | v :: l => (bif a_isl v then 2 else 1) + a_cats l
def a_mk : List Bool → List Value → List Value
  | [], L => L
  | b :: m, L => match L with
    | [] => []
    | v :: l => (bif b then v else .null) :: (match m with | [] => l.map (fun _ => .null) | _ => a_mk m l)
def a_if (c : Jvm.ClassFile.Cond) (a b : Int32) (A B : Option a_O) : Option a_O := match c with
  | .eq => if a = b then A else B
  | .ne => if a = b then B else A
  | .lt => if a < b then A else B
  | .ge => if a < b then B else A
  | .gt => if b < a then A else B
  | .le => if b < a then B else A
def a_swi (a : Int32) (T : Nat → Option a_O) (d : Nat) : List (Int32 × Nat) → Option a_O
  | [] => T d
  | (c, t) :: l => if a = c then T t else a_swi a T d l
def a_rv (i : Instr) (y : Nat) (st : List Value) : Option (Option Value) := match i with
  | .ireturn => match st with
    | [.int v] => bif Nat.beq y 0 then some (some (.int v)) else (if v = 0 ∨ v = 1 then some (some (.int v)) else none)
    | _ => none
  | .lreturn => match st with
    | [.long v] => some (some (.long v))
    | _ => none
  | .areturn => match st with
    | [.ref v] => some (some (.ref v))
    | _ => none
  | .return_ => match st with
    | [] => some none
    | _ => none
  | _ => none
def a_gf (S : a_M) (k x y : Nat) : Option Value := match a_ds k with
  | (0, ci) => bif Nat.beq ci x then (match a_fk x y with
    | 0 => some (.int (S.1 k y))
    | 1 => some (.long (S.2 k y))
    | 2 => some (.int (S.1 k y))
    | 3 => some (.ref (a_rf k y))
    | _ => none) else none
  | _ => none
def a_pf (S : a_M) (k x y : Nat) (v : Value) (A : a_M → Option a_O) : Option a_O := match a_ds k with
  | (0, ci) => bif Nat.beq ci x then (match a_fk x y, v with
    | 0, .int a => A (a_wi S k y a)
    | 1, .long a => A (a_wl S k y a)
    | 2, .int a => if a = 0 ∨ a = 1 then A (a_wi S k y a) else none
    | _, _ => none) else none
  | _ => none
def a_ald (sc : a_Sc) (S : a_M) (k : Nat) (i : Int32) (A : Int32 → Option a_O) : Option a_O := match a_ds k with
  | (1, n) => if i < 0 ∨ n ≤ i.toNatClampNeg then none else A (S.1 k i.toNatClampNeg)
  | (4, _) => (match sc with
    | some (n, f) => if i < 0 ∨ n ≤ i.toNatClampNeg then none else A (f i.toNatClampNeg)
    | none => none)
  | _ => none
def a_zld (S : a_M) (k : Nat) (i : Int32) (A : Int32 → Option a_O) : Option a_O := match a_ds k with
  | (2, n) => if i < 0 ∨ n ≤ i.toNatClampNeg then none else A (S.1 k i.toNatClampNeg)
  | _ => none
def a_lld (S : a_M) (k : Nat) (i : Int32) (A : Int64 → Option a_O) : Option a_O := match a_ds k with
  | (3, n) => if i < 0 ∨ n ≤ i.toNatClampNeg then none else A (S.2 k i.toNatClampNeg)
  | _ => none
def a_ast (S : a_M) (k : Nat) (i v : Int32) (A : a_M → Option a_O) : Option a_O := match a_ds k with
  | (1, n) => if i < 0 ∨ n ≤ i.toNatClampNeg then none else A (a_wi S k i.toNatClampNeg v)
  | _ => none
def a_zst (S : a_M) (k : Nat) (i v : Int32) (A : a_M → Option a_O) : Option a_O := match a_ds k with
  | (2, n) => if i < 0 ∨ n ≤ i.toNatClampNeg then none else A (a_wi S k i.toNatClampNeg (vp_nar .boolean v))
  | _ => none
def a_lst (S : a_M) (k : Nat) (i : Int32) (v : Int64) (A : a_M → Option a_O) : Option a_O := match a_ds k with
  | (3, n) => if i < 0 ∨ n ≤ i.toNatClampNeg then none else A (a_wl S k i.toNatClampNeg v)
  | _ => none
def a_len (sc : a_Sc) (k : Nat) : Option Int32 := match a_ds k with
  | (1, n) => some (Int32.ofNat n)
  | (2, n) => some (Int32.ofNat n)
  | (3, n) => some (Int32.ofNat n)
  | (4, _) => (match sc with
    | some (n, _) => some (Int32.ofNat n)
    | none => none)
  | _ => none
def a_call (cb : a_C) (idx : Nat) (st : List Value) (S : a_M) (A : List Value → a_M → Option a_O) : Option a_O := match cb idx with
  | some (_, na, f) => bif Nat.ble na st.length && Nat.ble (a_cats (st.drop na)) 8 then (f (st.take na).reverse S).bind (fun q => A (q.1.toList ++ st.drop na) q.2) else none
  | none => none
/-- one step: K goes on in the line, KC behind a call -/
def a_stp (sc : a_Sc) (cb : a_C) (K KC : a_K) (e : a_E) (pc : Nat) (L st : List Value) (S : a_M) : Option a_O := match e with
  | (i, len, x, y, v, w, sw, _) => match i with
  | .iconst _ => K (pc + len) L (.int v :: st) S
  | .bipush _ => K (pc + len) L (.int v :: st) S
  | .sipush _ => K (pc + len) L (.int v :: st) S
  | .ldc _ => K (pc + len) L (.int v :: st) S
  | .ldc_w _ => K (pc + len) L (.int v :: st) S
  | .lconst _ => K (pc + len) L (.long w :: st) S
  | .ldc2_w _ => K (pc + len) L (.long w :: st) S
  | .iload _ => match a_lk L x with | .int a => K (pc + len) L (.int a :: st) S | _ => none
  | .iload_n _ => match a_lk L x with | .int a => K (pc + len) L (.int a :: st) S | _ => none
  | .lload _ => match a_lk L x with | .long a => K (pc + len) L (.long a :: st) S | _ => none
  | .lload_n _ => match a_lk L x with | .long a => K (pc + len) L (.long a :: st) S | _ => none
  | .aload _ => match a_lk L x with | .ref a => K (pc + len) L (.ref a :: st) S | _ => none
  | .aload_n _ => match a_lk L x with | .ref a => K (pc + len) L (.ref a :: st) S | _ => none
  | .istore _ => match st with | .int a :: r => K (pc + len) (a_s1 L x (.int a)) r S | _ => none
  | .istore_n _ => match st with | .int a :: r => K (pc + len) (a_s1 L x (.int a)) r S | _ => none
  | .lstore _ => match st with | .long a :: r => K (pc + len) (a_s2 L x (.long a)) r S | _ => none
  | .lstore_n _ => match st with | .long a :: r => K (pc + len) (a_s2 L x (.long a)) r S | _ => none
  | .astore _ => match st with | .ref a :: r => K (pc + len) (a_s1 L x (.ref a)) r S | _ => none
  | .astore_n _ => match st with | .ref a :: r => K (pc + len) (a_s1 L x (.ref a)) r S | _ => none
  | .iinc _ _ => match a_lk L x with | .int a => K (pc + len) (a_s1 L x (.int (a + v))) st S | _ => none
  | .iadd => match st with | .int b :: .int a :: r => K (pc + len) L (.int (a + b) :: r) S | _ => none
  | .isub => match st with | .int b :: .int a :: r => K (pc + len) L (.int (a - b) :: r) S | _ => none
  | .imul => match st with | .int b :: .int a :: r => K (pc + len) L (.int (a * b) :: r) S | _ => none
  | .iand => match st with | .int b :: .int a :: r => K (pc + len) L (.int (a &&& b) :: r) S | _ => none
  | .ior => match st with | .int b :: .int a :: r => K (pc + len) L (.int (a ||| b) :: r) S | _ => none
  | .idiv => match st with | .int b :: .int a :: r => if b = 0 then none else K (pc + len) L (.int (a / b) :: r) S | _ => none
  | .irem => match st with | .int b :: .int a :: r => if b = 0 then none else K (pc + len) L (.int (a - a / b * b) :: r) S | _ => none
  | .ishl => match st with | .int b :: .int a :: r => K (pc + len) L (.int (a <<< (b &&& 31)) :: r) S | _ => none
  | .ishr => match st with | .int b :: .int a :: r => K (pc + len) L (.int (a >>> (b &&& 31)) :: r) S | _ => none
  | .ladd => match st with | .long b :: .long a :: r => K (pc + len) L (.long (a + b) :: r) S | _ => none
  | .land => match st with | .long b :: .long a :: r => K (pc + len) L (.long (a &&& b) :: r) S | _ => none
  | .lor => match st with | .long b :: .long a :: r => K (pc + len) L (.long (a ||| b) :: r) S | _ => none
  | .lshl => match st with | .int b :: .long a :: r => K (pc + len) L (.long (a <<< (b.toInt64 &&& 63)) :: r) S | _ => none
  | .lshr => match st with | .int b :: .long a :: r => K (pc + len) L (.long (a >>> (b.toInt64 &&& 63)) :: r) S | _ => none
  | .i2l => match st with | .int a :: r => K (pc + len) L (.long a.toInt64 :: r) S | _ => none
  | .l2i => match st with | .long a :: r => K (pc + len) L (.int a.toInt32 :: r) S | _ => none
  | .lcmp => match st with | .long b :: .long a :: r => K (pc + len) L (.int (lg_cmp a b) :: r) S | _ => none
  | .dup => match st with | v0 :: r => bif a_isl v0 then none else K (pc + len) L (v0 :: v0 :: r) S | _ => none
  | .dup2 => match st with | v0 :: v1 :: r => bif a_isl v0 || a_isl v1 then none else K (pc + len) L (v0 :: v1 :: v0 :: v1 :: r) S | _ => none
  | .pop => match st with | v0 :: r => bif a_isl v0 then none else K (pc + len) L r S | _ => none
  | .ifCond c _ => match st with | .int a :: r => a_if c a 0 (K x L r S) (K (pc + len) L r S) | _ => none
  | .if_icmp c _ => match st with | .int b :: .int a :: r => a_if c a b (K x L r S) (K (pc + len) L r S) | _ => none
  | .goto _ => K x L st S
  | .getfield _ => match st with | .ref k :: r => (match a_gf S k x y with | some u => K (pc + len) L (u :: r) S | none => none) | _ => none
  | .putfield _ => match st with | v0 :: .ref k :: r => a_pf S k x y v0 (fun S' => K (pc + len) L r S') | _ => none
  | .iaload => match st with | .int j :: .ref k :: r => a_ald sc S k j (fun u => K (pc + len) L (.int u :: r) S) | _ => none
  | .baload => match st with | .int j :: .ref k :: r => a_zld S k j (fun u => K (pc + len) L (.int u :: r) S) | _ => none
  | .laload => match st with | .int j :: .ref k :: r => a_lld S k j (fun u => K (pc + len) L (.long u :: r) S) | _ => none
  | .iastore => match st with | .int u :: .int j :: .ref k :: r => a_ast S k j u (fun S' => K (pc + len) L r S') | _ => none
  | .bastore => match st with | .int u :: .int j :: .ref k :: r => a_zst S k j u (fun S' => K (pc + len) L r S') | _ => none
  | .lastore => match st with | .long u :: .int j :: .ref k :: r => a_lst S k j u (fun S' => K (pc + len) L r S') | _ => none
  | .arraylength => match st with | .ref k :: r => (match a_len sc k with | some u => K (pc + len) L (.int u :: r) S | none => none) | _ => none
  | .tableswitch _ _ _ _ => match st with | .int a :: r => a_swi a (fun t => K t L r S) x sw | _ => none
  | .invokevirtual idx => a_call cb idx st S (fun st' S' => KC (pc + len) L st' S')
  | .invokestatic idx => a_call cb idx st S (fun st' S' => KC (pc + len) L st' S')
  | .invokespecial idx => a_call cb idx st S (fun st' S' => KC (pc + len) L st' S')
  | .ireturn => (a_rv .ireturn y st).map (fun r => (r, S))
  | .lreturn => (a_rv .lreturn y st).map (fun r => (r, S))
  | .areturn => (a_rv .areturn y st).map (fun r => (r, S))
  | .return_ => (a_rv .return_ y st).map (fun r => (r, S))
  | _ => none
def a_mo (e : a_E) : List Bool := e.2.2.2.2.2.2.2
def a_ev (sc : a_Sc) (tab : Nat → Option a_E) (cb : a_C) : Nat → a_K
  | 0 => fun _ _ _ _ => none
  | n + 1 => fun pc L st S => match tab pc with
    | none => none
    | some e => a_stp sc cb (a_ev sc tab cb n) (a_ev sc tab cb n) e pc (a_mk (a_mo e) L) st S
noncomputable def a_run {α : Type} (f : Nat → Option α) : Option α := by
  classical
  exact if h : ∃ n, (f n).isSome = true then f h.choose else none
noncomputable def a_G (sc : a_Sc) (tab : Nat → Option a_E) (cb : a_C) : a_K := fun pc L st S => a_run (fun n => a_ev sc tab cb n pc L st S)
/-- some steps in the line, to a cut -/
def a_evK (sc : a_Sc) (tab : Nat → Option a_E) (cb : a_C) (cut : Nat → Bool) (K : a_K) : Nat → a_K
  | 0 => K
  | n + 1 => fun pc L st S => bif cut pc then K pc L st S else match tab pc with
    | none => none
    | some e => a_stp sc cb (a_evK sc tab cb cut K n) K e pc (a_mk (a_mo e) L) st S
theorem a_swi_form (a : Int32) (d : Nat) (sw : List (Int32 × Nat)) : ∃ t, ∀ T : Nat → Option a_O, a_swi a T d sw = T t := by
  induction sw with
  | nil => exact ⟨d, fun _ => rfl⟩
  | cons q l ih =>
    obtain ⟨t, ht⟩ := ih
    obtain ⟨c, t0⟩ := q
    by_cases h : a = c
    · exact ⟨t0, fun T => by simp [a_swi, h]⟩
    · exact ⟨t, fun T => by simp [a_swi, h, ht]⟩
def a_form (F : a_K → Option a_O) : Prop := (∃ o, ∀ K, F K = o) ∨ ∃ pc L st S, ∀ K : a_K, F K = K pc L st S
theorem a_form_c (o : Option a_O) : a_form (fun _ => o) := Or.inl ⟨o, fun _ => rfl⟩
theorem a_form_k (pc : Nat) (L st : List Value) (S : a_M) : a_form (fun K => K pc L st S) := Or.inr ⟨pc, L, st, S, fun _ => rfl⟩
theorem a_form_ite {c : Prop} [Decidable c] {A B : a_K → Option a_O} (hA : a_form A) (hB : a_form B) : a_form (fun K => if c then A K else B K) := by
  by_cases h : c
  · simp only [if_pos h]; exact hA
  · simp only [if_neg h]; exact hB
theorem a_form_b {c : Bool} {A B : a_K → Option a_O} (hA : a_form A) (hB : a_form B) : a_form (fun K => bif c then A K else B K) := by
  cases c
  · exact hB
  · exact hA
theorem a_form_bind (f : Option a_O) {A : a_O → a_K → Option a_O} (h : ∀ q, a_form (A q)) : a_form (fun K => f.bind (fun q => A q K)) := by
  cases f with
  | none => exact a_form_c none
  | some q => exact h q
set_option maxHeartbeats 4000000 in
theorem a_stp_form (sc : a_Sc) (cb : a_C) (e : a_E) (pc : Nat) (L st : List Value) (S : a_M) : a_form (fun K => a_stp sc cb K K e pc L st S) := by
  obtain ⟨i, len, x, y, v, w, sw, mk⟩ := e
  cases i
  case tableswitch =>
    simp only [a_stp]
    split
    · rename_i a r
      obtain ⟨t, ht⟩ := a_swi_form a x sw
      exact Or.inr ⟨t, L, r, S, fun K => ht (fun t => K t L r S)⟩
    · exact a_form_c _
  case invokevirtual =>
    simp only [a_stp, a_call]
    split
    · exact a_form_b (a_form_bind _ (fun q => a_form_k _ _ _ _)) (a_form_c _)
    · exact a_form_c _
  case invokestatic =>
    simp only [a_stp, a_call]
    split
    · exact a_form_b (a_form_bind _ (fun q => a_form_k _ _ _ _)) (a_form_c _)
    · exact a_form_c _
  case invokespecial =>
    simp only [a_stp, a_call]
    split
    · exact a_form_b (a_form_bind _ (fun q => a_form_k _ _ _ _)) (a_form_c _)
    · exact a_form_c _
  case putfield =>
    simp only [a_stp, a_pf]
    split
    · split
      · refine a_form_b ?_ (a_form_c _)
        split
        · exact a_form_k _ _ _ _
        · exact a_form_k _ _ _ _
        · exact a_form_ite (a_form_k _ _ _ _) (a_form_c _)
        · exact a_form_c _
      · exact a_form_c _
    · exact a_form_c _
  case ifCond c o =>
    simp only [a_stp]
    split
    · cases c <;> exact a_form_ite (a_form_k _ _ _ _) (a_form_k _ _ _ _)
    · exact a_form_c _
  case if_icmp c o =>
    simp only [a_stp]
    split
    · cases c <;> exact a_form_ite (a_form_k _ _ _ _) (a_form_k _ _ _ _)
    · exact a_form_c _
  case getfield =>
    simp only [a_stp]
    split
    · split
      · exact a_form_k _ _ _ _
      · exact a_form_c _
    · exact a_form_c _
  case arraylength =>
    simp only [a_stp]
    split
    · split
      · exact a_form_k _ _ _ _
      · exact a_form_c _
    · exact a_form_c _
  case dup =>
    simp only [a_stp]
    split
    · exact a_form_b (a_form_c _) (a_form_k _ _ _ _)
    · exact a_form_c _
  case dup2 =>
    simp only [a_stp]
    split
    · exact a_form_b (a_form_c _) (a_form_k _ _ _ _)
    · exact a_form_c _
  case pop =>
    simp only [a_stp]
    split
    · exact a_form_b (a_form_c _) (a_form_k _ _ _ _)
    · exact a_form_c _
  case iaload =>
    simp only [a_stp, a_ald]
    split
    · split
      · exact a_form_ite (a_form_c _) (a_form_k _ _ _ _)
      · split
        · exact a_form_ite (a_form_c _) (a_form_k _ _ _ _)
        · exact a_form_c _
      · exact a_form_c _
    · exact a_form_c _
  all_goals first
    | exact a_form_c _
    | exact a_form_k _ _ _ _
    | (simp only [a_stp, a_zld, a_lld, a_ast, a_zst, a_lst]
       split
       · first
         | exact a_form_k _ _ _ _
         | exact a_form_ite (a_form_c _) (a_form_k _ _ _ _)
         | (split
            · exact a_form_ite (a_form_c _) (a_form_k _ _ _ _)
            · exact a_form_c _)
       · exact a_form_c _)
theorem a_stp_or (sc : a_Sc) (cb : a_C) (e : a_E) (pc : Nat) (L st : List Value) (S : a_M) : (∃ o, ∀ K : a_K, a_stp sc cb K K e pc L st S = o) ∨ ∃ pc' L' st' S', ∀ K : a_K, a_stp sc cb K K e pc L st S = K pc' L' st' S' := a_stp_form sc cb e pc L st S
theorem a_ev_succ (sc : a_Sc) (tab : Nat → Option a_E) (cb : a_C) (n pc : Nat) (L st : List Value) (S : a_M) : a_ev sc tab cb (n + 1) pc L st S = match tab pc with
    | none => none
    | some e => a_stp sc cb (a_ev sc tab cb n) (a_ev sc tab cb n) e pc (a_mk (a_mo e) L) st S := rfl
theorem a_ev_mono (sc : a_Sc) (tab : Nat → Option a_E) (cb : a_C) (n : Nat) : ∀ (pc : Nat) (L st : List Value) (S : a_M) (o : a_O), a_ev sc tab cb n pc L st S = some o → a_ev sc tab cb (n + 1) pc L st S = some o := by
  induction n with
  | zero => intro pc L st S o h; cases h
  | succ n ih =>
    intro pc L st S o h
    rw [a_ev_succ] at h ⊢
    cases ht : tab pc with
    | none => rw [ht] at h; cases h
    | some e =>
      rw [ht] at h
      dsimp only at h ⊢
      rcases a_stp_or sc cb e pc (a_mk (a_mo e) L) st S with ⟨o', ho⟩ | ⟨pc', L', st', S', hk⟩
      · rw [ho] at h ⊢; exact h
      · rw [hk] at h ⊢; exact ih _ _ _ _ _ h
theorem a_ev_add (sc : a_Sc) (tab : Nat → Option a_E) (cb : a_C) (n k pc : Nat) (L st : List Value) (S : a_M) (o : a_O) (h : a_ev sc tab cb n pc L st S = some o) : a_ev sc tab cb (n + k) pc L st S = some o := by
  induction k with
  | zero => exact h
  | succ k ih => exact a_ev_mono sc tab cb (n + k) _ _ _ _ _ ih
theorem a_run_spec {α : Type} (f : Nat → Option α) (hm : ∀ n k o, f n = some o → f (n + k) = some o) (o : α) : a_run f = some o ↔ ∃ n, f n = some o := by
  unfold a_run
  constructor
  · intro h
    split at h
    · exact ⟨_, h⟩
    · cases h
  · rintro ⟨n, hn⟩
    have hex : ∃ n, (f n).isSome = true := ⟨n, by rw [hn]; rfl⟩
    rw [dif_pos hex]
    obtain ⟨o', ho'⟩ := Option.isSome_iff_exists.mp hex.choose_spec
    have h1 := hm n hex.choose o hn
    have h2 := hm hex.choose n o' ho'
    rw [Nat.add_comm] at h2
    rw [h1] at h2
    rw [ho']
    exact h2.symm
theorem a_G_some (sc : a_Sc) (tab : Nat → Option a_E) (cb : a_C) (pc : Nat) (L st : List Value) (S : a_M) (o : a_O) : a_G sc tab cb pc L st S = some o ↔ ∃ n, a_ev sc tab cb n pc L st S = some o :=
  a_run_spec _ (fun n k o h => a_ev_add sc tab cb n k pc L st S o h) o
theorem a_G_eq (sc : a_Sc) (tab : Nat → Option a_E) (cb : a_C) (pc : Nat) (L st : List Value) (S : a_M) : a_G sc tab cb pc L st S = match tab pc with
    | none => none
    | some e => a_stp sc cb (a_G sc tab cb) (a_G sc tab cb) e pc (a_mk (a_mo e) L) st S := by
  apply Option.ext
  intro o
  show a_G sc tab cb pc L st S = some o ↔ _ = some o
  rw [a_G_some]
  cases ht : tab pc with
  | none =>
    constructor
    · rintro ⟨n, hn⟩
      cases n with
      | zero => cases hn
      | succ n => rw [a_ev_succ, ht] at hn; cases hn
    · intro h; cases h
  | some e =>
    dsimp only
    rcases a_stp_or sc cb e pc (a_mk (a_mo e) L) st S with ⟨o', ho⟩ | ⟨pc', L', st', S', hk⟩
    · rw [ho]
      constructor
      · rintro ⟨n, hn⟩
        cases n with
        | zero => cases hn
        | succ n => rw [a_ev_succ, ht] at hn; dsimp only at hn; rw [ho] at hn; exact hn
      · intro h
        exact ⟨1, by rw [a_ev_succ, ht]; dsimp only; rw [ho]; exact h⟩
    · rw [hk, a_G_some]
      constructor
      · rintro ⟨n, hn⟩
        cases n with
        | zero => cases hn
        | succ n => rw [a_ev_succ, ht] at hn; dsimp only at hn; rw [hk] at hn; exact ⟨n, hn⟩
      · rintro ⟨n, hn⟩
        exact ⟨n + 1, by rw [a_ev_succ, ht]; dsimp only; rw [hk]; exact hn⟩
theorem a_evK_G (sc : a_Sc) (tab : Nat → Option a_E) (cb : a_C) (cut : Nat → Bool) (n : Nat) : a_evK sc tab cb cut (a_G sc tab cb) n = a_G sc tab cb := by
  induction n with
  | zero => rfl
  | succ n ih =>
    funext pc L st S
    show (bif cut pc then a_G sc tab cb pc L st S else match tab pc with
      | none => none
      | some e => a_stp sc cb (a_evK sc tab cb cut (a_G sc tab cb) n) (a_G sc tab cb) e pc (a_mk (a_mo e) L) st S) = _
    rw [ih, ← a_G_eq]
    cases cut pc <;> rfl
/-- G, unfolded to the cuts -/
theorem a_unf (sc : a_Sc) (tab : Nat → Option a_E) (cb : a_C) (cut : Nat → Bool) (n pc : Nat) (L st : List Value) (S : a_M) : a_G sc tab cb pc L st S = match tab pc with
    | none => none
    | some e => a_stp sc cb (a_evK sc tab cb cut (a_G sc tab cb) n) (a_G sc tab cb) e pc (a_mk (a_mo e) L) st S := by
  rw [a_evK_G]
  exact a_G_eq sc tab cb pc L st S
