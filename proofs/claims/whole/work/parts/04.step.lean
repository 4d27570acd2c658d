theorem a_in_of {i : Int32} {n : Nat} (h : ¬ (i < 0 ∨ n ≤ i.toNatClampNeg)) : vp_in i n := h
section ASTEP2
variable {p : Program} {l : Launch} {en : Env} {R : Room} {s : State} {m : MethodId} {args : Array Value} {below : List Frame} {meth : Method} {c : Code} {Q : State → Prop}
variable {dC : Nat → ClassId} {dI : Nat → Nat → Nat} {cI cZ cJ : ClassId} {ad : Nat → Nat} {A : Nat → Prop} {H0 : Heap} {cc : ByteArray} {nL ce sl : Nat} {own : String} {o : a_O} {ret : Option FieldType}
set_option maxHeartbeats 4000000 in
set_option maxRecDepth 10000 in
theorem a_step {ft : List (Nat × Nat × Nat)} {ct : List (Nat × Int32)} {lt : List (Nat × Int64)} {sc : a_Sc} {cb : a_C} {K KC : a_K} {e : a_E} {pc : Nat} {L st : List Value} {S : a_M} {H : Heap} {locs : List Loc} {ls : Array Slot}
    (hcx : CallFix p m c cc nL s args a_T own) (hnw : ∀ w ∈ a_N, va_Nw w s) (hK : va_K (dC, dI) vwCl [(cI, .int), (cZ, .boolean), (cJ, .long)] s) (hJ : ∀ i j, i < 103 → j < 103 → ad i = ad j → i = j) (hA : ∀ k, k < 103 → A (ad k))
    (hsc : ∀ q, sc = some q → va_X (ad 103) q.1 q.2 s H0 ∧ ad 103 < H0.size ∧ ¬ A (ad 103))
    (hft : ∀ q ∈ ft, a_CF own q.1 q.2.1 q.2.2) (hct : ∀ q ∈ ct, Jvm.Cond.constant own q.1 q.2 ∈ lw_tbl) (hlt : ∀ q ∈ lt, Jvm.Cond.constantLong own q.1 q.2 ∈ lw_tbl)
    (hcb : ∀ idx kd na f, cb idx = some (kd, na, f) → a_Cl p l en R s m args below meth c Q dC dI cI cZ cJ ad A H0 cc nL ce sl kd idx na f)
    (hret : ∀ (i : Instr) (y pc : Nat) (ls : Array Slot) (st : List Value) (r : Option Value) (H : Heap) (locs : List Loc), decode cc pc = .ok (i, 1) → a_rok i y ret = true → a_rv i y st = some r → r = o.1 → va_P (dC, dI) vwCl (a_ws cI cZ cJ ad o.2) H → va_S A H0 H locs → W p l en R s m args below meth c H locs ce sl Q (F0 m pc ls (st.map (a_cv ad))))
    (hKk : a_Kok p l en R s m args below meth c Q dC dI cI cZ cJ ad A H0 nL ce sl o K) (hKC : a_Kok p l en R s m args below meth c Q dC dI cI cZ cJ ad A H0 nL ce sl o KC)
    (hd : decode cc pc = .ok (e.1, e.2.1)) (hok : a_ok ft ct lt (fun i => (cb i).map (fun q => q.1)) ret nL pc e = true) (h : a_stp sc cb K KC e pc L st S = some o)
    (hl : a_lo ad ls nL L) (hP : va_P (dC, dI) vwCl (a_ws cI cZ cJ ad S) H) (hS : va_S A H0 H locs) : W p l en R s m args below meth c H locs ce sl Q (F0 m pc ls (st.map (a_cv ad))) := by
  have hD : va_D A (a_ws cI cZ cJ ad S) := a_ws_D hJ hA
  have hcx0 := hcx
  obtain ⟨hx, hb, hml, hown, hts⟩ := hcx
  obtain ⟨i, len, x, y, v, w, sw, mk⟩ := e
  dsimp only at hd
  have callx : ∀ (idx kd : Nat), ((kd = 0 ∧ i = .invokevirtual idx) ∨ (kd = 1 ∧ i = .invokestatic idx) ∨ (kd = 2 ∧ i = .invokespecial idx)) → len = 3 → (cb idx).map (fun q => q.1) = some kd → a_call cb idx st S (fun st' S' => KC (pc + len) L st' S') = some o → W p l en R s m args below meth c H locs ce sl Q (F0 m pc ls (st.map (a_cv ad))) := by
    intro idx kd hi hlen hkd h
    subst hlen
    unfold a_call at h
    cases hcbi : cb idx with
    | none => rw [hcbi] at h; cases h
    | some q =>
      obtain ⟨kd', na, f⟩ := q
      rw [hcbi] at h hkd
      have hkd : kd' = kd := Option.some.inj hkd
      subst hkd
      dsimp only at h
      cases hb1 : (Nat.ble na st.length && Nat.ble (a_cats (st.drop na)) 8) with
      | false => rw [hb1] at h; cases h
      | true =>
        rw [hb1] at h
        simp only [Bool.and_eq_true] at hb1
        have h1 := Nat.le_of_ble_eq_true hb1.1
        have h2 := Nat.le_of_ble_eq_true hb1.2
        dsimp only [cond] at h
        cases hf : f (st.take na).reverse S with
        | none => rw [hf] at h; cases h
        | some q =>
          rw [hf] at h
          have h : KC (pc + 3) L (q.1.toList ++ st.drop na) q.2 = some o := h
          have key := hcb idx kd' na f hcbi i pc ls (st.take na).reverse (st.drop na) S q H locs hi hd (by simp [h1]) h2 hf hl.1 hP hS (fun H1 locs1 hP1 hS1 => hKC _ _ _ _ _ _ _ h hl hP1 hS1)
          rw [List.reverse_reverse, List.take_append_drop] at key
          exact key
  cases i
  case iconst n =>
    simp only [a_ok, Bool.and_eq_true, decide_eq_true_eq] at hok
    obtain rfl := Nat.eq_of_beq_eq_true hok.1
    exact lv_iconst hx hb hd hok.2 (hKk _ _ _ _ _ _ _ h hl hP hS)
  case bipush n =>
    simp only [a_ok, Bool.and_eq_true, decide_eq_true_eq] at hok
    obtain rfl := Nat.eq_of_beq_eq_true hok.1
    exact lv_bipush hx hb hd hok.2 (hKk _ _ _ _ _ _ _ h hl hP hS)
  case sipush n =>
    simp only [a_ok, Bool.and_eq_true, decide_eq_true_eq] at hok
    obtain rfl := Nat.eq_of_beq_eq_true hok.1
    exact lv_sipush hx hb hd hok.2 (hKk _ _ _ _ _ _ _ h hl hP hS)
  case ldc idx =>
    simp only [a_ok, Bool.and_eq_true, decide_eq_true_eq] at hok
    obtain rfl := Nat.eq_of_beq_eq_true hok.1
    exact lv_ldc hx hb hown (hts _ (a_inT (hct _ hok.2) rfl)) hd (hKk _ _ _ _ _ _ _ h hl hP hS)
  case ldc_w idx =>
    simp only [a_ok, Bool.and_eq_true, decide_eq_true_eq] at hok
    obtain rfl := Nat.eq_of_beq_eq_true hok.1
    exact lv_ldcw hx hb hown (hts _ (a_inT (hct _ hok.2) rfl)) hd (hKk _ _ _ _ _ _ _ h hl hP hS)
  case lconst n =>
    simp only [a_ok, Bool.and_eq_true, decide_eq_true_eq] at hok
    obtain rfl := Nat.eq_of_beq_eq_true hok.1
    exact lv_lconst hx hb hd hok.2 (hKk _ _ _ _ _ _ _ h hl hP hS)
  case ldc2_w idx =>
    simp only [a_ok, Bool.and_eq_true, decide_eq_true_eq] at hok
    obtain rfl := Nat.eq_of_beq_eq_true hok.1
    exact lv_ldc2 hx hb hown (hts _ (a_inT (hlt _ hok.2) rfl)) hd (hKk _ _ _ _ _ _ _ h hl hP hS)
  case iload k =>
    simp only [a_ok, Bool.and_eq_true] at hok
    obtain rfl := Nat.eq_of_beq_eq_true hok.1
    obtain rfl := Nat.eq_of_beq_eq_true hok.2
    simp only [a_stp] at h
    split at h
    · rename_i a ha
      exact lv_iload hx hb hd (hl.get ha (by simp)) (hKk _ _ _ _ _ _ _ h hl hP hS)
    · cases h
  case lload k =>
    simp only [a_ok, Bool.and_eq_true] at hok
    obtain rfl := Nat.eq_of_beq_eq_true hok.1
    obtain rfl := Nat.eq_of_beq_eq_true hok.2
    simp only [a_stp] at h
    split at h
    · rename_i a ha
      exact lv_lload hx hb hd (hl.get ha (by simp)) (hKk _ _ _ _ _ _ _ h hl hP hS)
    · cases h
  case aload k =>
    simp only [a_ok, Bool.and_eq_true] at hok
    obtain rfl := Nat.eq_of_beq_eq_true hok.1
    obtain rfl := Nat.eq_of_beq_eq_true hok.2
    simp only [a_stp] at h
    split at h
    · rename_i a ha
      exact lv_aload hx hb hd (hl.get ha (by simp)) (hKk _ _ _ _ _ _ _ h hl hP hS)
    · cases h
  case iload_n k =>
    simp only [a_ok, Bool.and_eq_true] at hok
    obtain rfl := Nat.eq_of_beq_eq_true hok.1
    obtain rfl := Nat.eq_of_beq_eq_true hok.2
    simp only [a_stp] at h
    split at h
    · rename_i a ha
      exact lv_iload_n hx hb hd rfl (hl.get ha (by simp)) (hKk _ _ _ _ _ _ _ h hl hP hS)
    · cases h
  case lload_n k =>
    simp only [a_ok, Bool.and_eq_true] at hok
    obtain rfl := Nat.eq_of_beq_eq_true hok.1
    obtain rfl := Nat.eq_of_beq_eq_true hok.2
    simp only [a_stp] at h
    split at h
    · rename_i a ha
      exact lv_lload_n hx hb hd rfl (hl.get ha (by simp)) (hKk _ _ _ _ _ _ _ h hl hP hS)
    · cases h
  case aload_n k =>
    simp only [a_ok, Bool.and_eq_true] at hok
    obtain rfl := Nat.eq_of_beq_eq_true hok.1
    obtain rfl := Nat.eq_of_beq_eq_true hok.2
    simp only [a_stp] at h
    split at h
    · rename_i a ha
      exact lv_aload_n hx hb hd rfl (hl.get ha (by simp)) (hKk _ _ _ _ _ _ _ h hl hP hS)
    · cases h
  case istore k =>
    simp only [a_ok, Bool.and_eq_true, decide_eq_true_eq] at hok
    obtain rfl := Nat.eq_of_beq_eq_true hok.1.1
    obtain rfl := Nat.eq_of_beq_eq_true hok.1.2
    simp only [a_stp] at h
    split at h
    · exact lv_istore hx hb hd hl.has hok.2 rfl (fun ls' hl' => hKk _ _ _ _ _ _ _ h (a_lo.s1 (v := .int _) hl.2.2.1 hl') hP hS)
    · cases h
  case istore_n k =>
    simp only [a_ok, Bool.and_eq_true, decide_eq_true_eq] at hok
    obtain rfl := Nat.eq_of_beq_eq_true hok.1.1
    obtain rfl := Nat.eq_of_beq_eq_true hok.1.2
    simp only [a_stp] at h
    split at h
    · exact lv_istore_n hx hb hd rfl hl.has hok.2 rfl (fun ls' hl' => hKk _ _ _ _ _ _ _ h (a_lo.s1 (v := .int _) hl.2.2.1 hl') hP hS)
    · cases h
  case lstore k =>
    simp only [a_ok, Bool.and_eq_true, decide_eq_true_eq] at hok
    obtain rfl := Nat.eq_of_beq_eq_true hok.1.1
    obtain rfl := Nat.eq_of_beq_eq_true hok.1.2
    simp only [a_stp] at h
    split at h
    · exact lv_lstore hx hb hd hl.has hok.2 rfl (fun ls' hl' => hKk _ _ _ _ _ _ _ h (a_lo.s2 (v := .long _) hl.2.2.1 hl') hP hS)
    · cases h
  case lstore_n k =>
    simp only [a_ok, Bool.and_eq_true, decide_eq_true_eq] at hok
    obtain rfl := Nat.eq_of_beq_eq_true hok.1.1
    obtain rfl := Nat.eq_of_beq_eq_true hok.1.2
    simp only [a_stp] at h
    split at h
    · exact lv_lstore_n hx hb hd rfl hl.has hok.2 rfl (fun ls' hl' => hKk _ _ _ _ _ _ _ h (a_lo.s2 (v := .long _) hl.2.2.1 hl') hP hS)
    · cases h
  case astore k =>
    simp only [a_ok, Bool.and_eq_true, decide_eq_true_eq] at hok
    obtain rfl := Nat.eq_of_beq_eq_true hok.1.1
    obtain rfl := Nat.eq_of_beq_eq_true hok.1.2
    simp only [a_stp] at h
    split at h
    · exact lv_astore hx hb hd hl.has hok.2 rfl (fun ls' hl' => hKk _ _ _ _ _ _ _ h (a_lo.s1 (v := .ref _) hl.2.2.1 hl') hP hS)
    · cases h
  case astore_n k =>
    simp only [a_ok, Bool.and_eq_true, decide_eq_true_eq] at hok
    obtain rfl := Nat.eq_of_beq_eq_true hok.1.1
    obtain rfl := Nat.eq_of_beq_eq_true hok.1.2
    simp only [a_stp] at h
    split at h
    · exact lv_astore_n hx hb hd rfl hl.has hok.2 rfl (fun ls' hl' => hKk _ _ _ _ _ _ _ h (a_lo.s1 (v := .ref _) hl.2.2.1 hl') hP hS)
    · cases h
  case iinc k n =>
    simp only [a_ok, Bool.and_eq_true, decide_eq_true_eq] at hok
    obtain rfl := Nat.eq_of_beq_eq_true hok.1.1.1
    obtain rfl := Nat.eq_of_beq_eq_true hok.1.1.2
    simp only [a_stp] at h
    split at h
    · rename_i a ha
      obtain ⟨j, hj⟩ := List.getElem?_of_mem (a_pl_mem.mpr ⟨_, a_lk_some ha (by simp), by simp, rfl⟩ : (k, a_cv ad (.int a)) ∈ a_pl ad L)
      exact lv_iinc (x := a) (v := a + v) hx hb hd hl.has hj (by rw [hok.1.2]) hok.2 rfl (fun ls' hl' => hKk _ _ _ _ _ _ _ h (a_lo.s1 (v := .int _) hl.2.2.1 hl') hP hS)
    · cases h
  case iadd =>
    obtain rfl := Nat.eq_of_beq_eq_true hok
    simp only [a_stp] at h
    split at h
    · exact lv_iadd hx hb hd (hKk _ _ _ _ _ _ _ h hl hP hS)
    · cases h
  case isub =>
    obtain rfl := Nat.eq_of_beq_eq_true hok
    simp only [a_stp] at h
    split at h
    · exact lv_isub hx hb hd (hKk _ _ _ _ _ _ _ h hl hP hS)
    · cases h
  case imul =>
    obtain rfl := Nat.eq_of_beq_eq_true hok
    simp only [a_stp] at h
    split at h
    · exact lv_imul hx hb hd (hKk _ _ _ _ _ _ _ h hl hP hS)
    · cases h
  case iand =>
    obtain rfl := Nat.eq_of_beq_eq_true hok
    simp only [a_stp] at h
    split at h
    · exact lv_iand hx hb hd (hKk _ _ _ _ _ _ _ h hl hP hS)
    · cases h
  case ior =>
    obtain rfl := Nat.eq_of_beq_eq_true hok
    simp only [a_stp] at h
    split at h
    · exact lv_ior hx hb hd (hKk _ _ _ _ _ _ _ h hl hP hS)
    · cases h
  case idiv =>
    obtain rfl := Nat.eq_of_beq_eq_true hok
    simp only [a_stp] at h
    split at h
    · split at h
      · cases h
      · rename_i hne
        exact lv_idiv hx hb hd hne (hKk _ _ _ _ _ _ _ h hl hP hS)
    · cases h
  case irem =>
    obtain rfl := Nat.eq_of_beq_eq_true hok
    simp only [a_stp] at h
    split at h
    · split at h
      · cases h
      · rename_i hne
        exact lv_irem hx hb hd hne (hKk _ _ _ _ _ _ _ h hl hP hS)
    · cases h
  case ishl =>
    obtain rfl := Nat.eq_of_beq_eq_true hok
    simp only [a_stp] at h
    split at h
    · exact lv_ishl hx hb hd (hKk _ _ _ _ _ _ _ h hl hP hS)
    · cases h
  case ishr =>
    obtain rfl := Nat.eq_of_beq_eq_true hok
    simp only [a_stp] at h
    split at h
    · exact lv_ishr hx hb hd (hKk _ _ _ _ _ _ _ h hl hP hS)
    · cases h
  case ladd =>
    obtain rfl := Nat.eq_of_beq_eq_true hok
    simp only [a_stp] at h
    split at h
    · exact lv_ladd hx hb hd (hKk _ _ _ _ _ _ _ h hl hP hS)
    · cases h
  case land =>
    obtain rfl := Nat.eq_of_beq_eq_true hok
    simp only [a_stp] at h
    split at h
    · exact lv_land hx hb hd (hKk _ _ _ _ _ _ _ h hl hP hS)
    · cases h
  case lor =>
    obtain rfl := Nat.eq_of_beq_eq_true hok
    simp only [a_stp] at h
    split at h
    · exact lv_lor hx hb hd (hKk _ _ _ _ _ _ _ h hl hP hS)
    · cases h
  case lshl =>
    obtain rfl := Nat.eq_of_beq_eq_true hok
    simp only [a_stp] at h
    split at h
    · exact lv_lshl hx hb hd rfl (hKk _ _ _ _ _ _ _ h hl hP hS)
    · cases h
  case lshr =>
    obtain rfl := Nat.eq_of_beq_eq_true hok
    simp only [a_stp] at h
    split at h
    · exact lv_lshr hx hb hd rfl (hKk _ _ _ _ _ _ _ h hl hP hS)
    · cases h
  case i2l =>
    obtain rfl := Nat.eq_of_beq_eq_true hok
    simp only [a_stp] at h
    split at h
    · exact lv_i2l hx hb hd rfl (hKk _ _ _ _ _ _ _ h hl hP hS)
    · cases h
  case l2i =>
    obtain rfl := Nat.eq_of_beq_eq_true hok
    simp only [a_stp] at h
    split at h
    · exact lv_l2i hx hb hd rfl (hKk _ _ _ _ _ _ _ h hl hP hS)
    · cases h
  case lcmp =>
    obtain rfl := Nat.eq_of_beq_eq_true hok
    simp only [a_stp] at h
    split at h
    · exact W.lcmp hx hb hd (hKk _ _ _ _ _ _ _ h hl hP hS)
    · cases h
  case dup =>
    obtain rfl := Nat.eq_of_beq_eq_true hok
    simp only [a_stp] at h
    split at h
    · rename_i v0 r
      cases hv0 : a_isl v0 with
      | true => rw [hv0] at h; cases h
      | false =>
        rw [hv0] at h
        exact lv_dup hx hb hd (by rw [a_cv_cat]; exact a_isl_1 hv0) (hKk _ _ _ _ _ _ _ h hl hP hS)
    · cases h
  case dup2 =>
    obtain rfl := Nat.eq_of_beq_eq_true hok
    simp only [a_stp] at h
    split at h
    · rename_i v0 v1 r
      cases hv0 : (a_isl v0 || a_isl v1) with
      | true => rw [hv0] at h; cases h
      | false =>
        rw [hv0] at h
        simp only [Bool.or_eq_false_iff] at hv0
        exact lv_dup2_11 hx hb hd (by rw [a_cv_cat]; exact a_isl_1 hv0.1) (by rw [a_cv_cat]; exact a_isl_1 hv0.2) (hKk _ _ _ _ _ _ _ h hl hP hS)
    · cases h
  case pop =>
    obtain rfl := Nat.eq_of_beq_eq_true hok
    simp only [a_stp] at h
    split at h
    · rename_i v0 r
      cases hv0 : a_isl v0 with
      | true => rw [hv0] at h; cases h
      | false =>
        rw [hv0] at h
        exact lv_pop hx hb hd (by rw [a_cv_cat]; exact a_isl_1 hv0) (hKk _ _ _ _ _ _ _ h hl hP hS)
    · cases h
  case ifCond cd off =>
    simp only [a_ok, Bool.and_eq_true, decide_eq_true_eq] at hok
    obtain rfl := Nat.eq_of_beq_eq_true hok.1
    simp only [a_stp] at h
    split at h
    · rename_i a r
      cases cd <;> simp only [a_if] at h
      · refine lv_if_eq hx hb hd hok.2 (fun q => ?_) (fun q => ?_)
        · rw [if_pos q] at h; exact hKk _ _ _ _ _ _ _ h hl hP hS
        · rw [if_neg q] at h; exact hKk _ _ _ _ _ _ _ h hl hP hS
      · refine lv_if_ne hx hb hd hok.2 (fun q => ?_) (fun q => ?_)
        · rw [if_neg q] at h; exact hKk _ _ _ _ _ _ _ h hl hP hS
        · rw [if_pos q] at h; exact hKk _ _ _ _ _ _ _ h hl hP hS
      · refine lv_if_lt hx hb hd hok.2 (fun q => ?_) (fun q => ?_)
        · rw [if_pos q] at h; exact hKk _ _ _ _ _ _ _ h hl hP hS
        · rw [if_neg q] at h; exact hKk _ _ _ _ _ _ _ h hl hP hS
      · refine lv_if_ge hx hb hd hok.2 (fun q => ?_) (fun q => ?_)
        · rw [if_neg (Int32.not_lt.mpr q)] at h; exact hKk _ _ _ _ _ _ _ h hl hP hS
        · rw [if_pos (Int32.not_le.mp q)] at h; exact hKk _ _ _ _ _ _ _ h hl hP hS
      · refine lv_if_gt hx hb hd hok.2 (fun q => ?_) (fun q => ?_)
        · rw [if_pos q] at h; exact hKk _ _ _ _ _ _ _ h hl hP hS
        · rw [if_neg q] at h; exact hKk _ _ _ _ _ _ _ h hl hP hS
      · refine lv_if_le hx hb hd hok.2 (fun q => ?_) (fun q => ?_)
        · rw [if_neg (Int32.not_lt.mpr q)] at h; exact hKk _ _ _ _ _ _ _ h hl hP hS
        · rw [if_pos (Int32.not_le.mp q)] at h; exact hKk _ _ _ _ _ _ _ h hl hP hS
    · cases h
  case if_icmp cd off =>
    simp only [a_ok, Bool.and_eq_true, decide_eq_true_eq] at hok
    obtain rfl := Nat.eq_of_beq_eq_true hok.1
    simp only [a_stp] at h
    split at h
    · rename_i b a r
      cases cd <;> simp only [a_if] at h
      · refine lv_icmp_eq hx hb hd hok.2 (fun q => ?_) (fun q => ?_)
        · rw [if_pos q] at h; exact hKk _ _ _ _ _ _ _ h hl hP hS
        · rw [if_neg q] at h; exact hKk _ _ _ _ _ _ _ h hl hP hS
      · refine lv_icmp_ne hx hb hd hok.2 (fun q => ?_) (fun q => ?_)
        · rw [if_neg q] at h; exact hKk _ _ _ _ _ _ _ h hl hP hS
        · rw [if_pos q] at h; exact hKk _ _ _ _ _ _ _ h hl hP hS
      · refine lv_icmp_lt hx hb hd hok.2 (fun q => ?_) (fun q => ?_)
        · rw [if_pos q] at h; exact hKk _ _ _ _ _ _ _ h hl hP hS
        · rw [if_neg q] at h; exact hKk _ _ _ _ _ _ _ h hl hP hS
      · refine lv_icmp_ge hx hb hd hok.2 (fun q => ?_) (fun q => ?_)
        · rw [if_neg (Int32.not_lt.mpr q)] at h; exact hKk _ _ _ _ _ _ _ h hl hP hS
        · rw [if_pos (Int32.not_le.mp q)] at h; exact hKk _ _ _ _ _ _ _ h hl hP hS
      · refine lv_icmp_gt hx hb hd hok.2 (fun q => ?_) (fun q => ?_)
        · rw [if_pos q] at h; exact hKk _ _ _ _ _ _ _ h hl hP hS
        · rw [if_neg q] at h; exact hKk _ _ _ _ _ _ _ h hl hP hS
      · refine lv_icmp_le hx hb hd hok.2 (fun q => ?_) (fun q => ?_)
        · rw [if_neg (Int32.not_lt.mpr q)] at h; exact hKk _ _ _ _ _ _ _ h hl hP hS
        · rw [if_pos (Int32.not_le.mp q)] at h; exact hKk _ _ _ _ _ _ _ h hl hP hS
    · cases h
  case goto off =>
    simp only [a_ok, Bool.and_eq_true, decide_eq_true_eq] at hok
    obtain rfl := Nat.eq_of_beq_eq_true hok.2
    exact lv_goto hx hb hd hok.1 (hKk _ _ _ _ _ _ _ h hl hP hS)
  case getfield idx =>
    simp only [a_ok, Bool.and_eq_true, decide_eq_true_eq] at hok
    obtain rfl := Nat.eq_of_beq_eq_true hok.1
    obtain ⟨C, T, N, ty0, hcl, rfl, hyN, hin, hty, hnm, hC, hfk, hlink⟩ := hft _ hok.2
    dsimp only at hcl hyN hin hty hnm hC hfk hlink
    simp only [a_stp] at h
    split at h
    · rename_i k r
      split at h
      · rename_i u hu
        unfold a_gf at hu
        split at hu
        · rename_i ci hds
          have hk := a_ds_lt hds (by decide)
          cases hbq : Nat.beq ci x with
          | false => rw [hbq] at hu; cases hu
          | true =>
            rw [hbq] at hu
            obtain rfl := Nat.eq_of_beq_eq_true hbq
            have hen : (a_ws cI cZ cJ ad S)[k]? = some (ad k, .inr (ci, (List.range (a_nf ci)).map (a_fv ad S k ci))) := by
              rw [a_ws_at hk]; simp only [a_en, hds]
            have hval : ((List.range (a_nf ci)).map (a_fv ad S k ci))[y]? = some (a_cv ad u) := by
              have h1 : a_fv ad S k ci y = a_cv ad u := by
                unfold a_fv
                dsimp only [cond] at hu
                split at hu
                · rename_i hq; cases hu; rw [hq]; rfl
                · rename_i hq; cases hu; rw [hq]; rfl
                · rename_i hq; cases hu; rw [hq]; rfl
                · rename_i hq; cases hu; rw [hq]; rfl
                · cases hu
              simp [hyN, h1]
            rcases hlink with hlink | ⟨host, hlink⟩
            · exact va_get hx hb hts hin hown hK hP k hen hcl y hyN (hts _ (a_inT hlink rfl)) (fun z hz => by rw [← hC]; exact hz) hval hd (hKk _ _ _ _ _ _ _ h hl hP hS)
            · exact va_getN hx hb hts hin hown hK hP k hen hcl y hyN (va_Nw.use rfl (hnw _ (a_inN hlink rfl))) (fun z hz => by rw [← hC]; exact hz) hval hd (hKk _ _ _ _ _ _ _ h hl hP hS)
        · cases hu
      · cases h
    · cases h
  case putfield idx =>
    simp only [a_ok, Bool.and_eq_true, decide_eq_true_eq] at hok
    obtain rfl := Nat.eq_of_beq_eq_true hok.1
    obtain ⟨C, T, N, ty0, hcl, rfl, hyN, hin, hty, hnm, hC, hfk, hlink⟩ := hft _ hok.2
    dsimp only at hcl hyN hin hty hnm hC hfk hlink
    simp only [a_stp] at h
    split at h
    · rename_i v0 k r
      unfold a_pf at h
      split at h
      · rename_i ci hds
        have hk := a_ds_lt hds (by decide)
        cases hbq : Nat.beq ci x with
        | false => rw [hbq] at h; cases h
        | true =>
          rw [hbq] at h
          obtain rfl := Nat.eq_of_beq_eq_true hbq
          have hen : ∀ S : a_M, (a_ws cI cZ cJ ad S)[k]? = some (ad k, .inr (ci, (List.range (a_nf ci)).map (a_fv ad S k ci))) := by
            intro S
            rw [a_ws_at hk]; simp only [a_en, hds]
          have hei : ∀ (S : a_M), a_en cI cZ cJ ad S k = .inr (ci, (List.range (a_nf ci)).map (a_fv ad S k ci)) := by
            intro S; simp only [a_en, hds]
          have put : ∀ (u : Value) (ty : FieldType) (S' : a_M), ty0 y = ty → (T y).2.2.2 = false → narrow ty u = u → fits ty u = true → (a_ws cI cZ cJ ad S).set k (ad k, .inr (ci, ((List.range (a_nf ci)).map (a_fv ad S k ci)).set y u)) = a_ws cI cZ cJ ad S' → K (pc + 3) L r S' = some o → W p l en R s m args below meth c H locs ce sl Q (F0 m pc ls (u :: .ref (ad k) :: r.map (a_cv ad))) := by
            intro u ty S' hty1 hfin hn hfit hset hk'
            rcases hlink with hlink | ⟨host, hlink⟩
            · exact va_put hx hb hts hin ty0 hty hnm hown hK hP hD hS k (hen S) hcl y hyN (hts _ (a_inT hlink rfl)) (fun z hz => by rw [← hC]; exact hz) hfin (by rw [hty y hyN, hty1]) hn hfit (by simpa using hyN) hd (fun H1 locs1 hP1 hD1 hS1 => hKk _ _ _ _ _ _ _ hk' hl (by rw [hset] at hP1; exact hP1) hS1)
            · exact va_putN hx hb hts hin ty0 hty hnm hown hK hP hD hS k (hen S) hcl y hyN (va_Nw.use rfl (hnw _ (a_inN hlink rfl))) (fun z hz => by rw [← hC]; exact hz) hfin (by rw [hty y hyN, hty1]) hn hfit (by simpa using hyN) hd (fun H1 locs1 hP1 hD1 hS1 => hKk _ _ _ _ _ _ _ hk' hl (by rw [hset] at hP1; exact hP1) hS1)
          dsimp only [cond] at h
          split at h
          · rename_i a hq
            rcases hfk with hfk | ⟨hfin, ⟨hf, ht⟩ | ⟨hf, -⟩ | ⟨hf, -⟩⟩
            · rw [hq] at hfk; cases hfk
            · exact put (.int a) .int _ ht hfin rfl rfl (by rw [a_fs_i (Or.inl hq), ← hei]; exact a_ws_set a_en_wi) h
            · rw [hq] at hf; cases hf
            · rw [hq] at hf; cases hf
          · rename_i a hq
            rcases hfk with hfk | ⟨hfin, ⟨hf, -⟩ | ⟨hf, ht⟩ | ⟨hf, -⟩⟩
            · rw [hq] at hfk; cases hfk
            · rw [hq] at hf; cases hf
            · exact put (.long a) .long _ ht hfin rfl rfl (by rw [a_fs_l hq, ← hei]; exact a_ws_set a_en_wl) h
            · rw [hq] at hf; cases hf
          · rename_i a hq
            rcases hfk with hfk | ⟨hfin, ⟨hf, -⟩ | ⟨hf, -⟩ | ⟨hf, ht⟩⟩
            · rw [hq] at hfk; cases hfk
            · rw [hq] at hf; cases hf
            · rw [hq] at hf; cases hf
            · split at h
              · rename_i h01
                rcases h01 with rfl | rfl
                · exact put (.int 0) .boolean _ ht hfin (by decide) (by decide) (by rw [a_fs_i (Or.inr hq), ← hei]; exact a_ws_set a_en_wi) h
                · exact put (.int 1) .boolean _ ht hfin (by decide) (by decide) (by rw [a_fs_i (Or.inr hq), ← hei]; exact a_ws_set a_en_wi) h
              · cases h
          · cases h
      · cases h
    · cases h
  case iaload =>
    obtain rfl := Nat.eq_of_beq_eq_true hok
    simp only [a_stp] at h
    split at h
    · rename_i j k r
      unfold a_ald at h
      split at h
      · rename_i n hds
        have hk := a_ds_lt hds (by decide)
        split at h
        · cases h
        · rename_i hin
          exact va_iald (n := n) (f := S.1 k) hx hb hK hP k 0 (by rw [a_ws_at hk]; simp only [a_en, hds]) rfl hin hd (hKk _ _ _ _ _ _ _ h hl hP hS)
      · rename_i hds
        have hk : k = 103 := by
          rcases Nat.lt_or_ge k 103 with h1 | h1
          · have h4 : ∀ k, k < 103 → (a_ds k).1 < 4 := by decide +kernel
            have h5 := h4 k h1
            rw [hds] at h5; exact absurd (show 4 < 4 from h5) (by decide)
          · rcases Nat.lt_or_ge 103 k with h2 | h2
            · have hbl : Nat.ble k 103 = false := by
                cases hq : Nat.ble k 103
                · rfl
                · exact absurd (Nat.le_of_ble_eq_true hq) (Nat.not_le.mpr h2)
              unfold a_ds at hds
              rw [hbl] at hds
              cases hds
            · exact Nat.le_antisymm h2 h1
        subst hk
        cases hsq : sc with
        | none => rw [hsq] at h; cases h
        | some q =>
          obtain ⟨n, f⟩ := q
          rw [hsq] at h
          dsimp only at h
          obtain ⟨hX, hbl, hnA⟩ := hsc _ hsq
          split at h
          · cases h
          · rename_i hin
            exact va_sld hx hb hX hbl hnA hS hin hd (hKk _ _ _ _ _ _ _ h hl hP hS)
      · cases h
    · cases h
  case baload =>
    obtain rfl := Nat.eq_of_beq_eq_true hok
    simp only [a_stp] at h
    split at h
    · rename_i j k r
      unfold a_zld at h
      split at h
      · rename_i n hds
        have hk := a_ds_lt hds (by decide)
        split at h
        · cases h
        · rename_i hin
          exact va_zald (n := n) (f := S.1 k) hx hb hK hP k 1 (by rw [a_ws_at hk]; simp only [a_en, hds]) rfl hin hd (hKk _ _ _ _ _ _ _ h hl hP hS)
      · cases h
    · cases h
  case laload =>
    obtain rfl := Nat.eq_of_beq_eq_true hok
    simp only [a_stp] at h
    split at h
    · rename_i j k r
      unfold a_lld at h
      split at h
      · rename_i n hds
        have hk := a_ds_lt hds (by decide)
        split at h
        · cases h
        · rename_i hin
          exact va_lald (n := n) (f := S.2 k) hx hb hK hP k 2 (by rw [a_ws_at hk]; simp only [a_en, hds]) rfl hin hd (hKk _ _ _ _ _ _ _ h hl hP hS)
      · cases h
    · cases h
  case iastore =>
    obtain rfl := Nat.eq_of_beq_eq_true hok
    simp only [a_stp] at h
    split at h
    · rename_i u j k r
      unfold a_ast at h
      split at h
      · rename_i n hds
        have hk := a_ds_lt hds (by decide)
        split at h
        · cases h
        · rename_i hin
          exact va_iast (n := n) (f := S.1 k) hx hb hK hP hD hS k 0 (by rw [a_ws_at hk]; simp only [a_en, hds]) rfl hin hd (fun H1 locs1 hP1 hD1 hS1 => hKk _ _ _ _ _ _ _ h hl (by
            have hei : a_en cI cZ cJ ad (a_wi S k j.toNatClampNeg u) k = .inl (cI, n, .inl (upd (S.1 k) j.toNatClampNeg u)) := by simp only [a_en, hds, a_wi_k]
            rw [← hei, a_ws_set a_en_wi] at hP1; exact hP1) hS1)
      · cases h
    · cases h
  case bastore =>
    obtain rfl := Nat.eq_of_beq_eq_true hok
    simp only [a_stp] at h
    split at h
    · rename_i u j k r
      unfold a_zst at h
      split at h
      · rename_i n hds
        have hk := a_ds_lt hds (by decide)
        split at h
        · cases h
        · rename_i hin
          exact va_zast (n := n) (f := S.1 k) hx hb hK hP hD hS k 1 (by rw [a_ws_at hk]; simp only [a_en, hds]) rfl hin hd (fun H1 locs1 hP1 hD1 hS1 => hKk _ _ _ _ _ _ _ h hl (by
            have hei : a_en cI cZ cJ ad (a_wi S k j.toNatClampNeg (vp_nar .boolean u)) k = .inl (cZ, n, .inl (upd (S.1 k) j.toNatClampNeg (vp_nar .boolean u))) := by simp only [a_en, hds, a_wi_k]
            rw [← hei, a_ws_set a_en_wi] at hP1; exact hP1) hS1)
      · cases h
    · cases h
  case lastore =>
    obtain rfl := Nat.eq_of_beq_eq_true hok
    simp only [a_stp] at h
    split at h
    · rename_i u j k r
      unfold a_lst at h
      split at h
      · rename_i n hds
        have hk := a_ds_lt hds (by decide)
        split at h
        · cases h
        · rename_i hin
          exact va_last (n := n) (f := S.2 k) hx hb hK hP hD hS k 2 (by rw [a_ws_at hk]; simp only [a_en, hds]) rfl hin hd (fun H1 locs1 hP1 hD1 hS1 => hKk _ _ _ _ _ _ _ h hl (by
            have hei : a_en cI cZ cJ ad (a_wl S k j.toNatClampNeg u) k = .inl (cJ, n, .inr (.inl (vp_updL (S.2 k) j.toNatClampNeg u))) := by simp only [a_en, hds, a_wl_k]
            rw [← hei, a_ws_set a_en_wl] at hP1; exact hP1) hS1)
      · cases h
    · cases h
  case arraylength =>
    obtain rfl := Nat.eq_of_beq_eq_true hok
    simp only [a_stp] at h
    split at h
    · rename_i k r
      split at h
      · rename_i u hu
        unfold a_len at hu
        split at hu
        · rename_i n hds
          have hk := a_ds_lt hds (by decide)
          cases hu
          exact va_alen (x := (n, .inl (S.1 k))) hx hb hK hP k 0 (by rw [a_ws_at hk]; simp only [a_en, hds]) rfl rfl hd (hKk _ _ _ _ _ _ _ h hl hP hS)
        · rename_i n hds
          have hk := a_ds_lt hds (by decide)
          cases hu
          exact va_alen (x := (n, .inl (S.1 k))) hx hb hK hP k 1 (by rw [a_ws_at hk]; simp only [a_en, hds]) rfl rfl hd (hKk _ _ _ _ _ _ _ h hl hP hS)
        · rename_i n hds
          have hk := a_ds_lt hds (by decide)
          cases hu
          exact va_alen (x := (n, .inr (.inl (S.2 k)))) hx hb hK hP k 2 (by rw [a_ws_at hk]; simp only [a_en, hds]) rfl rfl hd (hKk _ _ _ _ _ _ _ h hl hP hS)
        · rename_i hds
          have hk : k = 103 := by
            rcases Nat.lt_or_ge k 103 with h1 | h1
            · have h4 : ∀ k, k < 103 → (a_ds k).1 < 4 := by decide +kernel
              have h5 := h4 k h1
              rw [hds] at h5; exact absurd (show 4 < 4 from h5) (by decide)
            · rcases Nat.lt_or_ge 103 k with h2 | h2
              · have hbl : Nat.ble k 103 = false := by
                  cases hq : Nat.ble k 103
                  · rfl
                  · exact absurd (Nat.le_of_ble_eq_true hq) (Nat.not_le.mpr h2)
                unfold a_ds at hds
                rw [hbl] at hds
                cases hds
              · exact Nat.le_antisymm h2 h1
          subst hk
          cases hsq : sc with
          | none => rw [hsq] at hu; cases hu
          | some q =>
            obtain ⟨n, f⟩ := q
            rw [hsq] at hu
            cases hu
            obtain ⟨hX, hbl, hnA⟩ := hsc _ hsq
            exact va_slen hx hb hX hbl hnA hS hd (hKk _ _ _ _ _ _ _ h hl hP hS)
        · cases hu
      · cases h
    · cases h
  case tableswitch d lo hi offs =>
    simp only [a_ok, Bool.and_eq_true, decide_eq_true_eq] at hok
    simp only [a_stp] at h
    split at h
    · rename_i a r
      exact a_sw_W hx hb hd hok.1 (fun t ht => hKk _ _ _ _ _ _ _ ht hl hP hS) sw 0 hok.2 (by omega) h
    · cases h
  case invokevirtual idx =>
    simp only [a_ok, Bool.and_eq_true, decide_eq_true_eq] at hok
    exact callx idx 0 (Or.inl ⟨rfl, rfl⟩) (Nat.eq_of_beq_eq_true hok.1) hok.2 h
  case invokestatic idx =>
    simp only [a_ok, Bool.and_eq_true, decide_eq_true_eq] at hok
    exact callx idx 1 (Or.inr (Or.inl ⟨rfl, rfl⟩)) (Nat.eq_of_beq_eq_true hok.1) hok.2 h
  case invokespecial idx =>
    simp only [a_ok, Bool.and_eq_true, decide_eq_true_eq] at hok
    exact callx idx 2 (Or.inr (Or.inr ⟨rfl, rfl⟩)) (Nat.eq_of_beq_eq_true hok.1) hok.2 h
  case ireturn =>
    simp only [a_ok, Bool.and_eq_true] at hok
    obtain rfl := Nat.eq_of_beq_eq_true hok.1
    simp only [a_stp, Option.map_eq_some_iff] at h
    obtain ⟨r, hr, rfl⟩ := h
    exact hret _ y _ _ _ r _ _ hd hok.2 hr rfl hP hS
  case lreturn =>
    simp only [a_ok, Bool.and_eq_true] at hok
    obtain rfl := Nat.eq_of_beq_eq_true hok.1
    simp only [a_stp, Option.map_eq_some_iff] at h
    obtain ⟨r, hr, rfl⟩ := h
    exact hret _ y _ _ _ r _ _ hd hok.2 hr rfl hP hS
  case areturn =>
    simp only [a_ok, Bool.and_eq_true] at hok
    obtain rfl := Nat.eq_of_beq_eq_true hok.1
    simp only [a_stp, Option.map_eq_some_iff] at h
    obtain ⟨r, hr, rfl⟩ := h
    exact hret _ y _ _ _ r _ _ hd hok.2 hr rfl hP hS
  case return_ =>
    simp only [a_ok, Bool.and_eq_true] at hok
    obtain rfl := Nat.eq_of_beq_eq_true hok.1
    simp only [a_stp, Option.map_eq_some_iff] at h
    obtain ⟨r, hr, rfl⟩ := h
    exact hret _ y _ _ _ r _ _ hd hok.2 hr rfl hP hS
  all_goals (simp only [a_stp] at h; cases h)
end ASTEP2
