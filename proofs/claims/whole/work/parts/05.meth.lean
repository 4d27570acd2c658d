/-! ===== methods and calls ===== -/
def a_pad (vs : List Value) : List Value := vs.flatMap (fun v => bif a_isl v then [v, .null] else [v])
def a_in (nL : Nat) (vs : List Value) : List Value := a_pad vs ++ List.replicate (nL - a_cats vs) .null
def a_rcv : Option Nat → List Value → Bool
  | none, _ => true
  | some ci, .ref k :: _ => (match a_ds k with
    | (0, c) => Nat.beq c ci
    | _ => false)
  | some _, _ => false
/-- a method as a function: of its receiver's class, its locals, its table, what it calls -/
noncomputable def a_fn (ci : Option Nat) (nL : Nat) (tab : Nat → Option a_E) (cb : a_C) : a_F := fun vs S => bif a_rcv ci vs && Nat.ble (a_cats vs) nL then a_G none tab cb 0 (a_in nL vs) [] S else none
def a_Fr (ad : Nat → Nat) : Nat → Prop := fun q => ∃ k, k < 103 ∧ q = ad k
abbrev a_tys (cI cZ cJ : ClassId) : List (ClassId × FieldType) := [(cI, .int), (cZ, .boolean), (cJ, .long)]
def a_Pc (dC : Nat → ClassId) (dI : Nat → Nat → Nat) (cI cZ cJ : ClassId) (ad : Nat → Nat) (vs : List Value) (S : a_M) : Array Value → State → Prop := fun v U => v = (vs.map (a_cv ad)).toArray ∧ va_P (dC, dI) vwCl (a_ws cI cZ cJ ad S) U.heap ∧ va_K (dC, dI) vwCl (a_tys cI cZ cJ) U ∧ ∀ w ∈ a_N, va_Nw w U
def a_Qc (dC : Nat → ClassId) (dI : Nat → Nat → Nat) (cI cZ cJ : ClassId) (ad : Nat → Nat) (q : a_O) : Array Value → State → Outcome → State → Prop := fun _ st oc t => oc = .returned (q.1.map (a_cv ad)) ∧ va_P (dC, dI) vwCl (a_ws cI cZ cJ ad q.2) t.heap ∧ va_K (dC, dI) vwCl (a_tys cI cZ cJ) t ∧ va_F (a_Fr ad) st t
def a_ws0 (y : MethodName) (cc : ByteArray) (nL : Nat) (ret : Option FieldType) : List Jvm.Cond := Jvm.Cond.code y cc nL ret :: a_T
/-- what is proved of a method -/
def a_Mt (l : Launch) (y : MethodName) (cc : ByteArray) (nL : Nat) (ret : Option FieldType) (fr lo : Nat) (f : a_F) : Prop :=
  ∀ (dC : Nat → ClassId) (dI : Nat → Nat → Nat) (cI cZ cJ : ClassId) (ad : Nat → Nat), (∀ i j, i < 103 → j < 103 → ad i = ad j → i = j) → ∀ (vs : List Value) (S : a_M) (q : a_O), f vs S = some q →
    Met l y (a_ws0 y cc nL ret) { frames := fr, cells := 0, slots := 0, locals := lo } (a_Pc dC dI cI cZ cJ ad vs S) (a_Qc dC dI cI cZ cJ ad q) 0 0 (a_Fr ad)
theorem a_sl_len (ad : Nat → Nat) (vs : List Value) : (lg_sl (vs.map (a_cv ad))).length = a_cats vs := by
  induction vs with
  | nil => rfl
  | cons v l ih =>
    have h1 : lg_sl ((v :: l).map (a_cv ad)) = (if (a_cv ad v).category = 2 then [Slot.val (a_cv ad v), .second] else [.val (a_cv ad v)]) ++ lg_sl (l.map (a_cv ad)) := by
      simp [lg_sl]
    rw [h1, List.length_append, ih, a_cats, a_cv_cat]
    cases v <;> rfl
theorem a_pad_len (vs : List Value) : (a_pad vs).length = a_cats vs := by
  induction vs with
  | nil => rfl
  | cons v l ih =>
    have h1 : a_pad (v :: l) = (bif a_isl v then [v, .null] else [v]) ++ a_pad l := by simp [a_pad]
    rw [h1, List.length_append, ih, a_cats]
    cases a_isl v <;> rfl
theorem a_pad_at (ad : Nat → Nat) (vs : List Value) : ∀ (n i : Nat) (v : Value), (a_pad vs)[i]? = some v → v ≠ .null → (n + i, a_cv ad v) ∈ lv_args n (vs.map (a_cv ad)) := by
  induction vs with
  | nil => intro n i v h _; simp [a_pad] at h
  | cons u l ih =>
    intro n i v h hv
    have h1 : a_pad (u :: l) = (bif a_isl u then [u, .null] else [u]) ++ a_pad l := by simp [a_pad]
    rw [h1] at h
    rw [List.map_cons]
    simp only [lv_args, a_cv_cat]
    cases hu : a_isl u with
    | true =>
      rw [hu] at h
      rw [if_pos ((a_isl_cat u).mp hu)]
      match i, h with
      | 0, h => simp at h; subst h; exact List.mem_cons_self
      | 1, h => simp at h; exact absurd h.symm hv
      | i + 2, h =>
        simp at h
        have := ih (n + 2) i v h hv
        rw [show n + 2 + i = n + (i + 2) by omega] at this
        exact List.mem_cons_of_mem _ this
    | false =>
      rw [hu] at h
      rw [if_neg (fun q => by rw [(a_isl_cat u).mpr q] at hu; cases hu)]
      match i, h with
      | 0, h => simp at h; subst h; exact List.mem_cons_self
      | i + 1, h =>
        simp at h
        have := ih (n + 1) i v h hv
        rw [show n + 1 + i = n + (i + 1) by omega] at this
        exact List.mem_cons_of_mem _ this
theorem a_lo_in {ad : Nat → Nat} {nL : Nat} {vs : List Value} (h : a_cats vs ≤ nL) : a_lo ad (lg_sl (vs.map (a_cv ad)) ++ List.replicate (nL - (lg_sl (vs.map (a_cv ad))).length) Slot.unset).toArray nL (a_in nL vs) := by
  have hl := lv_entry (vs.map (a_cv ad)) (n := nL) (by rw [a_sl_len]; exact h)
  refine ⟨hl.1, hl.2.1, ?_, fun i v hi hv => ?_⟩
  · simp only [a_in, List.length_append, a_pad_len, List.length_replicate]; omega
  · unfold a_in at hi
    by_cases hlt : i < (a_pad vs).length
    · rw [List.getElem?_append_left hlt] at hi
      have := a_pad_at ad vs 0 i v hi hv
      rw [Nat.zero_add] at this
      exact hl.2.2 (i, a_cv ad v) this
    · rw [List.getElem?_append_right (by omega)] at hi
      rw [List.getElem?_replicate] at hi
      split at hi
      · cases hi; exact absurd rfl hv
      · cases hi
section ASOUND
variable {p : Program} {l : Launch} {en : Env} {R : Room} {s : State} {m : MethodId} {args : Array Value} {below : List Frame} {meth : Method} {c : Code} {Q : State → Prop}
variable {dC : Nat → ClassId} {dI : Nat → Nat → Nat} {cI cZ cJ : ClassId} {ad : Nat → Nat} {A : Nat → Prop} {H0 : Heap} {cc : ByteArray} {nL ce sl : Nat} {own : String} {o : a_O} {ret : Option FieldType}
theorem a_sound {ft : List (Nat × Nat × Nat)} {ct : List (Nat × Int32)} {lt : List (Nat × Int64)} {sc : a_Sc} {tab : Nat → Option a_E} {cb : a_C}
    (hcx : CallFix p m c cc nL s args a_T own) (hnw : ∀ w ∈ a_N, va_Nw w s) (hK : va_K (dC, dI) vwCl (a_tys cI cZ cJ) s) (hJ : ∀ i j, i < 103 → j < 103 → ad i = ad j → i = j) (hA : ∀ k, k < 103 → A (ad k))
    (hsc : ∀ q, sc = some q → va_X (ad 103) q.1 q.2 s H0 ∧ ad 103 < H0.size ∧ ¬ A (ad 103))
    (hft : ∀ q ∈ ft, a_CF own q.1 q.2.1 q.2.2) (hct : ∀ q ∈ ct, Jvm.Cond.constant own q.1 q.2 ∈ lw_tbl) (hlt : ∀ q ∈ lt, Jvm.Cond.constantLong own q.1 q.2 ∈ lw_tbl)
    (hcb : ∀ idx kd na f, cb idx = some (kd, na, f) → a_Cl p l en R s m args below meth c Q dC dI cI cZ cJ ad A H0 cc nL ce sl kd idx na f)
    (hret : ∀ (i : Instr) (y pc : Nat) (ls : Array Slot) (st : List Value) (r : Option Value) (H : Heap) (locs : List Loc), decode cc pc = .ok (i, 1) → a_rok i y ret = true → a_rv i y st = some r → r = o.1 → va_P (dC, dI) vwCl (a_ws cI cZ cJ ad o.2) H → va_S A H0 H locs → W p l en R s m args below meth c H locs ce sl Q (F0 m pc ls (st.map (a_cv ad))))
    (htab : ∀ pc e, tab pc = some e → decode cc pc = .ok (e.1, e.2.1) ∧ a_ok ft ct lt (fun i => (cb i).map (fun q => q.1)) ret nL pc e = true) (n : Nat) :
    a_Kok p l en R s m args below meth c Q dC dI cI cZ cJ ad A H0 nL ce sl o (a_ev sc tab cb n) := by
  induction n with
  | zero => intro pc L st S H locs ls h; cases h
  | succ n ih =>
    intro pc L st S H locs ls h hl hP hS
    rw [a_ev_succ] at h
    cases ht : tab pc with
    | none => rw [ht] at h; cases h
    | some e =>
      rw [ht] at h
      obtain ⟨h1, h2⟩ := htab pc e ht
      exact a_step hcx hnw hK hJ hA hsc hft hct hlt hcb hret ih ih h1 h2 h (hl.mk _) hP hS
end ASOUND
/-- a method's table, its calls: what is proved of it -/
theorem a_meth {l : Launch} {y : MethodName} {cc : ByteArray} {nL fr lo : Nat} {ret : Option FieldType} {own : String} {ft : List (Nat × Nat × Nat)} {ct : List (Nat × Int32)} {lt : List (Nat × Int64)} {tab : Nat → Option a_E} {cb : a_C} {ci : Option Nat}
    (hpl : plainName y.cls = true) (hyo : y.cls = own)
    (hft : ∀ q ∈ ft, a_CF own q.1 q.2.1 q.2.2) (hct : ∀ q ∈ ct, Jvm.Cond.constant own q.1 q.2 ∈ lw_tbl) (hlt : ∀ q ∈ lt, Jvm.Cond.constantLong own q.1 q.2 ∈ lw_tbl)
    (htab : ∀ pc e, tab pc = some e → decode cc pc = .ok (e.1, e.2.1) ∧ a_ok ft ct lt (fun i => (cb i).map (fun q => q.1)) ret nL pc e = true)
    (hcb : ∀ (p : Program) (en : Env) (s : State) (m : MethodId) (args : Array Value) (below : List Frame) (meth : Method) (c : Code) (Q : State → Prop) (dC : Nat → ClassId) (dI : Nat → Nat → Nat) (cI cZ cJ : ClassId) (ad : Nat → Nat), CallFix p m c cc nL s args a_T own → (∀ w ∈ a_N, va_Nw w s) → va_K (dC, dI) vwCl (a_tys cI cZ cJ) s → (∀ i j, i < 103 → j < 103 → ad i = ad j → i = j) → ∀ idx kd na f, cb idx = some (kd, na, f) → a_Cl p l en { frames := fr, cells := 0, slots := 0, locals := lo } s m args below meth c Q dC dI cI cZ cJ ad (a_Fr ad) s.heap cc nL 0 0 kd idx na f) :
    a_Mt l y cc nL ret fr lo (a_fn ci nL tab cb) := by
  intro dC dI cI cZ cJ ad hJ vs S q hf
  refine Met.ofW (cc := cc) (maxL := nL) (ret := ret) hpl rfl ?_
  intro p e s m args below meth c s₁ B hml hv
  obtain ⟨rfl, hP, hK, hnw⟩ := hv
  have hts0 := atoms_spec (ws := a_ws0 y cc nL ret) B.pre
  have hts : ∀ w ∈ a_T, w.before (vs.map (a_cv ad)).toArray s = true := fun w hw => hts0 w (List.mem_cons_of_mem _ hw)
  have hown : s.vm.findClass own = some m.cls := by rw [← hyo]; exact findClass_of_methodNamed B.named
  have hcx : CallFix p m c cc nL s (vs.map (a_cv ad)).toArray a_T own := ⟨B.exec, B.bytes, hml, hown, hts⟩
  have hx := B.exec
  have hb := B.bytes
  have hr := B.returns
  have hlocks := B.notSynchronized
  unfold a_fn at hf
  cases hg : (a_rcv ci vs && Nat.ble (a_cats vs) nL) with
  | false => rw [hg] at hf; cases hf
  | true =>
    rw [hg] at hf
    simp only [Bool.and_eq_true] at hg
    have hcat := Nat.le_of_ble_eq_true hg.2
    obtain ⟨n, hn⟩ := (a_G_some _ _ _ _ _ _ _ _).mp hf
    rw [lg_entry_eq]
    refine a_sound (A := a_Fr ad) (H0 := s.heap) (own := own) (ret := ret) hcx hnw hK hJ (fun k hk => ⟨k, hk, rfl⟩) (fun q hq => by cases hq) hft hct hlt (hcb p e s m _ below meth c _ dC dI cI cZ cJ ad hcx hnw hK hJ) ?_ htab n 0 _ _ S s.heap [] _ hn (a_lo_in hcat) hP va_S.rf
    intro i y' pc ls st r H locs hd hrok hrv hro hP1 hS1
    have post : ∀ (v : Option Value), v = q.1.map (a_cv ad) → ∀ t : State, t.heap = H → s.WarmedH t.vm → a_Qc dC dI cI cZ cJ ad q (vs.map (a_cv ad)).toArray s (.returned v) t := fun v hv t ht hW => ⟨by rw [hv], by rw [ht]; exact hP1, va_K.moved hW.alike hK, hS1.F ht⟩
    cases i <;> simp only [a_rok] at hrok <;> (try exact absurd hrok (by decide))
    case ireturn =>
      simp only [a_rv] at hrv
      split at hrv
      · rename_i v
        simp only [Bool.or_eq_true, Bool.and_eq_true, decide_eq_true_eq] at hrok
        rcases hrok with ⟨h1, h2⟩ | ⟨h1, h2⟩
        · rw [h1] at hrv
          cases hrv
          exact W.iret hx hb (hr.trans h2) (post _ (by rw [← hro]; rfl)) hS1.2.2 hd
        · have hy1 := Nat.eq_of_beq_eq_true h1
          subst hy1
          dsimp only [Nat.beq, cond] at hrv
          split at hrv
          · rename_i h01
            cases hrv
            have hn : narrow FieldType.boolean (Value.int v) = Value.int v := by
              rcases h01 with h | h <;> (rw [h]; decide)
            exact W.zret hx hb (hr.trans h2) hn (post _ (by rw [← hro]; rfl)) hS1.2.2 hd
          · cases hrv
      · cases hrv
    case lreturn =>
      simp only [a_rv] at hrv
      split at hrv
      · cases hrv
        exact W.lret hx hb (hr.trans (of_decide_eq_true hrok)) (post _ (by rw [← hro]; rfl)) hS1.2.2 hd
      · cases hrv
    case areturn =>
      simp only [a_rv] at hrv
      split at hrv
      · cases hrv
        split at hrok
        · rename_i n0
          exact W.aret hx hb hr (Or.inl ⟨_, rfl⟩) (Or.inr ⟨_, rfl⟩) (post _ (by rw [← hro]; rfl)) hS1.2.2 hd
        · cases hrok
      · cases hrv
    case return_ =>
      simp only [a_rv] at hrv
      split at hrv
      · cases hrv
        exact W.vret hx hb (hr.trans (of_decide_eq_true hrok)) (post _ (by rw [← hro]; rfl)) hS1.2.2 hd
      · cases hrv
/-- what the tables say of a method that is called (kind 0: of an object of class ci; 1: static) -/
def a_cal (kd : Nat) (y : MethodName) (cc : ByteArray) (nL : Nat) (ret : Option FieldType) (n ci : Nat) : Prop :=
  Jvm.Cond.code y cc nL ret ∈ lw_tbl ∧ Jvm.Cond.initialized y.cls ∈ lw_tbl ∧ (y.cls ≠ "java/lang/invoke/MethodHandle" ∧ y.cls ≠ "java/lang/invoke/VarHandle") ∧ (parseMethodDescriptor y.desc).map (fun d => d.parameters.length) = some n ∧
    ((kd = 0 ∧ Jvm.Cond.instanceMethod y ∈ lw_tbl ∧ Jvm.Cond.selects y.cls y y ∈ lw_tbl ∧ ∃ T N, vwCl[ci]? = some (y.cls, T, N)) ∨ (kd = 1 ∧ Jvm.Cond.static y ∈ lw_tbl))
def a_lnk (own : String) (idx : Nat) (y : MethodName) : Prop := Jvm.Cond.methodLink own idx y ∈ lw_tbl ∨ ∃ host, Jvm.Cond.methodLinkNest own idx y host ∈ lw_tbl
def a_rci (kd ci : Nat) : Option Nat := bif Nat.beq kd 0 then some ci else none
theorem a_fn_rcv {ci : Option Nat} {nL : Nat} {tab : Nat → Option a_E} {cb : a_C} {vs : List Value} {S : a_M} {q : a_O} (h : a_fn ci nL tab cb vs S = some q) : a_rcv ci vs = true := by
  unfold a_fn at h
  cases hg : a_rcv ci vs with
  | false => rw [hg] at h; cases h
  | true => rfl
theorem lw_goodIn (y : MethodName) (cc : ByteArray) (nL : Nat) (ret : Option FieldType) (h : Jvm.Cond.code y cc nL ret ∈ lw_tbl) : GoodIn a_T (a_ws0 y cc nL ret) := by
  intro w hw
  have hm : w ∈ a_T := by
    rcases List.mem_cons.mp hw with rfl | hw
    · exact a_inT h rfl
    · exact hw
  exact ⟨hm, good_of_word (List.mem_filter.mp hm).2⟩
section ACALL
variable {p : Program} {l : Launch} {en : Env} {R : Room} {s : State} {m : MethodId} {args : Array Value} {below : List Frame} {meth : Method} {c : Code} {Q : State → Prop}
variable {dC : Nat → ClassId} {dI : Nat → Nat → Nat} {cI cZ cJ : ClassId} {ad : Nat → Nat} {A : Nat → Prop} {H0 : Heap} {cc bytes : ByteArray} {nL maxL fr lo n ci kd idx na ce sl : Nat} {own : String} {ret : Option FieldType} {y : MethodName} {f : a_F}
theorem a_Pc_blind {vs : List Value} {S : a_M} : FrameBlind (a_Pc dC dI cI cZ cJ ad vs S) := fun a U g mk q => ⟨q.1, q.2.1, va_K.moved (u := U) (U := U.calling g mk a) (Vm.Alike.refl U.vm) q.2.2.1, a_Nw_same (u := U) (U := U.calling g mk a) rfl q.2.2.2⟩
theorem a_back {pc : Nat} {ls : Array Slot} {vs rest : List Value} {q : a_O} {H : Heap} {locs : List Loc} (hA : ∀ k, k < 103 → A (ad k))
    (run : va_Run p l en R s m args below meth c H locs ce sl 0 0 (F0 m pc ls ((vs.reverse ++ rest).map (a_cv ad))) (rest.map (a_cv ad)) (a_Qc dC dI cI cZ cJ ad q (vs.map (a_cv ad)).toArray) (a_Fr ad)) (hS : va_S A H0 H locs)
    (kk : ∀ (H1 : Heap) (locs1 : List Loc), va_P (dC, dI) vwCl (a_ws cI cZ cJ ad q.2) H1 → va_S A H0 H1 locs1 → W p l en R s m args below meth c H1 locs1 ce sl Q (F0 m (pc + 3) ls ((q.1.toList ++ rest).map (a_cv ad)))) :
    W p l en R s m args below meth c H locs ce sl Q (F0 m pc ls ((vs.reverse ++ rest).map (a_cv ad))) := by
  intro T hT X
  obtain ⟨v, st₀, t, T', L, h0, X', hL, e1, e2, ⟨hv, hP1, hK1, hz, hk⟩, st⟩ := run T hT X
  cases hv
  rw [h0] at hz hk
  have hFA : ∀ z, a_Fr ad z → A z := fun z hz => by obtain ⟨k, hk, rfl⟩ := hz; exact hA k hk
  obtain ⟨t2, a1, b1⟩ := kk T'.heap (locs ++ L) (by rw [e1]; exact hP1)
    ⟨Nat.le_trans hS.1 (by rw [e1]; exact hz), fun z h1 h2 => by rw [e1, hk z (Nat.lt_of_lt_of_le h1 hS.1) (fun w => h2 (hFA z w))]; exact hS.2.1 z h1 h2, fun z hz => by
      rcases List.mem_append.mp hz with h | h
      · exact hS.2.2 z h
      · exact hFA _ (hL z h)⟩ T' rfl X'
  have hst : (Option.map (a_cv ad) q.1).toList ++ rest.map (a_cv ad) = (q.1.toList ++ rest).map (a_cv ad) := by
    cases q.1 <;> simp
  rw [← hst] at a1
  exact ⟨t2, st t2 a1, b1⟩
theorem a_cl (hM : a_Mt l y bytes maxL ret fr lo f) (hcal : a_cal kd y bytes maxL ret n ci) (hlk : a_lnk own idx y) (hrc : ∀ vs S q, f vs S = some q → a_rcv (a_rci kd ci) vs = true) (hna : na = (bif Nat.beq kd 0 then n + 1 else n)) (hR : fr + 1 ≤ R.frames ∧ 8 + (maxL + 11) + lo ≤ R.locals)
    (hce : ce ≤ R.cells ∧ sl ≤ R.slots) (hA : ∀ k, k < 103 → A (ad k)) (hcx : CallFix p m c cc nL s args a_T own) (hnw : ∀ w ∈ a_N, va_Nw w s) (hK : va_K (dC, dI) vwCl (a_tys cI cZ cJ) s) (hJ : ∀ i j, i < 103 → j < 103 → ad i = ad j → i = j) :
    a_Cl p l en R s m args below meth c Q dC dI cI cZ cJ ad A H0 cc nL ce sl kd idx na f := by
  intro i pc ls vs rest S q H locs hi hd hvs hcats hf hls hP hS kk
  obtain ⟨hcode, hini, hne, hpar, hkd⟩ := hcal
  have hcx0 := hcx
  obtain ⟨hx, hb, hml, hown, hts⟩ := hcx
  have hM' := hM dC dI cI cZ cJ ad hJ vs S q hf
  have hsig : ∀ sig, parseMethodDescriptor y.desc = some sig → n = sig.parameters.length := fun sig h => by rw [h] at hpar; exact (Option.some.inj hpar).symm
  have hpay := pay_in hts (lw_goodIn y bytes maxL ret hcode)
  have hWr : 2 * (F0 m pc ls ((vs.reverse ++ rest).map (a_cv ad))).monitorRoom + ((rest.map (a_cv ad)).map fun v => v.category).sum ≤ 8 := lv_room (by rw [a_cats_sum]; exact hcats)
  rcases hkd with ⟨rfl, hinst, hsel, T, N, hcl⟩ | ⟨rfl, hstat⟩
  · have hi : i = .invokevirtual idx := by
      rcases hi with ⟨-, h⟩ | ⟨h, -⟩ | ⟨h, -⟩
      · exact h
      · cases h
      · cases h
    subst hi
    have hrv := hrc vs S q hf
    match vs, hvs, hf, hrv, hM', kk with
    | [], _, _, hrv, _, _ => simp [a_rci, a_rcv] at hrv
    | .int _ :: _, _, _, hrv, _, _ => simp [a_rci, a_rcv] at hrv
    | .long _ :: _, _, _, hrv, _, _ => simp [a_rci, a_rcv] at hrv
    | .float _ :: _, _, _, hrv, _, _ => simp [a_rci, a_rcv] at hrv
    | .double _ :: _, _, _, hrv, _, _ => simp [a_rci, a_rcv] at hrv
    | .null :: _, _, _, hrv, _, _ => simp [a_rci, a_rcv] at hrv
    | .retAddr _ :: _, _, _, hrv, _, _ => simp [a_rci, a_rcv] at hrv
    | .ref k :: As, hvs, hf, hrv, hM', kk =>
      have hds : a_ds k = (0, ci) := by
        simp only [a_rci, a_rcv] at hrv
        have h2 : (match a_ds k with
          | (0, c) => Nat.beq c ci
          | _ => false) = true := hrv
        split at h2
        · rename_i c0 hq
          rw [hq, Nat.eq_of_beq_eq_true h2]
        · cases h2
      have hk := a_ds_lt hds (by decide)
      have hlen : As.length = n := by
        simp only [List.length_cons] at hvs
        have : na = n + 1 := hna
        omega
      have hst : (F0 m pc ls (((Value.ref k :: As).reverse ++ rest).map (a_cv ad))).stack = (As.map (a_cv ad)).reverse ++ .ref (ad k) :: rest.map (a_cv ad) := by
        show ((Value.ref k :: As).reverse ++ rest).map (a_cv ad) = _
        simp [a_cv]
      have hpre : PreV s H y.cls (ad k) (a_Pc dC dI cI cZ cJ ad (.ref k :: As) S) (As.map (a_cv ad)) := ⟨a_Pc_blind, va_recv hK hP hcl (q0 := k) (fs := (List.range (a_nf ci)).map (a_fv ad S k ci)) (by rw [a_ws_at hk]; simp only [a_en, hds]), fun U hU hW => ⟨rfl, by rw [hU]; exact hP, va_K.moved hW.alike hK, a_Nw_warm hW hnw⟩⟩
      refine a_back hA ?_ hS kk
      rcases hlk with hlk | ⟨host, hlk⟩
      · exact va_runV (n := n) (rm := { frames := fr, cells := 0, slots := 0, locals := lo }) hcx0 hM' ⟨⟨rfl, rfl, hR.1, hR.2, hpay, List.mem_cons_self, hts _ (a_inT hcode rfl), hts _ (a_inT hini rfl), hne, hsig, hts _ (a_inT hlk rfl)⟩, hts _ (a_inT hinst rfl), hts _ (a_inT hsel rfl)⟩ hpre rfl (by simp [hlen]) hls hst hWr hd hce
      · exact va_runVN (n := n) (rm := { frames := fr, cells := 0, slots := 0, locals := lo }) hcx0 hM' ⟨⟨⟨rfl, rfl, hR.1, hR.2, hpay, List.mem_cons_self⟩, hts _ (a_inT hcode rfl), hts _ (a_inT hini rfl), hne, hsig, va_Nw.use rfl (hnw _ (a_inN hlk rfl))⟩, hts _ (a_inT hinst rfl), hts _ (a_inT hsel rfl)⟩ hpre rfl (by simp [hlen]) hls hst hWr hd hce
  · have hi : i = .invokestatic idx := by
      rcases hi with ⟨h, -⟩ | ⟨-, h⟩ | ⟨h, -⟩
      · cases h
      · exact h
      · cases h
    subst hi
    have hlen : vs.length = n := hvs.trans hna
    have hst : (F0 m pc ls ((vs.reverse ++ rest).map (a_cv ad))).stack = (vs.map (a_cv ad)).reverse ++ rest.map (a_cv ad) := by
      show (vs.reverse ++ rest).map (a_cv ad) = _
      simp
    have hpre : PreS s H (a_Pc dC dI cI cZ cJ ad vs S) (vs.map (a_cv ad)) := ⟨a_Pc_blind, fun U hU hW => ⟨rfl, by rw [hU]; exact hP, va_K.moved hW.alike hK, a_Nw_warm hW hnw⟩⟩
    refine a_back hA ?_ hS kk
    rcases hlk with hlk | ⟨host, hlk⟩
    · exact va_runS (n := n) (rm := { frames := fr, cells := 0, slots := 0, locals := lo }) hcx0 hM' ⟨⟨rfl, rfl, hR.1, hR.2, hpay, List.mem_cons_self, hts _ (a_inT hcode rfl), hts _ (a_inT hini rfl), hne, hsig, hts _ (a_inT hlk rfl)⟩, hts _ (a_inT hstat rfl)⟩ hpre rfl (by simp [hlen]) hls hst hWr hd hce
    · exact va_runSN (n := n) (rm := { frames := fr, cells := 0, slots := 0, locals := lo }) hcx0 hM' ⟨⟨⟨rfl, rfl, hR.1, hR.2, hpay, List.mem_cons_self⟩, hts _ (a_inT hcode rfl), hts _ (a_inT hini rfl), hne, hsig, va_Nw.use rfl (hnw _ (a_inN hlk rfl))⟩, hts _ (a_inT hstat rfl), trivial⟩ hpre rfl (by simp [hlen]) hls hst hWr hd hce
end ACALL
