def a_fn2 (nL : Nat) (tab : Nat → Option a_E) (cb : a_C2) : a_F2 := fun vs w => match vs with
  | .ref k :: As => bif Nat.ble (a_cats (.ref k :: As)) nL then a_ev2 tab cb 300 0 (a_in nL (.ref k :: As)) [] w else none
  | _ => none
def a_Pc2 (dC : Nat → ClassId) (dI : Nat → Nat → Nat) (cI cZ cJ : ClassId) (b0 : Nat) (vs : List Value) (w : List a_Cel) : Array Value → State → Prop := fun v U => v = (vs.map (a_cv (fun k => b0 + k))).toArray ∧ U.heap.size = b0 + w.length ∧ va_P (dC, dI) vwCl (a_w2 cI cZ cJ b0 w) U.heap ∧ va_K (dC, dI) vwCl (a_tys cI cZ cJ) U ∧ ∀ n ∈ a_N, va_Nw n U
def a_Qc2 (dC : Nat → ClassId) (dI : Nat → Nat → Nat) (cI cZ cJ : ClassId) (b0 : Nat) (w' : List a_Cel) : Array Value → State → Outcome → State → Prop := fun _ st oc t => oc = .returned none ∧ t.heap.size = b0 + w'.length ∧ va_P (dC, dI) vwCl (a_w2 cI cZ cJ b0 w') t.heap ∧ va_K (dC, dI) vwCl (a_tys cI cZ cJ) t ∧ va_F (fun q => b0 ≤ q) st t
def a_Mt2 (l : Launch) (y : MethodName) (cc : ByteArray) (nL fr lo : Nat) (f : a_F2) : Prop :=
  ∀ (dC : Nat → ClassId) (dI : Nat → Nat → Nat) (cI cZ cJ : ClassId) (b0 : Nat) (vs : List Value) (w w' : List a_Cel), f vs w = some w' →
    Met l y (a_ws0 y cc nL none) { frames := fr, cells := w'.length - w.length, slots := a_sz w' - a_sz w, locals := lo } (a_Pc2 dC dI cI cZ cJ b0 vs w) (a_Qc2 dC dI cI cZ cJ b0 w') (w'.length - w.length) (a_sz w' - a_sz w) (fun q => b0 ≤ q)
theorem a_fn2_grow {nL : Nat} {tab : Nat → Option a_E} {cb : a_C2} (hcb : ∀ idx na f, cb idx = some (na, f) → a_grow f) : a_grow (a_fn2 nL tab cb) := by
  intro vs w w' h
  unfold a_fn2 at h
  split at h
  · rw [Bool.cond_eq_ite] at h
    split at h
    · exact a_ev2_grow hcb _ _ _ _ _ _ h
    · cases h
  · cases h
theorem acI : Jvm.Cond.arrayClass .int ∈ lw_tbl := List.mem_of_getElem? (i := 106) (by decide +kernel)
theorem acZ : Jvm.Cond.arrayClass .boolean ∈ lw_tbl := List.mem_of_getElem? (i := 1254) (by decide +kernel)
theorem acJ : Jvm.Cond.arrayClass .long ∈ lw_tbl := List.mem_of_getElem? (i := 383) (by decide +kernel)
theorem oi2 : Jvm.Cond.instanceMethod objectInit ∈ lw_tbl := List.mem_of_getElem? (i := 89) (by decide +kernel)
theorem oi3 : Jvm.Cond.code objectInit ⟨#[0xb1]⟩ 1 none ∈ lw_tbl := List.mem_of_getElem? (i := 90) (by decide +kernel)
theorem a_meth2 {l : Launch} {y : MethodName} {cc : ByteArray} {nL fr lo : Nat} {own : String} {nt : List (Nat × Nat)} {pt ft : List (Nat × Nat × Nat)} {oi : Nat} {tab : Nat → Option a_E} {cb : a_C2}
    (hpl : plainName y.cls = true) (hyo : y.cls = own) (hyn : y.name = "<init>")
    (hnt : ∀ q ∈ nt, a_CN own q.1 q.2) (hpt : ∀ q ∈ pt, a_CP own q.1 q.2.1 q.2.2) (hft : ∀ q ∈ ft, a_CF own q.1 q.2.1 q.2.2)
    (hoi : Jvm.Cond.methodLink own oi objectInit ∈ lw_tbl)
    (htab : ∀ pc e, tab pc = some e → decode cc pc = .ok (e.1, e.2.1) ∧ a_ok2 nt pt ft oi pc e = true) (hfr : 1 ≤ fr) (hlo : 20 ≤ lo)
    (hcb : ∀ (p : Program) (en : Env) (R : Room) (s : State) (m : MethodId) (args : Array Value) (below : List Frame) (meth : Method) (c : Code) (Q : State → Prop) (dC : Nat → ClassId) (dI : Nat → Nat → Nat) (cI cZ cJ : ClassId) (b0 n0 s0 : Nat), R.frames = fr → R.locals = lo → CallFix p m c cc nL s args a_T own → (∀ w ∈ a_N, va_Nw w s) → va_K (dC, dI) vwCl (a_tys cI cZ cJ) s → ∀ idx na f, cb idx = some (na, f) → a_grow f ∧ a_Cl2 p l en R s m args below meth c Q dC dI cI cZ cJ b0 n0 s0 s.heap cc nL idx na f) :
    a_Mt2 l y cc nL fr lo (a_fn2 nL tab cb) := by
  intro dC dI cI cZ cJ b0 vs w wf hf
  refine Met.ofW (cc := cc) (maxL := nL) (ret := none) hpl rfl ?_
  intro p e s m args below meth c s₁ B hml hv
  obtain ⟨rfl, hsz, hP, hK, hnw⟩ := hv
  have hts0 := atoms_spec (ws := a_ws0 y cc nL none) B.pre
  have hts : ∀ n ∈ a_T, n.before (vs.map (a_cv (fun k => b0 + k))).toArray s = true := fun n hn => hts0 n (List.mem_cons_of_mem _ hn)
  have hown : s.vm.findClass own = some m.cls := by rw [← hyo]; exact findClass_of_methodNamed B.named
  have hcx : CallFix p m c cc nL s (vs.map (a_cv (fun k => b0 + k))).toArray a_T own := ⟨B.exec, B.bytes, hml, hown, hts⟩
  have hx := B.exec
  have hb := B.bytes
  have hr := B.returns
  have hlocks := B.notSynchronized
  have hin0 : meth.name = "<init>" := (name_of_methodNamed B.named B.method).1.trans hyn
  have hac : ∀ ty, ty = FieldType.int ∨ ty = .boolean ∨ ty = .long → (Jvm.Cond.arrayClass ty).before (vs.map (a_cv (fun k => b0 + k))).toArray s = true := by
    rintro ty (rfl | rfl | rfl)
    · exact hts _ (a_inT acI rfl)
    · exact hts _ (a_inT acZ rfl)
    · exact hts _ (a_inT acJ rfl)
  have hgr := a_fn2_grow (nL := nL) (tab := tab) (cb := cb) (fun idx na f hq => (hcb p e { frames := fr, cells := 0, slots := 0, locals := lo } s m _ below meth c (fun _ => True) dC dI cI cZ cJ b0 0 0 rfl rfl hcx hnw hK idx na f hq).1) vs w wf hf
  unfold a_fn2 at hf
  split at hf
  · rename_i k As
    rw [Bool.cond_eq_ite] at hf
    split at hf
    · rename_i hcat
      have hcat := Nat.le_of_ble_eq_true hcat
      rw [lg_entry_eq]
      refine a2_sound (b0 := b0) (n0 := w.length) (s0 := a_sz w) (H0 := s.heap) (wf := wf) (own := own) hcx hnw hK hin0 hac hnt hpt hft hoi oi2 oi3 (hcb p e _ s m _ below meth c _ dC dI cI cZ cJ b0 _ _ rfl rfl hcx hnw hK) hfr hlo ?_ ?_ hsz hsz ?_ htab 300 0 _ _ w s.heap [] _ 0 0 hf rfl rfl (a_lo_in hcat) hsz hP va_S.rf
      · show wf.length ≤ w.length + (wf.length - w.length); omega
      · show a_sz wf ≤ a_sz w + (a_sz wf - a_sz w); omega
      · intro pc ls H locs cells slots hd h1 h2 h3 hP1 hS1
        have e1 : cells = wf.length - w.length := by omega
        have e2 : slots = a_sz wf - a_sz w := by omega
        subst e1; subst e2
        exact W.vret hx hb hr (fun t ht hW => ⟨rfl, by rw [ht]; exact h3, by rw [ht]; exact hP1, va_K.moved hW.alike hK, hS1.F ht⟩) hS1.2.2 hd
    · cases hf
  · cases hf
theorem a_Pc2_blind {dC : Nat → ClassId} {dI : Nat → Nat → Nat} {cI cZ cJ : ClassId} {b0 : Nat} {vs : List Value} {w : List a_Cel} : FrameBlind (a_Pc2 dC dI cI cZ cJ b0 vs w) := fun a U g mk q => ⟨q.1, q.2.1, q.2.2.1, va_K.moved (u := U) (U := U.calling g mk a) (Vm.Alike.refl U.vm) q.2.2.2.1, a_Nw_same (u := U) (U := U.calling g mk a) rfl q.2.2.2.2⟩
theorem a_cl2 {p : Program} {l : Launch} {en : Env} {R : Room} {s : State} {m : MethodId} {args : Array Value} {below : List Frame} {meth : Method} {c : Code} {Q : State → Prop} {dC : Nat → ClassId} {dI : Nat → Nat → Nat} {cI cZ cJ : ClassId} {b0 n0 s0 : Nat} {H0 : Heap} {cc bytes : ByteArray} {nL maxL fr lo n idx na : Nat} {own : String} {y : MethodName} {tab : Nat → Option a_E} {cb : a_C2}
    (hM : a_Mt2 l y bytes maxL fr lo (a_fn2 maxL tab cb)) (hgr : a_grow (a_fn2 maxL tab cb)) (hcode : Jvm.Cond.code y bytes maxL none ∈ lw_tbl) (hini : Jvm.Cond.initialized y.cls ∈ lw_tbl) (hne : y.cls ≠ "java/lang/invoke/MethodHandle" ∧ y.cls ≠ "java/lang/invoke/VarHandle") (hpar : (parseMethodDescriptor y.desc).map (fun d => d.parameters.length) = some n) (hyn : y.name = "<init>") (hinst : Jvm.Cond.instanceMethod y ∈ lw_tbl)
    (hlk : a_lnk own idx y) (hna : na = n + 1) (hR : fr + 1 ≤ R.frames ∧ 8 + (maxL + 11) + lo ≤ R.locals)
    (hcx : CallFix p m c cc nL s args a_T own) (hnw : ∀ w ∈ a_N, va_Nw w s) (hK : va_K (dC, dI) vwCl (a_tys cI cZ cJ) s) :
    a_Cl2 p l en R s m args below meth c Q dC dI cI cZ cJ b0 n0 s0 H0 cc nL idx na (a_fn2 maxL tab cb) := by
  intro pc ls vs rest w w' H locs cells slots hd hvs hcats hf hls hce hsl hH hP hS hw1 hw2 kk
  have hcx0 := hcx
  obtain ⟨hx, hb, hml, hown, hts⟩ := hcx
  have hM' := hM dC dI cI cZ cJ b0 vs w w' hf
  have hg := hgr vs w w' hf
  have hsig : ∀ sig, parseMethodDescriptor y.desc = some sig → n = sig.parameters.length := fun sig h => by rw [h] at hpar; exact (Option.some.inj hpar).symm
  have hpay := pay_in hts (lw_goodIn y bytes maxL none hcode)
  have hWr : 2 * (F0 m pc ls ((vs.reverse ++ rest).map (a_cv (fun k => b0 + k)))).monitorRoom + ((rest.map (a_cv (fun k => b0 + k))).map fun v => v.category).sum ≤ 8 := lv_room (by rw [a_cats_sum]; exact hcats)
  have hvr : ∃ k As, vs = .ref k :: As := by
    unfold a_fn2 at hf
    split at hf
    · exact ⟨_, _, rfl⟩
    · cases hf
  obtain ⟨k, As, rfl⟩ := hvr
  have hlen : As.length = n := by
    simp only [List.length_cons] at hvs
    omega
  have hst : (F0 m pc ls (((Value.ref k :: As).reverse ++ rest).map (a_cv (fun k => b0 + k)))).stack = (As.map (a_cv (fun k => b0 + k))).reverse ++ .ref (b0 + k) :: rest.map (a_cv (fun k => b0 + k)) := by
    show ((Value.ref k :: As).reverse ++ rest).map (a_cv (fun k => b0 + k)) = _
    simp [a_cv]
  have hpre : PreS s H (a_Pc2 dC dI cI cZ cJ b0 (.ref k :: As) w) (.ref (b0 + k) :: As.map (a_cv (fun k => b0 + k))) := ⟨a_Pc2_blind, fun U hU hW => ⟨rfl, by rw [hU]; exact hH, by rw [hU]; exact hP, va_K.moved hW.alike hK, a_Nw_warm hW hnw⟩⟩
  have run : va_Run p l en R s m args below meth c H locs cells slots (w'.length - w.length) (a_sz w' - a_sz w) (F0 m pc ls (((Value.ref k :: As).reverse ++ rest).map (a_cv (fun k => b0 + k)))) (rest.map (a_cv (fun k => b0 + k))) (a_Qc2 dC dI cI cZ cJ b0 w' (Value.ref (b0 + k) :: As.map (a_cv (fun k => b0 + k))).toArray) (fun q => b0 ≤ q) := by
    rcases hlk with hlk | ⟨host, hlk⟩
    · exact va_runI (n := n) hcx0 hM' ⟨⟨rfl, rfl, hR.1, hR.2, hpay, List.mem_cons_self, hts _ (a_inT hcode rfl), hts _ (a_inT hini rfl), hne, hsig, hts _ (a_inT hlk rfl)⟩, hyn, hts _ (a_inT hinst rfl)⟩ hpre rfl (by simp [hlen]) hls hst hWr hd ⟨by omega, by omega⟩
    · exact va_runIN (n := n) hcx0 hM' ⟨⟨⟨rfl, rfl, hR.1, hR.2, hpay, List.mem_cons_self⟩, hts _ (a_inT hcode rfl), hts _ (a_inT hini rfl), hne, hsig, va_Nw.use rfl (hnw _ (a_inN hlk rfl))⟩, hyn, hts _ (a_inT hinst rfl)⟩ hpre rfl (by simp [hlen]) hls hst hWr hd ⟨by omega, by omega⟩
  intro T hT X
  obtain ⟨v, st₀, t, T', L, h0, X', hL, e1, e2, ⟨hv, hsz1, hP1, hK1, hz, hk⟩, st⟩ := run T hT X
  cases hv
  rw [h0] at hz hk
  obtain ⟨t2, a1, b1⟩ := kk T'.heap (locs ++ L) _ _ (show n0 + (cells + (w'.length - w.length)) = w'.length by omega) (show s0 + (slots + (a_sz w' - a_sz w)) = a_sz w' by omega) (by rw [e1]; exact hsz1) (by rw [e1]; exact hP1)
    ⟨Nat.le_trans hS.1 (by rw [e1]; exact hz), fun z h1 h2 => by rw [e1, hk z (Nat.lt_of_lt_of_le h1 hS.1) h2]; exact hS.2.1 z h1 h2, fun z hz => by
      rcases List.mem_append.mp hz with h | h
      · exact hS.2.2 z h
      · exact hL z h⟩ T' rfl X'
  exact ⟨t2, st t2 a1, b1⟩
/-! the world behind both constructors is the one of the layout, all numbers 0 -/
def a_c0 (k : Nat) : a_Cel := match a_ds k with
  | (0, ci) => (0, ci, (List.range (a_nf ci)).map (fun j => match a_fk ci j with
    | 0 => .int 0
    | 1 => .long 0
    | 2 => .int 0
    | _ => .ref (a_rf k j)))
  | (a, n) => (a, n, [])
def a_w0 (n : Nat) : List a_Cel := (List.range n).map a_c0
def a_M0 : a_M := (fun _ _ => 0, fun _ _ => 0)
theorem a_w0_ws (cI cZ cJ : ClassId) (b0 : Nat) : a_w2 cI cZ cJ b0 (a_w0 103) = a_ws cI cZ cJ (fun k => b0 + k) a_M0 := by
  unfold a_w2 a_ws
  have hl : (a_w0 103).length = 103 := by simp [a_w0]
  rw [hl]
  apply List.map_congr_left
  intro k hk
  have hk : k < 103 := List.mem_range.mp hk
  have h1 : (a_w0 103).getD k (9, 0, []) = a_c0 k := by
    rw [List.getD_eq_getElem?_getD]
    simp [a_w0, hk]
  rw [h1]
  have h4 : ∀ k, k < 103 → (a_ds k).1 < 4 := by decide +kernel
  have h5 := h4 k hk
  have key : a_e2 cI cZ cJ (fun k => b0 + k) (a_c0 k) = a_en cI cZ cJ (fun k => b0 + k) a_M0 k := by
    unfold a_c0 a_en
    cases hds : a_ds k with
    | mk a n =>
      rw [hds] at h5
      match a, h5 with
      | 0, _ =>
        simp only [a_e2, List.map_map]
        congr 2
        apply List.map_congr_left
        intro j _
        simp only [Function.comp, a_fv]
        generalize a_fk n j = z
        match z with
        | 0 => rfl
        | 1 => rfl
        | 2 => rfl
        | (_ + 3) => rfl
      | 1, _ => rfl
      | 2, _ => rfl
      | 3, _ => rfl
  rw [key]
