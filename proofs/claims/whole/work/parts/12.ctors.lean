def a_e2 (cI cZ cJ : ClassId) (ad : Nat → Nat) (c : a_Cel) : va_E := match c with
  | (0, ci, fs) => .inr (ci, fs.map (a_cv ad))
  | (1, n, _) => .inl (cI, n, .inl (fun _ => 0))
  | (2, n, _) => .inl (cZ, n, .inl (fun _ => 0))
  | (_, n, _) => .inl (cJ, n, .inr (.inl (fun _ => 0)))
def a_w2 (cI cZ cJ : ClassId) (b0 : Nat) (w : List a_Cel) : va_W := (List.range w.length).map (fun k => (b0 + k, a_e2 cI cZ cJ (fun k => b0 + k) (w.getD k (9, 0, []))))
theorem a_w2_at {cI cZ cJ : ClassId} {b0 : Nat} {w : List a_Cel} {k : Nat} {c : a_Cel} (h : w[k]? = some c) : (a_w2 cI cZ cJ b0 w)[k]? = some (b0 + k, a_e2 cI cZ cJ (fun k => b0 + k) c) := by
  have hk := (List.getElem?_eq_some_iff.mp h).1
  unfold a_w2
  rw [List.getElem?_map, List.getElem?_range hk, Option.map_some, List.getD_eq_getElem?_getD, h]
  rfl
theorem a_w2_lt {cI cZ cJ : ClassId} {b0 : Nat} {w : List a_Cel} {k : Nat} {q : Nat × va_E} (h : (a_w2 cI cZ cJ b0 w)[k]? = some q) : ∃ c, w[k]? = some c ∧ q = (b0 + k, a_e2 cI cZ cJ (fun k => b0 + k) c) := by
  have hk : k < w.length := by
    have := (List.getElem?_eq_some_iff.mp h).1
    simpa [a_w2] using this
  refine ⟨w[k], List.getElem?_eq_getElem hk, ?_⟩
  rw [a_w2_at (List.getElem?_eq_getElem hk)] at h
  exact (Option.some.inj h).symm
theorem a_w2_set {cI cZ cJ : ClassId} {b0 : Nat} {w : List a_Cel} {k : Nat} {c : a_Cel} : (a_w2 cI cZ cJ b0 w).set k (b0 + k, a_e2 cI cZ cJ (fun k => b0 + k) c) = a_w2 cI cZ cJ b0 (w.set k c) := by
  apply List.ext_getElem?
  intro j
  by_cases hjk : j = k
  · subst hjk
    by_cases hj : j < w.length
    · rw [List.getElem?_set_self (by simpa [a_w2] using hj), a_w2_at (List.getElem?_set_self hj)]
    · rw [List.getElem?_eq_none (by simpa [a_w2] using hj), List.getElem?_eq_none (by simpa [a_w2] using hj)]
  · rw [List.getElem?_set_ne (Ne.symm hjk)]
    by_cases hj : j < w.length
    · rw [a_w2_at (List.getElem?_eq_getElem hj), a_w2_at (w := w.set k c) (by rw [List.getElem?_set_ne (Ne.symm hjk)]; exact List.getElem?_eq_getElem hj)]
    · rw [List.getElem?_eq_none (by simpa [a_w2] using hj), List.getElem?_eq_none (by simpa [a_w2] using hj)]
theorem a_w2_D {cI cZ cJ : ClassId} {b0 : Nat} {w : List a_Cel} : va_D (fun q => b0 ≤ q) (a_w2 cI cZ cJ b0 w) := by
  refine ⟨fun i j x y hi hj hxy => ?_, fun k q hk => ?_⟩
  · obtain ⟨_, -, rfl⟩ := a_w2_lt hi
    obtain ⟨_, -, rfl⟩ := a_w2_lt hj
    dsimp only at hxy
    omega
  · obtain ⟨_, -, rfl⟩ := a_w2_lt hk
    exact Nat.le_add_right _ _
/-- an entry of a pool that names a class to be made; a final field to be laid -/
def a_CN (own : String) (idx ci : Nat) : Prop := ∃ (C : String) (T : u_T) (N : Nat) (ty0 : Nat → FieldType), vwCl[ci]? = some (C, T, N) ∧ N = a_nf ci ∧ (∀ w ∈ u_ws C T N, w ∈ a_T) ∧ (∀ k, k < N → parseFieldDescriptor (T k).2.2.1 = some (ty0 k)) ∧ (∀ j, j < N → defaultValue (ty0 j) = a_dv (a_fk ci j)) ∧ Jvm.Cond.classLink own idx C ∈ lw_tbl ∧ Jvm.Cond.instantiable C N ∈ lw_tbl ∧ Jvm.Cond.initialized C ∈ lw_tbl
def a_CP (own : String) (idx x y : Nat) : Prop := ∃ (T : u_T) (N : Nat) (ty0 : Nat → FieldType), vwCl[x]? = some (own, T, N) ∧ N = a_nf x ∧ y < N ∧ (∀ w ∈ u_ws own T N, w ∈ a_T) ∧ (∀ k, k < N → parseFieldDescriptor (T k).2.2.1 = some (ty0 k)) ∧ (∀ a, a < N → ∀ b, b < N → a ≠ b → (T a).2.1 ≠ (T b).2.1) ∧ (T y).1 = own ∧ (T y).2.2.2 = true ∧ ((∃ n, ty0 y = .object n) ∨ ∃ t, ty0 y = .array t) ∧ Jvm.Cond.fieldLink own idx own (T y).2.1 (T y).2.2.1 ∈ lw_tbl
def a_ok2 (nt : List (Nat × Nat)) (pt ft : List (Nat × Nat × Nat)) (oi : Nat) (pc : Nat) (e : a_E) : Bool := match e with
  | (i, len, x, y, v, _, _, _) => match i with
  | .iconst n => Nat.beq len 1 && decide (Int32.ofInt n = v)
  | .bipush n => Nat.beq len 2 && decide ((Int8.ofInt n).toInt32 = v)
  | .sipush n => Nat.beq len 3 && decide ((Int16.ofInt n).toInt32 = v)
  | .aload k => Nat.beq len 2 && Nat.beq k x
  | .aload_n k => Nat.beq len 1 && Nat.beq (k : Nat) x
  | .dup => Nat.beq len 1
  | .return_ => Nat.beq len 1
  | .new idx => Nat.beq len 3 && decide ((idx, x) ∈ nt)
  | .newarray _ => Nat.beq len 2
  | .putfield idx => Nat.beq len 3 && (bif Nat.beq (a_fk x y) 3 then decide ((idx, x, y) ∈ pt) else decide ((idx, x, y) ∈ ft))
  | .getfield idx => Nat.beq len 3 && decide ((idx, x, y) ∈ ft)
  | .invokespecial idx => Nat.beq len 3 && (bif Nat.beq y 1 then Nat.beq idx oi else true)
  | _ => false
section ACTOR
variable {p : Program} {l : Launch} {en : Env} {R : Room} {s : State} {m : MethodId} {args : Array Value} {below : List Frame} {meth : Method} {c : Code} {Q : State → Prop}
variable {dC : Nat → ClassId} {dI : Nat → Nat → Nat} {cI cZ cJ : ClassId} {b0 n0 s0 : Nat} {H0 : Heap} {cc : ByteArray} {nL : Nat} {own : String} {wf : List a_Cel}
theorem a_size {H : Heap} {locs : List Loc} {cells slots : Nat} {g : JFrame} (h : H.size ≤ s.heap.size + cells → W p l en R s m args below meth c H locs cells slots Q g) : W p l en R s m args below meth c H locs cells slots Q g :=
  fun T hT X => h (by rw [← hT]; exact X.heapSize) T hT X
def a_Cl2 (p : Program) (l : Launch) (en : Env) (R : Room) (s : State) (m : MethodId) (args : Array Value) (below : List Frame) (meth : Method) (c : Code) (Q : State → Prop) (dC : Nat → ClassId) (dI : Nat → Nat → Nat) (cI cZ cJ : ClassId) (b0 n0 s0 : Nat) (H0 : Heap) (cc : ByteArray) (nL : Nat) (idx na : Nat) (f : a_F2) : Prop :=
  ∀ (pc : Nat) (ls : Array Slot) (vs rest : List Value) (w w' : List a_Cel) (H : Heap) (locs : List Loc) (cells slots : Nat), decode cc pc = .ok (.invokespecial idx, 3) → vs.length = na → a_cats rest ≤ 8 → f vs w = some w' → ls.size = nL → n0 + cells = w.length → s0 + slots = a_sz w → H.size = b0 + w.length →
    va_P (dC, dI) vwCl (a_w2 cI cZ cJ b0 w) H → va_S (fun q => b0 ≤ q) H0 H locs → w'.length ≤ n0 + R.cells → a_sz w' ≤ s0 + R.slots →
    (∀ (H1 : Heap) (locs1 : List Loc) (cells1 slots1 : Nat), n0 + cells1 = w'.length → s0 + slots1 = a_sz w' → H1.size = b0 + w'.length → va_P (dC, dI) vwCl (a_w2 cI cZ cJ b0 w') H1 → va_S (fun q => b0 ≤ q) H0 H1 locs1 → W p l en R s m args below meth c H1 locs1 cells1 slots1 Q (F0 m (pc + 3) ls (rest.map (a_cv (fun k => b0 + k))))) →
    W p l en R s m args below meth c H locs cells slots Q (F0 m pc ls ((vs.reverse ++ rest).map (a_cv (fun k => b0 + k))))
set_option maxHeartbeats 4000000 in
theorem a2_sound {nt : List (Nat × Nat)} {pt ft : List (Nat × Nat × Nat)} {oi : Nat} {tab : Nat → Option a_E} {cb : a_C2}
    (hcx : CallFix p m c cc nL s args a_T own) (hnw : ∀ w ∈ a_N, va_Nw w s) (hK : va_K (dC, dI) vwCl (a_tys cI cZ cJ) s) (hin0 : meth.name = "<init>")
    (hac : ∀ ty, ty = FieldType.int ∨ ty = .boolean ∨ ty = .long → (Jvm.Cond.arrayClass ty).before args s = true)
    (hnt : ∀ q ∈ nt, a_CN own q.1 q.2) (hpt : ∀ q ∈ pt, a_CP own q.1 q.2.1 q.2.2) (hft : ∀ q ∈ ft, a_CF own q.1 q.2.1 q.2.2)
    (hoi : Jvm.Cond.methodLink own oi objectInit ∈ lw_tbl) (hoi2 : Jvm.Cond.instanceMethod objectInit ∈ lw_tbl) (hoi3 : Jvm.Cond.code objectInit ⟨#[0xb1]⟩ 1 none ∈ lw_tbl)
    (hcb : ∀ idx na f, cb idx = some (na, f) → a_grow f ∧ a_Cl2 p l en R s m args below meth c Q dC dI cI cZ cJ b0 n0 s0 H0 cc nL idx na f)
    (hRf : 1 ≤ R.frames) (hRl : 20 ≤ R.locals) (hRc : wf.length ≤ n0 + R.cells) (hRs : a_sz wf ≤ s0 + R.slots) (hs0 : s.heap.size = b0 + n0) (hH0 : H0.size = b0 + n0)
    (hret : ∀ (pc : Nat) (ls : Array Slot) (H : Heap) (locs : List Loc) (cells slots : Nat), decode cc pc = .ok (.return_, 1) → n0 + cells = wf.length → s0 + slots = a_sz wf → H.size = b0 + wf.length → va_P (dC, dI) vwCl (a_w2 cI cZ cJ b0 wf) H → va_S (fun q => b0 ≤ q) H0 H locs → W p l en R s m args below meth c H locs cells slots Q (F0 m pc ls []))
    (htab : ∀ pc e, tab pc = some e → decode cc pc = .ok (e.1, e.2.1) ∧ a_ok2 nt pt ft oi pc e = true) (n : Nat) :
    ∀ (pc : Nat) (L st : List Value) (w : List a_Cel) (H : Heap) (locs : List Loc) (ls : Array Slot) (cells slots : Nat), a_ev2 tab cb n pc L st w = some wf → n0 + cells = w.length → s0 + slots = a_sz w → a_lo (fun k => b0 + k) ls nL L → H.size = b0 + w.length → va_P (dC, dI) vwCl (a_w2 cI cZ cJ b0 w) H → va_S (fun q => b0 ≤ q) H0 H locs → W p l en R s m args below meth c H locs cells slots Q (F0 m pc ls (st.map (a_cv (fun k => b0 + k)))) := by
  have hgrow : ∀ (n pc : Nat) (L st : List Value) (w w' : List a_Cel), a_ev2 tab cb n pc L st w = some w' → w.length ≤ w'.length ∧ a_sz w ≤ a_sz w' := fun n pc L st w w' h => a_ev2_grow (fun idx na f hq => (hcb idx na f hq).1) n pc L st w w' h
  have hcx0 := hcx
  obtain ⟨hx, hb, hml, hown, hts⟩ := hcx
  induction n with
  | zero => intro pc L st w H locs ls cells slots h; cases h
  | succ n ih =>
    intro pc L st w H locs ls cells slots h hce hsl hl hH hP hS
    have hD : va_D (fun q => b0 ≤ q) (a_w2 cI cZ cJ b0 w) := a_w2_D
    have hA : ∀ q, H0.size ≤ q → b0 ≤ q := fun q hq => by omega
    unfold a_ev2 at h
    split at h
    · cases h
    · rename_i i len x y v z1 z2 z3 ht
      obtain ⟨hd, hok⟩ := htab _ _ ht
      dsimp only at hd
      split at h
      · simp only [a_ok2, Bool.and_eq_true, decide_eq_true_eq] at hok
        obtain rfl := Nat.eq_of_beq_eq_true hok.1
        exact lv_iconst hx hb hd hok.2 (ih _ _ _ _ _ _ _ _ _ h hce hsl hl hH hP hS)
      · simp only [a_ok2, Bool.and_eq_true, decide_eq_true_eq] at hok
        obtain rfl := Nat.eq_of_beq_eq_true hok.1
        exact lv_bipush hx hb hd hok.2 (ih _ _ _ _ _ _ _ _ _ h hce hsl hl hH hP hS)
      · simp only [a_ok2, Bool.and_eq_true, decide_eq_true_eq] at hok
        obtain rfl := Nat.eq_of_beq_eq_true hok.1
        exact lv_sipush hx hb hd hok.2 (ih _ _ _ _ _ _ _ _ _ h hce hsl hl hH hP hS)
      · simp only [a_ok2, Bool.and_eq_true] at hok
        obtain rfl := Nat.eq_of_beq_eq_true hok.1
        obtain rfl := Nat.eq_of_beq_eq_true hok.2
        split at h
        · rename_i a ha
          exact lv_aload hx hb hd (hl.get ha (by simp)) (ih _ _ _ _ _ _ _ _ _ h hce hsl hl hH hP hS)
        · cases h
      · simp only [a_ok2, Bool.and_eq_true] at hok
        obtain rfl := Nat.eq_of_beq_eq_true hok.1
        obtain rfl := Nat.eq_of_beq_eq_true hok.2
        split at h
        · rename_i a ha
          exact lv_aload_n hx hb hd rfl (hl.get ha (by simp)) (ih _ _ _ _ _ _ _ _ _ h hce hsl hl hH hP hS)
        · cases h
      · obtain rfl := Nat.eq_of_beq_eq_true hok
        split at h
        · exact lv_dup hx hb hd rfl (ih _ _ _ _ _ _ _ _ _ h hce hsl hl hH hP hS)
        · cases h
      · rename_i idx
        simp only [a_ok2, Bool.and_eq_true, decide_eq_true_eq] at hok
        obtain rfl := Nat.eq_of_beq_eq_true hok.1
        have hcn : a_CN own idx x := hnt _ hok.2
        obtain ⟨C, T, N, ty0, hcl, rfl, hin, hty, hdf, hlk, hins, hini⟩ := hcn
        have hg := hgrow _ _ _ _ _ _ h
        rw [List.length_append, a_sz_app] at hg
        have hcz : a_cz (0, x, (List.range (a_nf x)).map (fun j => a_dv (a_fk x j))) = a_nf x := by simp [a_cz]
        rw [hcz] at hg
        simp only [List.length_cons, List.length_nil] at hg
        have hKn := hK.1 x _ hcl
        refine W.newcK hx hb hown (hts _ (a_inT hlk rfl)) (hts _ (a_inT hins rfl)) (hts _ (a_inT hini rfl)) rfl hd (by omega) (by omega) hKn.2.1 hH fun H1 kC hkC e1 z1 o1 => ?_
        refine ih _ _ _ _ _ _ _ _ _ h (by simp; omega) (by rw [a_sz_app, hcz]; omega) hl (by rw [z1, List.length_append]; simp; omega) ?_ ⟨by rw [z1]; have := hS.1; omega, fun q h1 h2 => (o1 q (by have := hS.1; omega)).trans (hS.2.1 q h1 h2), hS.2.2⟩
        intro k q hk
        obtain ⟨c1, hc1, rfl⟩ := a_w2_lt hk
        by_cases hkl : k < w.length
        · rw [List.getElem?_append_left hkl] at hc1
          exact (hP k _ (a_w2_at hc1)).kept (o1 _ (by dsimp only; omega))
        · rw [List.getElem?_append_right (by omega)] at hc1
          have hz : k - w.length < 1 := (List.getElem?_eq_some_iff.mp hc1).1
          rw [show k - w.length = 0 by omega] at hc1
          cases hc1
          rw [show k = w.length by omega]
          refine ⟨_, hcl, (u_born ty0 hts hin hKn hkC e1 hty).to (fun j hj => ?_)⟩
          rw [hdf j hj]
          simp only [vp_V, List.map_map]
          rw [List.getD_eq_getElem?_getD, List.getElem?_map, List.getElem?_range hj]
          show a_dv _ = a_cv _ (a_dv _)
          unfold a_dv
          split <;> rfl
      · rename_i t
        obtain rfl := Nat.eq_of_beq_eq_true hok
        split at h
        · rename_i k r
          cases hbq : (decide (¬ k < 0) && Nat.ble k.toNatClampNeg 10000 && Nat.ble (a_nat t) 3) with
          | false => rw [hbq] at h; cases h
          | true =>
            rw [hbq] at h
            simp only [Bool.and_eq_true, decide_eq_true_eq] at hbq
            obtain ⟨⟨hk0, hk1⟩, hk2⟩ := hbq
            have hk1 := Nat.le_of_ble_eq_true hk1
            have hk2 := Nat.le_of_ble_eq_true hk2
            dsimp only [cond] at h
            have hg := hgrow _ _ _ _ _ _ h
            rw [List.length_append, a_sz_app] at hg
            have ht3 : ∃ ty, newarray.typeOf t = ty ∧ (ty = FieldType.int ∨ ty = .boolean ∨ ty = .long) ∧ a_cz (a_nat t, k.toNatClampNeg, []) = k.toNatClampNeg ∧ componentBytes ty ≤ 8 ∧ ∃ cA0, ∀ (cA : ClassId), s.vm.findClass ("[" ++ ty.toString) = some cA → cA = cA0 ∧ vp_cell cA0 (k.toNatClampNeg, (match a_nat t with | 3 => Sum.inr (Sum.inl (fun _ => 0)) | _ => Sum.inl (fun _ => 0))) = arrV cA k.toNatClampNeg (fun _ => defaultValue ty) ∧ a_e2 cI cZ cJ (fun k => b0 + k) (a_nat t, k.toNatClampNeg, []) = .inl (cA0, k.toNatClampNeg, (match a_nat t with | 3 => Sum.inr (Sum.inl (fun _ => 0)) | _ => Sum.inl (fun _ => 0))) := by
              have h1 : s.vm.findClass ("[" ++ FieldType.int.toString) = some cI := (hK.2 0 _ rfl).2
              have h2 : s.vm.findClass ("[" ++ FieldType.boolean.toString) = some cZ := (hK.2 1 _ rfl).2
              have h3 : s.vm.findClass ("[" ++ FieldType.long.toString) = some cJ := (hK.2 2 _ rfl).2
              cases t <;> simp only [a_nat] at hk2 <;> first
                | exact absurd hk2 (by decide)
                | exact ⟨.boolean, rfl, Or.inr (Or.inl rfl), rfl, by decide, cZ, fun cA hcA => by rw [h2] at hcA; cases hcA; exact ⟨rfl, rfl, rfl⟩⟩
                | exact ⟨.int, rfl, Or.inl rfl, rfl, by decide, cI, fun cA hcA => by rw [h1] at hcA; cases hcA; exact ⟨rfl, rfl, rfl⟩⟩
                | exact ⟨.long, rfl, Or.inr (Or.inr rfl), rfl, by decide, cJ, fun cA hcA => by rw [h3] at hcA; cases hcA; exact ⟨rfl, rfl, rfl⟩⟩
            obtain ⟨ty, hty, hty3, hcz, hcb8, cA0, hcA⟩ := ht3
            rw [hcz] at hg
            simp only [List.length_cons, List.length_nil] at hg
            refine va_newaK hx hb (atype := t) (by rw [hty]; exact hac ty hty3) rfl hd rfl hk0 rfl (by rw [hty]; calc k.toNatClampNeg * componentBytes ty ≤ 10000 * 8 := Nat.mul_le_mul hk1 hcb8
                                                                                                                    _ ≤ 536870912 := by decide) (by omega) (by omega) hH fun H1 cA e1 z1 o1 hAr hNm => ?_
            rw [hty] at hNm e1
            obtain ⟨rfl, hc1, hc2⟩ := hcA cA hNm
            refine ih _ _ _ _ _ _ _ _ _ h (by simp; omega) (by rw [a_sz_app, hcz]; omega) hl (by rw [z1, List.length_append]; simp; omega) ?_ ⟨by rw [z1]; have := hS.1; omega, fun q h1 h2 => (o1 q (by have := hS.1; omega)).trans (hS.2.1 q h1 h2), hS.2.2⟩
            intro j q hj
            obtain ⟨c1, hc1', rfl⟩ := a_w2_lt hj
            by_cases hkl : j < w.length
            · rw [List.getElem?_append_left hkl] at hc1'
              exact (hP j _ (a_w2_at hc1')).kept (o1 _ (by dsimp only; omega))
            · rw [List.getElem?_append_right (by omega)] at hc1'
              have hz : j - w.length < 1 := (List.getElem?_eq_some_iff.mp hc1').1
              rw [show j - w.length = 0 by omega] at hc1'
              cases hc1'
              rw [show j = w.length by omega, hc2]
              show H1[b0 + w.length]? = some (vp_cell _ _)
              rw [e1, hc1]
        · cases h
      · rename_i idx
        simp only [a_ok2, Bool.and_eq_true] at hok
        obtain rfl := Nat.eq_of_beq_eq_true hok.1
        split at h
        · rename_i q k r
          split at h
          · rename_i ci fs hw
            rw [Bool.cond_eq_ite] at h
            split at h
            · rename_i hbb
              simp only [Bool.and_eq_true] at hbb
              obtain ⟨⟨h1, h2⟩, h3⟩ := hbb
              obtain rfl := Nat.eq_of_beq_eq_true h1
              have h3 : y < fs.length := Nat.le_of_ble_eq_true h3
              have hok2 := hok.2
              rw [h2] at hok2
              obtain ⟨T, N, ty0, hcl, rfl, hyN, hin, hty, hnm, hC, hfin, hobj, hlk⟩ := (hpt _ (of_decide_eq_true hok2) : a_CP own idx _ y)
              refine va_putF (v := .ref (b0 + q)) (ty := ty0 y) hx hb hts hin ty0 hty hnm hown hK hP hD hS k (a_w2_at hw) hcl y hyN (hts _ (a_inT hlk rfl)) (fun z hz => by rw [← hC]; exact hz) hfin hin0 hC (hty y hyN) ?_ ?_ (by simpa using h3) hd (fun H1 locs1 hP1 hD1 hS1 => a_size fun hsz => ?_)
              · rcases hobj with ⟨_, ho⟩ | ⟨_, ho⟩ <;> (rw [ho]; rfl)
              · rcases hobj with ⟨_, ho⟩ | ⟨_, ho⟩ <;> (rw [ho]; rfl)
              · have hset : (a_w2 cI cZ cJ b0 w).set k (b0 + k, .inr (ci, (fs.map (a_cv (fun k => b0 + k))).set y (.ref (b0 + q)))) = a_w2 cI cZ cJ b0 (w.set k (0, ci, fs.set y (.ref q))) := by
                  rw [← a_w2_set]
                  simp only [a_e2, List.map_set]
                  rfl
                rw [hset] at hP1
                have hsz2 : H1.size = b0 + (w.set k (0, ci, fs.set y (.ref q))).length := by
                  have hkl := (List.getElem?_eq_some_iff.mp hw).1
                  have hlast : (w.set k (0, ci, fs.set y (.ref q)))[w.length - 1]? = some ((w.set k (0, ci, fs.set y (.ref q)))[w.length - 1]'(by simp; omega)) := List.getElem?_eq_getElem _
                  have := (hP1 _ _ (a_w2_at hlast)).lt
                  dsimp only at this
                  rw [List.length_set]
                  omega
                exact ih _ _ _ _ _ _ _ _ _ h (by rw [List.length_set]; exact hce) (by rw [a_sz_set hw (by simp [a_cz])]; exact hsl) hl hsz2 hP1 hS1
            · cases h
          · cases h
        · rename_i q k r
          split at h
          · rename_i ci fs hw
            rw [Bool.cond_eq_ite] at h
            split at h
            · rename_i hbb
              simp only [Bool.and_eq_true, decide_eq_true_eq] at hbb
              obtain ⟨⟨⟨h1, h2⟩, h3⟩, rfl⟩ := hbb
              obtain rfl := Nat.eq_of_beq_eq_true h1
              have h2 := Nat.eq_of_beq_eq_true h2
              have h3 : y < fs.length := Nat.le_of_ble_eq_true h3
              have hok2 := hok.2
              rw [h2] at hok2
              obtain ⟨C, T, N, ty0, hcl, rfl, hyN, hin, hty, hnm, hC, hfk, hlk⟩ := (hft _ (of_decide_eq_true hok2) : a_CF own idx _ y)
              rcases hfk with hfk | ⟨hfin, ⟨hf, -⟩ | ⟨hf, -⟩ | ⟨hf, hbo⟩⟩
              · rw [h2] at hfk; cases hfk
              · rw [h2] at hf; cases hf
              · rw [h2] at hf; cases hf
              rcases hlk with hlk | ⟨host, hlk⟩
              · refine va_put (v := .int 0) (ty := .boolean) hx hb hts hin ty0 hty hnm hown hK hP hD hS k (a_w2_at hw) hcl y hyN (hts _ (a_inT hlk rfl)) (fun z hz => by rw [← hC]; exact hz) hfin (by rw [hty y hyN, hbo]) (by decide) (by decide) (by simpa using h3) hd (fun H1 locs1 hP1 hD1 hS1 => a_size fun hsz => ?_)
                have hset : (a_w2 cI cZ cJ b0 w).set k (b0 + k, .inr (ci, (fs.map (a_cv (fun k => b0 + k))).set y (.int 0))) = a_w2 cI cZ cJ b0 (w.set k (0, ci, fs.set y (.int 0))) := by
                  rw [← a_w2_set]
                  simp only [a_e2, List.map_set]
                  rfl
                rw [hset] at hP1
                have hsz2 : H1.size = b0 + (w.set k (0, ci, fs.set y (.int 0))).length := by
                  have hkl := (List.getElem?_eq_some_iff.mp hw).1
                  have hlast : (w.set k (0, ci, fs.set y (.int 0)))[w.length - 1]? = some ((w.set k (0, ci, fs.set y (.int 0)))[w.length - 1]'(by simp; omega)) := List.getElem?_eq_getElem _
                  have := (hP1 _ _ (a_w2_at hlast)).lt
                  dsimp only at this
                  rw [List.length_set]
                  omega
                exact ih _ _ _ _ _ _ _ _ _ h (by rw [List.length_set]; exact hce) (by rw [a_sz_set hw (by simp [a_cz])]; exact hsl) hl hsz2 hP1 hS1
              · refine va_putN (v := .int 0) (ty := .boolean) hx hb hts hin ty0 hty hnm hown hK hP hD hS k (a_w2_at hw) hcl y hyN (va_Nw.use rfl (hnw _ (a_inN hlk rfl))) (fun z hz => by rw [← hC]; exact hz) hfin (by rw [hty y hyN, hbo]) (by decide) (by decide) (by simpa using h3) hd (fun H1 locs1 hP1 hD1 hS1 => a_size fun hsz => ?_)
                have hset : (a_w2 cI cZ cJ b0 w).set k (b0 + k, .inr (ci, (fs.map (a_cv (fun k => b0 + k))).set y (.int 0))) = a_w2 cI cZ cJ b0 (w.set k (0, ci, fs.set y (.int 0))) := by
                  rw [← a_w2_set]
                  simp only [a_e2, List.map_set]
                  rfl
                rw [hset] at hP1
                have hsz2 : H1.size = b0 + (w.set k (0, ci, fs.set y (.int 0))).length := by
                  have hkl := (List.getElem?_eq_some_iff.mp hw).1
                  have hlast : (w.set k (0, ci, fs.set y (.int 0)))[w.length - 1]? = some ((w.set k (0, ci, fs.set y (.int 0)))[w.length - 1]'(by simp; omega)) := List.getElem?_eq_getElem _
                  have := (hP1 _ _ (a_w2_at hlast)).lt
                  dsimp only at this
                  rw [List.length_set]
                  omega
                exact ih _ _ _ _ _ _ _ _ _ h (by rw [List.length_set]; exact hce) (by rw [a_sz_set hw (by simp [a_cz])]; exact hsl) hl hsz2 hP1 hS1
            · cases h
          · cases h
        · cases h
      · rename_i idx
        simp only [a_ok2, Bool.and_eq_true, decide_eq_true_eq] at hok
        obtain rfl := Nat.eq_of_beq_eq_true hok.1
        obtain ⟨C, T, N, ty0, hcl, rfl, hyN, hin, hty, hnm, hC, hfk, hlk⟩ := (hft _ hok.2 : a_CF own idx x y)
        split at h
        · rename_i k r
          split at h
          · rename_i ci fs hw
            split at h
            · rename_i q hq
              rw [Bool.cond_eq_ite] at h
              split at h
              · rename_i hbb
                obtain rfl := Nat.eq_of_beq_eq_true hbb
                have hv : (fs.map (a_cv (fun k => b0 + k)))[y]? = some (.ref (b0 + q)) := by rw [List.getElem?_map, hq]; rfl
                rcases hlk with hlk | ⟨host, hlk⟩
                · exact va_get hx hb hts hin hown hK hP k (a_w2_at hw) hcl y hyN (hts _ (a_inT hlk rfl)) (fun z hz => by rw [← hC]; exact hz) hv hd (ih _ _ _ _ _ _ _ _ _ h hce hsl hl hH hP hS)
                · exact va_getN hx hb hts hin hown hK hP k (a_w2_at hw) hcl y hyN (va_Nw.use rfl (hnw _ (a_inN hlk rfl))) (fun z hz => by rw [← hC]; exact hz) hv hd (ih _ _ _ _ _ _ _ _ _ h hce hsl hl hH hP hS)
              · cases h
            · cases h
          · cases h
        · cases h
      · rename_i idx
        simp only [a_ok2, Bool.and_eq_true] at hok
        obtain rfl := Nat.eq_of_beq_eq_true hok.1
        rw [Bool.cond_eq_ite] at h
        split at h
        · rename_i hy1
          have hok2 := hok.2
          rw [hy1] at hok2
          obtain rfl := Nat.eq_of_beq_eq_true hok2
          split at h
          · rename_i k r
            rw [Bool.cond_eq_ite] at h
            split at h
            · rename_i hcr
              have hcr := Nat.le_of_ble_eq_true hcr
              exact W.objInit hx hb hown (hts _ (a_inT hoi rfl)) (hts _ (a_inT hoi2 rfl)) (hts _ (a_inT hoi3 rfl)) rfl (hl.1.trans hml.symm) rfl hd hRf (by have := lv_room (pc := pc) (m := m) (ls := ls) (rest := r.map (a_cv (fun k => b0 + k))) (st := r.map (a_cv (fun k => b0 + k))) (by rw [a_cats_sum]; exact hcr); exact Nat.le_trans (Nat.add_le_add_right this 12) hRl) (ih _ _ _ _ _ _ _ _ _ h hce hsl hl hH hP hS)
            · cases h
          · cases h
        · split at h
          · rename_i na f hcbi
            rw [Bool.cond_eq_ite] at h
            split at h
            · rename_i hbb
              simp only [Bool.and_eq_true] at hbb
              have h1 := Nat.le_of_ble_eq_true hbb.1
              have h2 := Nat.le_of_ble_eq_true hbb.2
              split at h
              · rename_i w1 hf
                have hg := hgrow _ _ _ _ _ _ h
                have key := (hcb idx na f hcbi).2 pc ls (st.take na).reverse (st.drop na) w w1 H locs cells slots hd (by simp [h1]) h2 hf hl.1 hce hsl hH hP hS (by omega) (by omega) (fun H1 locs1 cells1 slots1 e1 e2 e3 hP1 hS1 => ih _ _ _ _ _ _ _ _ _ h e1 e2 hl e3 hP1 hS1)
                rw [List.reverse_reverse, List.take_append_drop] at key
                exact key
              · cases h
            · cases h
          · cases h
      · obtain rfl := Nat.eq_of_beq_eq_true hok
        split at h
        · cases h
          exact hret pc ls H locs cells slots hd hce hsl hH hP hS
        · cases h
      · cases h
end ACTOR
