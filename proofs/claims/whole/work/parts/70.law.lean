/-! ===== the loop of the law ===== -/
theorem i_I_0 : i_I a_M0 := by
  refine ⟨⟨0, 0, 0, 0, 0, 0, 0, 0, 0, 0, 0, ?_⟩, fun h => absurd rfl h⟩
  refine ⟨⟨Nat.zero_le _, rfl, rfl, rfl⟩, ⟨Nat.zero_le _, rfl, rfl, rfl, rfl, rfl, fun i j h => absurd h (Nat.not_lt_zero _), fun i h => absurd h (Nat.not_lt_zero _)⟩, ?_, ⟨Nat.zero_le _, rfl, rfl, rfl, rfl, fun i h => absurd h (Nat.not_lt_zero _)⟩, ⟨Nat.zero_le _, rfl, rfl, rfl, rfl, fun i h => absurd h (Nat.not_lt_zero _), fun i j h => absurd h (Nat.not_lt_zero _), fun _ _ _ => rfl⟩, ⟨Nat.zero_le _, rfl, rfl, rfl, rfl, rfl, fun i h => absurd h (Nat.not_lt_zero _)⟩, ⟨Nat.zero_le _, rfl, rfl, rfl, fun i h => absurd h (Nat.not_lt_zero _), fun i j h => absurd h (Nat.not_lt_zero _)⟩, ⟨Nat.zero_le _, rfl, rfl, rfl, rfl, rfl, rfl, rfl, rfl, fun i h => absurd h (Nat.not_lt_zero _)⟩, ⟨Nat.zero_le _, rfl, rfl, rfl, fun i h => absurd h (Nat.not_lt_zero _)⟩, ⟨0, fun _ => 0, 0, Nat.zero_le _, rfl, rfl, rfl, Nat.zero_le _, fun i h => absurd h (Nat.not_lt_zero _), rfl⟩, ⟨Nat.zero_le _, rfl, rfl, fun i h => absurd h (Nat.not_lt_zero _)⟩⟩
  exact ⟨Nat.zero_le _, Nat.zero_le _, rfl, rfl, rfl, rfl, fun k h => absurd h (Nat.not_lt_zero _), fun k j h => absurd h (Nat.not_lt_zero _), fun w h => absurd h (Nat.not_lt_zero _), fun w v h => absurd h (Nat.not_lt_zero _), fun k l h => absurd h (Nat.not_lt_zero _)⟩
theorem law_pure : law_Pure := by
  intro L xs hL
  have key : ∀ e i S, L ≤ 7 * i + e → i ≤ 3584 → i_I S → ∃ S', g_L_law L xs 18 [.ref 103, .ref 0, .ref 56, .int (nI (7 * i))] [] S = some (some (.int 1), S') := by
    intro e
    induction e using Nat.strongRecOn with
    | _ e ih =>
    intro i S he hi hS
    rw [b_L_law_18]
    by_cases hend : L < 7 * i + 7
    · rw [if_pos]
      · exact ⟨S, rfl⟩
      · show nI L - nI 7 < nI (7 * i)
        by_cases h7 : 7 ≤ L
        · rw [pk_sub h7]; exact nI_lt (by omega) (by omega)
        · exact Int32.lt_of_lt_of_le (pk_sneg (by decide) (by omega)) (Int32.not_lt.mp (nI_pos (by omega)))
    · have hend7 : ¬ (Int32.ofNat L) - 7 < nI (7 * i) := by
        show ¬ nI L - nI 7 < nI (7 * i)
        rw [pk_sub (by omega)]; exact nI_nlt (by omega) (by omega)
      have next : ∀ S2, i_I S2 → ∃ S', g_L_law L xs 18 [.ref 103, .ref 0, .ref 56, .int (nI (7 * i) + 7)] [] S2 = some (some (.int 1), S') := by
        intro S2 h2
        have e7 : nI (7 * i) + 7 = nI (7 * (i + 1)) := by rw [show (7 : Int32) = nI 7 from rfl, nI_add, Nat.mul_add]
        rw [e7]
        exact ih (e - 7) (by omega) (i + 1) S2 (by omega) (by omega) h2
      have a1 : nI (7 * i) + 1 = nI (7 * i + 1) := nI_add _ 1
      have n1 : ¬ (nI (7 * i + 1) < 0 ∨ L ≤ (nI (7 * i + 1)).toNatClampNeg) := nI_out (by omega) (by omega)
      have a2 : nI (7 * i) + 2 = nI (7 * i + 2) := nI_add _ 2
      have n2 : ¬ (nI (7 * i + 2) < 0 ∨ L ≤ (nI (7 * i + 2)).toNatClampNeg) := nI_out (by omega) (by omega)
      have a3 : nI (7 * i) + 3 = nI (7 * i + 3) := nI_add _ 3
      have n3 : ¬ (nI (7 * i + 3) < 0 ∨ L ≤ (nI (7 * i + 3)).toNatClampNeg) := nI_out (by omega) (by omega)
      have a4 : nI (7 * i) + 4 = nI (7 * i + 4) := nI_add _ 4
      have n4 : ¬ (nI (7 * i + 4) < 0 ∨ L ≤ (nI (7 * i + 4)).toNatClampNeg) := nI_out (by omega) (by omega)
      have a5 : nI (7 * i) + 5 = nI (7 * i + 5) := nI_add _ 5
      have n5 : ¬ (nI (7 * i + 5) < 0 ∨ L ≤ (nI (7 * i + 5)).toNatClampNeg) := nI_out (by omega) (by omega)
      have a6 : nI (7 * i) + 6 = nI (7 * i + 6) := nI_add _ 6
      have n6 : ¬ (nI (7 * i + 6) < 0 ∨ L ≤ (nI (7 * i + 6)).toNatClampNeg) := nI_out (by omega) (by omega)
      rw [if_neg hend7, if_neg (show ¬ (nI (7 * i) < 0 ∨ L ≤ (nI (7 * i)).toNatClampNeg) from nI_out (by omega) (by omega))]
      obtain ⟨c, hc⟩ : ∃ c, c = xs (nI (7 * i)).toNatClampNeg &&& 31 := ⟨_, rfl⟩
      rw [← hc]
      by_cases h0 : c = 0
      · rw [if_pos h0, a1, if_neg n1, a2, if_neg n2, a3, if_neg n3]
        obtain ⟨r, S1, S2, o1, o2, o3⟩ := (op_feed ((((xs (nI (7 * i + 1)).toNatClampNeg).toInt64) <<< ((32 : Int32).toInt64 &&& 63)) ||| (((xs (nI (7 * i + 2)).toNatClampNeg).toInt64) &&& 4294967295)) (xs (nI (7 * i + 3)).toNatClampNeg)).run hS
        rw [o1]
        simp only [Option.bind_some, Option.toList_some, List.append_nil, b_L_law_169]
        rw [a1, if_neg n1, a2, if_neg n2, a3, if_neg n3, o2]
        simp only [Option.bind_some, Option.toList_some, List.cons_append, List.nil_append, b_L_law_198]
        first | exact next S2 o3 | (rw [if_pos rfl]; exact next S2 o3) | (rw [if_pos trivial]; exact next S2 o3)
      rw [if_neg h0]
      by_cases h1 : c = 1
      · rw [if_pos h1]
        obtain ⟨r, S1, S2, o1, o2, o3⟩ := (op_drop).run hS
        rw [o1]
        simp only [Option.bind_some, Option.toList_some, List.append_nil, b_L_law_207]
        rw [o2]
        simp only [Option.bind_some, Option.toList_some, List.cons_append, List.nil_append, b_L_law_211]
        first | exact next S2 o3 | (rw [if_pos rfl]; exact next S2 o3) | (rw [if_pos trivial]; exact next S2 o3)
      rw [if_neg h1]
      by_cases h2 : c = 2
      · rw [if_pos h2, a1, if_neg n1, a2, if_neg n2, a3, if_neg n3]
        obtain ⟨r, S1, S2, o1, o2, o3⟩ := (op_fold (xs (nI (7 * i + 1)).toNatClampNeg) (xs (nI (7 * i + 2)).toNatClampNeg) (xs (nI (7 * i + 3)).toNatClampNeg)).run hS
        rw [o1]
        simp only [Option.bind_some, Option.toList_some, List.append_nil, b_L_law_235]
        rw [a1, if_neg n1, a2, if_neg n2, a3, if_neg n3, o2]
        simp only [Option.bind_some, Option.toList_some, List.cons_append, List.nil_append, b_L_law_254]
        first | exact next S2 o3 | (rw [if_pos rfl]; exact next S2 o3) | (rw [if_pos trivial]; exact next S2 o3)
      rw [if_neg h2]
      by_cases h3 : c = 3
      · rw [if_pos h3]
        obtain ⟨r, S1, S2, o1, o2, o3⟩ := (op_words).run hS
        rw [o1]
        simp only [Option.bind_some, Option.toList_some, List.append_nil, b_L_law_263]
        rw [o2]
        simp only [Option.bind_some, Option.toList_some, List.cons_append, List.nil_append, b_L_law_267]
        first | exact next S2 o3 | (rw [if_pos rfl]; exact next S2 o3) | (rw [if_pos trivial]; exact next S2 o3)
      rw [if_neg h3]
      by_cases h4 : c = 4
      · rw [if_pos h4, a1, if_neg n1, a2, if_neg n2]
        obtain ⟨r, S1, S2, o1, o2, o3⟩ := (op_sign (xs (nI (7 * i + 1)).toNatClampNeg) (xs (nI (7 * i + 2)).toNatClampNeg)).run hS
        rw [o1]
        simp only [Option.bind_some, Option.toList_some, List.append_nil, b_L_law_286]
        rw [a1, if_neg n1, a2, if_neg n2, o2]
        simp only [Option.bind_some, Option.toList_some, List.cons_append, List.nil_append, b_L_law_300]
        first | exact next S2 o3 | (rw [if_pos rfl]; exact next S2 o3) | (rw [if_pos trivial]; exact next S2 o3)
      rw [if_neg h4]
      by_cases h5 : c = 5
      · rw [if_pos h5]
        obtain ⟨r, S1, S2, o1, o2, o3⟩ := (op_name).run hS
        rw [o1]
        simp only [Option.bind_some, Option.toList_some, List.append_nil, b_L_law_309]
        rw [o2]
        simp only [Option.bind_some, Option.toList_some, List.cons_append, List.nil_append, b_L_law_313]
        first | exact next S2 o3 | (rw [if_pos rfl]; exact next S2 o3) | (rw [if_pos trivial]; exact next S2 o3)
      rw [if_neg h5]
      by_cases h6 : c = 6
      · rw [if_pos h6, a1, if_neg n1, a2, if_neg n2]
        obtain ⟨r, S1, S2, o1, o2, o3⟩ := (op_shorten (xs (nI (7 * i + 1)).toNatClampNeg) (xs (nI (7 * i + 2)).toNatClampNeg)).run hS
        rw [o1]
        simp only [Option.bind_some, Option.toList_some, List.append_nil, b_L_law_332]
        rw [a1, if_neg n1, a2, if_neg n2, o2]
        simp only [Option.bind_some, Option.toList_some, List.cons_append, List.nil_append, b_L_law_346]
        first | exact next S2 o3 | (rw [if_pos rfl]; exact next S2 o3) | (rw [if_pos trivial]; exact next S2 o3)
      rw [if_neg h6]
      by_cases h7 : c = 7
      · rw [if_pos h7, a1, if_neg n1]
        obtain ⟨r, S1, S2, o1, o2, o3⟩ := (op_street (xs (nI (7 * i + 1)).toNatClampNeg)).run hS
        rw [o1]
        simp only [Option.bind_some, Option.toList_some, List.append_nil, b_L_law_360]
        rw [a1, if_neg n1, o2]
        simp only [Option.bind_some, Option.toList_some, List.cons_append, List.nil_append, b_L_law_369]
        first | exact next S2 o3 | (rw [if_pos rfl]; exact next S2 o3) | (rw [if_pos trivial]; exact next S2 o3)
      rw [if_neg h7]
      by_cases h8 : c = 8
      · rw [if_pos h8, a1, if_neg n1, a2, if_neg n2]
        obtain ⟨r, S1, S2, o1, o2, o3⟩ := (op_also (xs (nI (7 * i + 1)).toNatClampNeg) (xs (nI (7 * i + 2)).toNatClampNeg)).run hS
        rw [o1]
        simp only [Option.bind_some, Option.toList_some, List.append_nil, b_L_law_388]
        rw [a1, if_neg n1, a2, if_neg n2, o2]
        simp only [Option.bind_some, Option.toList_some, List.cons_append, List.nil_append, b_L_law_402]
        first | exact next S2 o3 | (rw [if_pos rfl]; exact next S2 o3) | (rw [if_pos trivial]; exact next S2 o3)
      rw [if_neg h8]
      by_cases h9 : c = 9
      · rw [if_pos h9, a1, if_neg n1, a2, if_neg n2, a3, if_neg n3]
        obtain ⟨r, S1, S2, o1, o2, o3⟩ := (op_town (xs (nI (7 * i + 1)).toNatClampNeg) (xs (nI (7 * i + 2)).toNatClampNeg) (xs (nI (7 * i + 3)).toNatClampNeg)).run hS
        rw [o1]
        simp only [Option.bind_some, Option.toList_some, List.append_nil, b_L_law_426]
        rw [a1, if_neg n1, a2, if_neg n2, a3, if_neg n3, o2]
        simp only [Option.bind_some, Option.toList_some, List.cons_append, List.nil_append, b_L_law_445]
        first | exact next S2 o3 | (rw [if_pos rfl]; exact next S2 o3) | (rw [if_pos trivial]; exact next S2 o3)
      rw [if_neg h9]
      by_cases h10 : c = 10
      · rw [if_pos h10, a1, if_neg n1]
        obtain ⟨r, S1, S2, o1, o2, o3⟩ := (op_unit (xs (nI (7 * i + 1)).toNatClampNeg)).run hS
        rw [o1]
        simp only [Option.bind_some, Option.toList_some, List.append_nil, b_L_law_459]
        rw [a1, if_neg n1, o2]
        simp only [Option.bind_some, Option.toList_some, List.cons_append, List.nil_append, b_L_law_468]
        first | exact next S2 o3 | (rw [if_pos rfl]; exact next S2 o3) | (rw [if_pos trivial]; exact next S2 o3)
      rw [if_neg h10]
      by_cases h11 : c = 11
      · rw [if_pos h11, a1, if_neg n1, a2, if_neg n2, a3, if_neg n3, a4, if_neg n4, a5, if_neg n5, a6, if_neg n6]
        obtain ⟨r, S1, S2, o1, o2, o3⟩ := (op_range (xs (nI (7 * i + 1)).toNatClampNeg) (xs (nI (7 * i + 2)).toNatClampNeg) (xs (nI (7 * i + 3)).toNatClampNeg) (xs (nI (7 * i + 4)).toNatClampNeg) (xs (nI (7 * i + 5)).toNatClampNeg) (xs (nI (7 * i + 6)).toNatClampNeg)).run hS
        rw [o1]
        simp only [Option.bind_some, Option.toList_some, List.append_nil, b_L_law_508]
        rw [a1, if_neg n1, a2, if_neg n2, a3, if_neg n3, a4, if_neg n4, a5, if_neg n5, a6, if_neg n6, o2]
        simp only [Option.bind_some, Option.toList_some, List.cons_append, List.nil_append, b_L_law_543]
        first | exact next S2 o3 | (rw [if_pos rfl]; exact next S2 o3) | (rw [if_pos trivial]; exact next S2 o3)
      rw [if_neg h11]
      by_cases h12 : c = 12
      · rw [if_pos h12, a1, if_neg n1, a2, if_neg n2, a3, if_neg n3]
        obtain ⟨r, S1, S2, o1, o2, o3⟩ := (op_grammar (xs (nI (7 * i + 1)).toNatClampNeg) (xs (nI (7 * i + 2)).toNatClampNeg) (xs (nI (7 * i + 3)).toNatClampNeg)).run hS
        rw [o1]
        simp only [Option.bind_some, Option.toList_some, List.append_nil, b_L_law_567]
        rw [a1, if_neg n1, a2, if_neg n2, a3, if_neg n3, o2]
        simp only [Option.bind_some, Option.toList_some, List.cons_append, List.nil_append, b_L_law_586]
        first | exact next S2 o3 | (rw [if_pos rfl]; exact next S2 o3) | (rw [if_pos trivial]; exact next S2 o3)
      rw [if_neg h12]
      by_cases h13 : c = 13
      · rw [if_pos h13, a1, if_neg n1]
        obtain ⟨r, S1, S2, o1, o2, o3⟩ := (op_read (xs (nI (7 * i + 1)).toNatClampNeg)).run hS
        rw [o1]
        simp only [Option.bind_some, Option.toList_some, List.append_nil, b_L_law_600]
        rw [a1, if_neg n1, o2]
        simp only [Option.bind_some, Option.toList_some, List.cons_append, List.nil_append, b_L_law_609]
        first | exact next S2 o3 | (rw [if_pos rfl]; exact next S2 o3) | (rw [if_pos trivial]; exact next S2 o3)
      rw [if_neg h13]
      by_cases h14 : c = 14
      · rw [if_pos h14]
        obtain ⟨r, S1, S2, o1, o2, o3⟩ := (op_cost).run hS
        rw [o1]
        simp only [Option.bind_some, Option.toList_some, List.append_nil, b_L_law_618]
        rw [o2]
        simp only [Option.bind_some, Option.toList_some, List.cons_append, List.nil_append, b_L_law_622]
        first | exact next S2 o3 | (rw [if_pos rfl]; exact next S2 o3) | (rw [if_pos trivial]; exact next S2 o3)
      rw [if_neg h14]
      by_cases h15 : c = 15
      · rw [if_pos h15, a1, if_neg n1]
        obtain ⟨r, S1, S2, o1, o2, o3⟩ := (op_mark (xs (nI (7 * i + 1)).toNatClampNeg)).run hS
        rw [o1]
        simp only [Option.bind_some, Option.toList_some, List.append_nil, b_L_law_636]
        rw [a1, if_neg n1, o2]
        simp only [Option.bind_some, Option.toList_some, List.cons_append, List.nil_append, b_L_law_645]
        first | exact next S2 o3 | (rw [if_pos rfl]; exact next S2 o3) | (rw [if_pos trivial]; exact next S2 o3)
      rw [if_neg h15]
      by_cases h16 : c = 16
      · rw [if_pos h16, a1, if_neg n1, a2, if_neg n2]
        obtain ⟨r, S1, S2, o1, o2, o3⟩ := (op_fits (xs (nI (7 * i + 1)).toNatClampNeg) (xs (nI (7 * i + 2)).toNatClampNeg)).run hS
        rw [o1]
        simp only [Option.bind_some, Option.toList_some, List.append_nil, b_L_law_664]
        rw [a1, if_neg n1, a2, if_neg n2, o2]
        simp only [Option.bind_some, Option.toList_some, List.cons_append, List.nil_append, b_L_law_678]
        first | exact next S2 o3 | (rw [if_pos rfl]; exact next S2 o3) | (rw [if_pos trivial]; exact next S2 o3)
      rw [if_neg h16]
      by_cases h17 : c = 17
      · rw [if_pos h17, a1, if_neg n1, a2, if_neg n2]
        obtain ⟨r, S1, S2, o1, o2, o3⟩ := (op_of (xs (nI (7 * i + 1)).toNatClampNeg) (xs (nI (7 * i + 2)).toNatClampNeg)).run hS
        rw [o1]
        simp only [Option.bind_some, Option.toList_some, List.append_nil, b_L_law_697]
        rw [a1, if_neg n1, a2, if_neg n2, o2]
        simp only [Option.bind_some, Option.toList_some, List.cons_append, List.nil_append, b_L_law_711]
        first | exact next S2 o3 | (rw [if_pos rfl]; exact next S2 o3) | (rw [if_pos trivial]; exact next S2 o3)
      rw [if_neg h17]
      by_cases h18 : c = 18
      · rw [if_pos h18, a1, if_neg n1, a2, if_neg n2]
        obtain ⟨r, S1, S2, o1, o2, o3⟩ := (op_unitSign (xs (nI (7 * i + 1)).toNatClampNeg) (xs (nI (7 * i + 2)).toNatClampNeg)).run hS
        rw [o1]
        simp only [Option.bind_some, Option.toList_some, List.append_nil, b_L_law_730]
        rw [a1, if_neg n1, a2, if_neg n2, o2]
        simp only [Option.bind_some, Option.toList_some, List.cons_append, List.nil_append, b_L_law_744]
        first | exact next S2 o3 | (rw [if_pos rfl]; exact next S2 o3) | (rw [if_pos trivial]; exact next S2 o3)
      rw [if_neg h18]
      by_cases h19 : c = 19
      · rw [if_pos h19, a1, if_neg n1]
        obtain ⟨r, S1, S2, o1, o2, o3⟩ := (op_carrier (xs (nI (7 * i + 1)).toNatClampNeg)).run hS
        rw [o1]
        simp only [Option.bind_some, Option.toList_some, List.append_nil, b_L_law_758]
        rw [a1, if_neg n1, o2]
        simp only [Option.bind_some, Option.toList_some, List.cons_append, List.nil_append, b_L_law_767]
        first | exact next S2 o3 | (rw [if_pos rfl]; exact next S2 o3) | (rw [if_pos trivial]; exact next S2 o3)
      rw [if_neg h19]
      by_cases h20 : c = 20
      · rw [if_pos h20, a1, if_neg n1]
        obtain ⟨r, S1, S2, o1, o2, o3⟩ := (op_canonical (xs (nI (7 * i + 1)).toNatClampNeg)).run hS
        rw [o1]
        simp only [Option.bind_some, Option.toList_some, List.append_nil, b_L_law_781]
        rw [a1, if_neg n1, o2]
        simp only [Option.bind_some, Option.toList_some, List.cons_append, List.nil_append, b_L_law_790]
        first | exact next S2 o3 | (rw [if_pos rfl]; exact next S2 o3) | (rw [if_pos trivial]; exact next S2 o3)
      rw [if_neg h20]
      by_cases h21 : c = 21
      · rw [if_pos h21, a1, if_neg n1]
        obtain ⟨r, S1, S2, o1, o2, o3⟩ := (op_unitAt (xs (nI (7 * i + 1)).toNatClampNeg)).run hS
        rw [o1]
        simp only [Option.bind_some, Option.toList_some, List.append_nil, b_L_law_804]
        rw [a1, if_neg n1, o2]
        simp only [Option.bind_some, Option.toList_some, List.cons_append, List.nil_append, b_L_law_813]
        first | exact next S2 o3 | (rw [if_pos rfl]; exact next S2 o3) | (rw [if_pos trivial]; exact next S2 o3)
      rw [if_neg h21]
      by_cases h22 : c = 22
      · rw [if_pos h22, a1, if_neg n1]
        obtain ⟨r, S1, S2, o1, o2, o3⟩ := (op_count (xs (nI (7 * i + 1)).toNatClampNeg)).run hS
        rw [o1]
        simp only [Option.bind_some, Option.toList_some, List.append_nil, b_L_law_827]
        rw [a1, if_neg n1, o2]
        simp only [Option.bind_some, Option.toList_some, List.cons_append, List.nil_append, b_L_law_836]
        first | exact next S2 o3 | (rw [if_pos rfl]; exact next S2 o3) | (rw [if_pos trivial]; exact next S2 o3)
      rw [if_neg h22]
      exact next S hS
  obtain ⟨S', h⟩ := key L 0 a_M0 (by omega) (by decide) i_I_0
  exact ⟨S', h⟩
