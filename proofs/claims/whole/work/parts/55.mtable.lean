/-! ===== the reference's table ===== -/
theorem X12_table {P : q_P} {B : a_M} {N W H Z TT U G g sz : Nat} (ok : q_ok P) (hB : i_B N W B) (hH : i_H N H B) (hZ : i_Z N Z B) (hTT : i_T N TT B) (hU : i_U N U B) (hG : i_G G B) (hm : m_w P B) (h6 : B.1 56 6 = nI P.1) (hg : g < G) (hsz : sz = cl (B.1 35 g)) :
    ∃ T', g_X12_read 30 [.ref 56, .int (nI g), .null, .int (nI P.1), .null] [] B = (if (TB P B W H Z TT U g sz 0 0).1 < 1000000 then ((x_X12_deliver [.ref 56, .int (nI g)] T').bind fun q => g_X12_read 85 [.null, .null, .null, .null, .null] q.1.toList q.2) else some (some (.int (-1)), T')) ∧ cf B T' ∧
      ∀ k p, k ≤ P.1 → p ≤ sz → cellM P.1 T' k p (TB P B W H Z TT U g sz k p) := by
  have hn := ok.1.1
  obtain ⟨z1, z2, z3, -⟩ := X4_facts hG hg
  have hG' := hG
  obtain ⟨gg1, gg2, gg3, gg4, gg5⟩ := hG'
  obtain ⟨-, -, a3, -⟩ := gg5 g hg
  rw [← hsz] at z1 z2 z3 a3
  have tabok : ∀ k p, k ≤ P.1 → p ≤ sz → okW P.1 sz (RC P B W H Z TT U g) (TB P B W H Z TT U g sz) k p (TB P B W H Z TT U g sz k p) := fun k p hk hp => tab_ok (mu := mus B g) (rc := RC P B W H Z TT U g) (bk := bkc P) hn z2 (fun p k L _ h4 h => RC_20 P B W H Z TT U g p k L h4 h) _ k p hk hp rfl
  have one : ∀ T k p, cf B T → k ≤ P.1 → p ≤ sz → (∀ k' p', k' ≤ P.1 → p' ≤ sz → k < k' ∨ (k = k' ∧ p < p') → cellM P.1 T k' p' (TB P B W H Z TT U g sz k' p')) →
      ∃ T', x_X12_bestAt [.ref 56, .int (nI g), .int (nI k), .int (nI p)] T = some (none, T') ∧ cf B T' ∧ ∀ k' p', k' ≤ P.1 → p' ≤ sz → k < k' ∨ (k = k' ∧ p ≤ p') → cellM P.1 T' k' p' (TB P B W H Z TT U g sz k' p') := by
    intro T k p h1 hk hp h2
    obtain ⟨T', r1, r2, r3⟩ := X12_bestAt (t := TB P B W H Z TT U g sz) ok hB hH hZ hTT hU hG hm h6 hg hsz h1 hk hp (fun k' p' a b c d e => ⟨tabok k' p' b d, h2 k' p' b d (by omega)⟩)
    refine ⟨T', r1, cf_tr h1 r3.1, fun k' p' a b c => ?_⟩
    by_cases hq : k' = k ∧ p' = p
    · obtain ⟨rfl, rfl⟩ := hq
      have e := tab_step P.1 sz (mus B g) (RC P B W H Z TT U g) (bkc P) hk hp
      show cellM P.1 T' k' p' (tab P.1 sz (mus B g) (RC P B W H Z TT U g) (bkc P) k' p')
      rw [e]
      exact r2
    · exact cellM_f hn r3 (by omega) (h2 k' p' a b (by omega))
  have inner : ∀ p T k, cf B T → k ≤ P.1 → p ≤ sz → (∀ k' p', k' ≤ P.1 → p' ≤ sz → k < k' ∨ (k = k' ∧ p < p') → cellM P.1 T k' p' (TB P B W H Z TT U g sz k' p')) →
      ∃ T', g_X12_read 42 [.ref 56, .int (nI g), .null, .int (nI k), .int (nI p)] [] T = g_X12_read 30 [.ref 56, .int (nI g), .null, .int (nI k + (-1)), .null] [] T' ∧ cf B T' ∧ ∀ k' p', k' ≤ P.1 → p' ≤ sz → k ≤ k' → cellM P.1 T' k' p' (TB P B W H Z TT U g sz k' p') := by
    intro p
    induction p with
    | zero =>
      intro T k h1 hk hp h2
      obtain ⟨T', r1, r2, r3⟩ := one T k 0 h1 hk hp h2
      rw [b_X12_read_42, if_neg (by decide), r1]
      simp only [Option.bind_some, Option.toList_none, List.append_nil, b_X12_read_55]
      rw [b_X12_read_42, if_pos (by decide)]
      exact ⟨T', rfl, r2, fun k' p' a b c => r3 k' p' a b (by omega)⟩
    | succ p ih =>
      intro T k h1 hk hp h2
      obtain ⟨T', r1, r2, r3⟩ := one T k (p + 1) h1 hk hp h2
      rw [b_X12_read_42, if_neg (nI_pos (by omega)), r1]
      simp only [Option.bind_some, Option.toList_none, List.append_nil, b_X12_read_55]
      rw [pk_m1]
      exact ih T' k r2 hk (by omega) (fun k' p' a b c => r3 k' p' a b (by omega))
  have st : ∀ T k, cf B T → k ≤ P.1 → g_X12_read 30 [.ref 56, .int (nI g), .null, .int (nI k), .null] [] T = g_X12_read 42 [.ref 56, .int (nI g), .null, .int (nI k), .int (nI sz)] [] T := by
    intro T k h1 hk
    rw [b_X12_read_30, if_neg (nI_pos (by omega)), if_neg (nI_out (by omega) (by decide)), nI_clamp (by omega), h1.1 81 (by decide) (by decide) (by decide) (by decide) (by decide), ← gg4, a3]
  have outer : ∀ k T, cf B T → k ≤ P.1 → (∀ k' p', k' ≤ P.1 → p' ≤ sz → k < k' → cellM P.1 T k' p' (TB P B W H Z TT U g sz k' p')) →
      ∃ T', g_X12_read 30 [.ref 56, .int (nI g), .null, .int (nI k), .null] [] T = (if (TB P B W H Z TT U g sz 0 0).1 < 1000000 then ((x_X12_deliver [.ref 56, .int (nI g)] T').bind fun q => g_X12_read 85 [.null, .null, .null, .null, .null] q.1.toList q.2) else some (some (.int (-1)), T')) ∧ cf B T' ∧
        ∀ k p, k ≤ P.1 → p ≤ sz → cellM P.1 T' k p (TB P B W H Z TT U g sz k p) := by
    intro k
    induction k with
    | zero =>
      intro T h1 hk h2
      obtain ⟨T', r1, r2, r3⟩ := inner sz T 0 h1 hk (Nat.le_refl _) (fun k' p' a b c => h2 k' p' a b (by omega))
      have h0 := (r3 0 0 (Nat.zero_le _) (Nat.zero_le _) (Nat.zero_le _)).1
      have hle := (tabok 0 0 (Nat.zero_le _) (Nat.zero_le _)).1
      rw [show 6 * 0 + 0 = 0 from rfl] at h0
      rw [st T 0 h1 hk, r1, b_X12_read_30, if_pos (by decide), h0]
      refine ⟨T', ?_, r2, fun k p a b => r3 k p a b (Nat.zero_le _)⟩
      simp only [List.append_nil]
      by_cases hq : (TB P B W H Z TT U g sz 0 0).1 < 1000000
      · rw [if_pos hq, if_pos (show nI (TB P B W H Z TT U g sz 0 0).1 < 1000000 from nI_lt (b := 1000000) hq (by decide))]
      · rw [if_neg hq, if_neg (show ¬ nI (TB P B W H Z TT U g sz 0 0).1 < 1000000 from nI_nlt (b := 1000000) (by omega) (by omega))]
    | succ k ih =>
      intro T h1 hk h2
      obtain ⟨T', r1, r2, r3⟩ := inner sz T (k + 1) h1 hk (Nat.le_refl _) (fun k' p' a b c => h2 k' p' a b (by omega))
      rw [st T (k + 1) h1 hk, r1, pk_m1]
      exact ih T' r2 (by omega) (fun k' p' a b c => r3 k' p' a b (by omega))
  exact outer P.1 B (cf_rfl B) (Nat.le_refl _) (fun k' p' a b c => by omega)
