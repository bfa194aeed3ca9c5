/-! lots -/
theorem sub1000L (v : Int32) : (1000 - v.toInt64).toInt = 1000 - v.toInt := by
  have hr := rng_I v
  rw [Int64.toInt_sub, l_I, show (1000 : Int64).toInt = 1000 from rfl, Int.bmod_eq_of_le (by omega) (by omega)]
theorem ok_lot {GC : gGC} (hG : GCok GC) (N : Nat) : ls_lot N (InvP GC) := by
  intro n a b c d gS fS gT fT wT hn hI
  obtain ⟨⟨L, hL, e1, e2, hl⟩, i2, i3, i4, i5, ⟨j6, j7⟩, j8⟩ := hI
  have v1 : (gS 13).toInt = L := by rw [e1]; exact nI_I (by omega)
  have v2 : (va_up gT 0 0) 15 = nI L := e2
  have hst : ∀ x : Int32, InvP GC (n + 1) (va_up gS 1 x) fS (va_up (va_up gT 0 0) 1 x) fT wT := fun x => ⟨⟨L, hL, e1, e2, hl⟩, i2, i3, i4, i5, ⟨rfl, j7⟩, GCk hG j8 ⟨rfl, rfl, rfl, rfl, rfl, rfl, rfl⟩ ⟨rfl, rfl, rfl, rfl, rfl, rfl, rfl, rfl⟩ ⟨rfl, rfl, rfl⟩ ⟨rfl, rfl⟩⟩
  simp only [wX11_lot, wX11_lot_j49, wX12_lot, wX12_lot_j57, wX4_isFull, wX4_add, forall_eq, q_isWithin, q_in, q_told, q_answered, br1, br2, bi_0, lt_I, l_I, z_6, z0L, z_1000, z_40, withinB, sub1000L, show (1000 : Int64).toInt = 1000 from rfl, show (40 : Int64).toInt = 40 from rfl, v1, v2]
  by_cases h1 : 0 ≤ a.toInt ∧ a.toInt ≤ 1000
  · by_cases h2 : 0 ≤ b.toInt ∧ b.toInt ≤ 1000
    · have hab : (a + b).toInt = a.toInt + b.toInt := add_I (by omega) (by omega)
      by_cases h3 : 1000 < a.toInt + b.toInt
      · have h3a : ¬ (0 ≤ b.toInt ∧ b.toInt ≤ 1000 - a.toInt) := by omega
        simp only [h1, h2, hab, h3, decide_eq_false h3a, decide_true, if_true, and_self, Bool.true_eq_false, if_false]
        simp [hst]
        intro q
        omega
      · have h3a : (0 ≤ b.toInt ∧ b.toInt ≤ 1000 - a.toInt) := by omega
        by_cases h4 : 0 ≤ c.toInt ∧ c.toInt ≤ 1000
        · by_cases h5 : 0 ≤ d.toInt ∧ d.toInt ≤ 40
          · by_cases h6 : (L : Int) < 6
            · have h6a : ¬ nI L = 6 := by rw [eq_I, nI_I (by omega), z_6]; omega
              have hin : vp_in (gS 13) 6 := by rw [in_I, v1]; omega
              have hcl : (gS 13).toNatClampNeg = L := by rw [cl_I, v1]; omega
              have hin2 : vp_in (nI L) 6 := vp_in_nI (by omega) (by decide)
              have hcl2 : (nI L).toNatClampNeg = L := nI_clamp (by omega)
              simp only [h1, h2, hab, h3, h3a, h4, h5, h6, h6a, hin, hcl, hin2, hcl2, decide_true, if_true, if_false, true_and, and_self, Bool.true_eq_false, up_s]
              have e5 : gS 13 + 1 = nI (L + 1) := by rw [e1]; exact nI_1 L
              have e6 : nI L + 1 = nI (L + 1) := nI_1 L
              rw [e5, e6, nI_pred]
              rw [nI_I (show L < 2 ^ 31 by omega), if_pos (show (0 : Int) ≤ (L : Int) by omega)]
              refine ⟨rfl, ⟨L + 1, by omega, rfl, rfl, fun i hi => ?_⟩, ?_, i3, i4, i5, ⟨rfl, j7⟩, GCk hG j8 ⟨rfl, rfl, rfl, rfl, rfl, rfl, rfl⟩ ⟨rfl, rfl, rfl, rfl, rfl, rfl, rfl, rfl⟩ ⟨rfl, rfl, rfl⟩ ⟨rfl, rfl⟩⟩
              · show (upd (fT 9) L a i = upd (fS 20) L a i ∧ upd (fT 10) L b i = upd (fS 21) L b i ∧ upd (fT 11) L c i = upd (fS 22) L c i ∧ upd (fT 12) L d i = upd (fS 23) L d i) ∧ (0 ≤ (upd (fS 20) L a i).toInt ∧ (upd (fS 20) L a i).toInt ≤ 1000) ∧ (0 ≤ (upd (fS 21) L b i).toInt ∧ (upd (fS 20) L a i).toInt + (upd (fS 21) L b i).toInt ≤ 1000) ∧ (0 ≤ (upd (fS 22) L c i).toInt ∧ (upd (fS 22) L c i).toInt ≤ 1000) ∧ 0 ≤ (upd (fS 23) L d i).toInt ∧ (upd (fS 23) L d i).toInt ≤ 40
                by_cases hiL : i = L
                · subst hiL
                  simp only [upd_at]
                  exact ⟨by simp, h1, ⟨h2.1, by omega⟩, h4, h5⟩
                · simp only [upd_ne _ _ hiL]
                  exact hl i (by omega)
              · show IB (nI (L + 1)) (gT 21) (fS 43) (fT 13) (fS 29)
                obtain ⟨q0, i2⟩ := i2
                refine ⟨fun i hi hj h9 => q0 i hi hj (by rw [nI_I (by omega)] at h9; rw [v1]; omega), ?_⟩
                rcases i2 with q | ⟨k, q1, q2, q3, q4, q5, q6⟩
                · exact Or.inl q
                · refine Or.inr ⟨k, q1, q2, q3, q4, q5, fun i hi h9 => q6 i hi ?_⟩
                  rw [nI_I (by omega)] at h9
                  rw [v1]; omega
            · have h6a : nI L = 6 := by rw [eq_I, nI_I (by omega), z_6]; omega
              simp [h1, h2, hab, h3, h3a, h4, h5, h6, h6a, hst]
          · simp [h1, h2, hab, h3, h3a, h4, h5, hst]
        · simp [h1, h2, hab, h3, h3a, h4, hst]
    · have h3a : ¬ (0 ≤ b.toInt ∧ b.toInt ≤ 1000 - a.toInt) := by omega
      simp [h1, h2, h3a, hst]
  · simp [h1, hst]
