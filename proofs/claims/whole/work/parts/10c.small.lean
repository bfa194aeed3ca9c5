/-! the small calls -/
theorem z0L : (0 : Int64).toInt = 0 := rfl
theorem sub1L (v : Int32) : (v.toInt64 - 1).toInt = v.toInt - 1 := by
  have hr := rng_I v
  rw [Int64.toInt_sub, l_I, show (1 : Int64).toInt = 1 from rfl, Int.bmod_eq_of_le (by omega) (by omega)]
theorem z_6 : (6 : Int32).toInt = 6 := rfl
theorem z_8 : (8 : Int32).toInt = 8 := rfl
theorem z_20 : (20 : Int32).toInt = 20 := rfl
theorem z_40 : (40 : Int32).toInt = 40 := rfl
theorem z_150 : (150 : Int32).toInt = 150 := rfl
theorem z_300 : (300 : Int32).toInt = 300 := rfl
theorem z_1000 : (1000 : Int32).toInt = 1000 := rfl
theorem z_3000 : (3000 : Int32).toInt = 3000 := rfl
def lhB (l x : Int32) : Bool := decide (0 ≤ x.toInt ∧ x.toInt < l.toInt ∧ x.toInt < 6)
theorem q_lhas (N : Nat) (x : Int32) (g : gFG) (f : gFF) (Q : Int32 → gFG → gFF → Prop) : wX4_has N x g f Q = Q (bi (lhB (g 13) x)) g f := by
  simp only [wX4_has, br1, lt_I, le_I, z_0, z_6, lhB]
  by_cases h1 : x.toInt < 0
  · rw [if_pos h1, decide_eq_false (by omega)]; rfl
  rw [if_neg h1]
  by_cases h2 : (g 13).toInt ≤ x.toInt
  · rw [if_pos h2, decide_eq_false (by omega)]; rfl
  rw [if_neg h2]
  by_cases h3 : 6 ≤ x.toInt
  · rw [if_pos h3, decide_eq_false (by omega)]; rfl
  · rw [if_neg h3, decide_eq_true (by omega)]; rfl
theorem at_l (N : Nat) (k : Nat) (x : Int32) (g : gFG) (f : gFF) (Q : Int32 → gFG → gFF → Prop) : wX4_has N x g f (fun r2 g2 f2 => ((r2 = 0) → Q 0 g2 f2) ∧ ((¬ r2 = 0) → (vp_in x 6) ∧ (Q (f2 k x.toNatClampNeg) g2 f2))) = Q (if lhB (g 13) x = true then f k x.toNatClampNeg else 0) g f := by
  rw [q_lhas, br1]
  simp only [bi_0]
  cases hh : lhB (g 13) x with
  | false => simp
  | true =>
    have h2 := of_decide_eq_true hh
    have h3 : vp_in x 6 := by rw [in_I]; omega
    simp [h3]
theorem q_tinAt (N : Nat) (x : Int32) (g : gFG) (f : gFF) (Q : Int32 → gFG → gFF → Prop) : wX4_tinAt N x g f Q = Q (if lhB (g 13) x = true then f 20 x.toNatClampNeg else 0) g f := at_l N 20 x g f Q
theorem q_leadAt (N : Nat) (x : Int32) (g : gFG) (f : gFF) (Q : Int32 → gFG → gFF → Prop) : wX4_leadAt N x g f Q = Q (if lhB (g 13) x = true then f 21 x.toNatClampNeg else 0) g f := at_l N 21 x g f Q
theorem q_priceAt (N : Nat) (x : Int32) (g : gFG) (f : gFF) (Q : Int32 → gFG → gFF → Prop) : wX4_priceAt N x g f Q = Q (if lhB (g 13) x = true then f 22 x.toNatClampNeg else 0) g f := at_l N 22 x g f Q
theorem q_unitsAt (N : Nat) (x : Int32) (g : gFG) (f : gFF) (Q : Int32 → gFG → gFF → Prop) : wX4_unitsAt N x g f Q = Q (if lhB (g 13) x = true then f 23 x.toNatClampNeg else 0) g f := at_l N 23 x g f Q
theorem gc_same {GC : gGC} (hG : GCok GC) {n : Nat} {gS : gFG} {fS : gFF} {gT : gFG} {fT : gFF} (h : GC n gS fS gT fT) (x : Int32) : GC (n + 1) gS fS (va_up gT 0 x) fT := GCk hG h ⟨rfl, rfl, rfl, rfl, rfl, rfl, rfl⟩ ⟨rfl, rfl, rfl, rfl, rfl, rfl, rfl, rfl⟩ ⟨rfl, rfl, rfl⟩ ⟨rfl, rfl⟩
theorem inv_same {GC : gGC} (hG : GCok GC) {n : Nat} {gS : gFG} {fS : gFF} {gT : gFG} {fT : gFF} {w : Int64} (h : InvP GC n gS fS gT fT w) (x : Int32) : InvP GC (n + 1) gS fS (va_up gT 0 x) fT w := ⟨h.1, h.2.1, h.2.2.1, h.2.2.2.1, h.2.2.2.2.1, h.2.2.2.2.2.1, gc_same hG h.2.2.2.2.2.2 x⟩
theorem ok_left {GC : gGC} (hG : GCok GC) (N : Nat) : ls_left N (InvP GC) := by
  intro n a gS fS gT fT wT hn hI
  have hI' := inv_same hG hI 0
  obtain ⟨⟨L, hL, e1, e2, hl⟩, -⟩ := hI
  simp only [wX11_left, wX12_left, forall_eq, q_lhas, q_unitsAt, br1, bi_0, q_in, l_I, sub1L, z0L]
  have e3 : (va_up gT 0 0) 15 = gS 13 := e2.trans e1.symm
  rw [e3]
  have e4 : (gS 13).toInt = L := by rw [e1]; exact nI_I (by omega)
  cases hh : lhB (gS 13) a with
  | false =>
    have h2 := of_decide_eq_false hh
    have h3 : decide (0 ≤ a.toInt ∧ a.toInt ≤ (gS 13).toInt - 1) = false := decide_eq_false (by omega)
    simp [h3, hI']
  | true =>
    have h2 := of_decide_eq_true hh
    have h3 : decide (0 ≤ a.toInt ∧ a.toInt ≤ (gS 13).toInt - 1) = true := decide_eq_true (by omega)
    have h4 : vp_in a 6 := by rw [in_I]; omega
    have h5 := (hl a.toNatClampNeg (by show a.toInt.toNat < L; omega)).1.2.2.2
    simp [h3, h4, h5, hI']
theorem ok_count {GC : gGC} (hG : GCok GC) (N : Nat) : ls_count N (InvP GC) := by
  intro n a gS fS gT fT wT hn hI
  have hI' := inv_same hG hI 0
  obtain ⟨⟨L, hL, e1, e2, -⟩, -, ⟨t, ht, e3, e4, -⟩, i4, ⟨V, T, -, -, e5, e6, e7, e8, -⟩, -, i8⟩ := hI
  obtain ⟨g1, g2⟩ := hG.2.2 _ _ _ _ _ i8
  have e9 : gS (gbl (gS 2)) = gT 24 := by
    rcases i4 with ⟨b1, -, r, -, q1, q2, -⟩ | ⟨b1, -, r, -, q1, q2, -⟩
    · rw [b1]; exact q1.trans q2.symm
    · rw [b1]; exact q1.trans q2.symm
  simp only [wX11_count, wX12_count, forall_eq, wX2_width, wX2_height, wX4_length, wX6_length, wX10_length, wX10_toldLength, wX9_length, br1]
  by_cases h0 : a = 0
  · simp only [if_pos h0]; exact ⟨g1.symm, hI'⟩
  simp only [if_neg h0]
  by_cases h1 : a = 1
  · simp only [if_pos h1]; exact ⟨g2.symm, hI'⟩
  simp only [if_neg h1]
  by_cases h2 : a = 2
  · simp only [if_pos h2]; exact ⟨e1.trans e2.symm, hI'⟩
  simp only [if_neg h2]
  by_cases h3 : a = 3
  · simp only [if_pos h3]; exact ⟨e9, hI'⟩
  simp only [if_neg h3]
  by_cases h4 : a = 4
  · simp only [if_pos h4]; exact ⟨e5.trans e6.symm, hI'⟩
  simp only [if_neg h4]
  by_cases h5 : a = 5
  · simp only [if_pos h5]; exact ⟨e7.trans e8.symm, hI'⟩
  simp only [if_neg h5]
  by_cases h6 : a = 6
  · simp only [if_pos h6]; exact ⟨e3.trans e4.symm, hI'⟩
  · simp only [if_neg h6]; exact ⟨by trivial, hI'⟩
theorem ok_end {GC : gGC} (hG : GCok GC) (N : Nat) : ls_end N (InvP GC) := by
  intro n a gS fS gT fT wT hn hI
  have hI' := inv_same hG hI 0
  obtain ⟨i1, i2, ⟨t, ht, e1, e2, hb⟩, i4, i5, ⟨j6, j7⟩, i8⟩ := hI
  have e3 : (va_up gT 0 0) 31 = gS 18 := e2.trans e1.symm
  have e4 : (gS 18).toInt = t := by rw [e1]; exact nI_I (by omega)
  simp only [wX11_end, wX12_end, wX9_length, wX9_cut, forall_eq, br1, lt_I, le_I, z_0, e3]
  by_cases h1 : a.toInt < 0
  · simp only [if_pos h1]; exact ⟨by trivial, hI'⟩
  simp only [if_neg h1]
  by_cases h2 : a.toInt ≤ (gS 18).toInt
  · simp only [if_pos h2, if_neg (show ¬ (gS 18).toInt < a.toInt by omega)]
    have ea : a = nI a.toInt.toNat := by rw [eq_I, nI_I (by omega)]; omega
    exact ⟨by trivial, i1, i2, ⟨a.toInt.toNat, by omega, ea, ea, fun i hi => hb i (by omega)⟩, i4, i5, ⟨j6, j7⟩, GCk hG i8 ⟨rfl, rfl, rfl, rfl, rfl, rfl, rfl⟩ ⟨rfl, rfl, rfl, rfl, rfl, rfl, rfl, rfl⟩ ⟨rfl, rfl, rfl⟩ ⟨rfl, rfl⟩⟩
  · simp only [if_neg h2]; exact ⟨by trivial, hI'⟩
def vhB (v x : Int32) : Bool := decide (0 ≤ x.toInt ∧ x.toInt < v.toInt ∧ x.toInt < 40)
theorem q_vhas (N : Nat) (x : Int32) (g : gFG) (f : gFF) (Q : Int32 → gFG → gFF → Prop) : wX10_has N x g f Q = Q (bi (vhB (g 21) x)) g f := by
  simp only [wX10_has, br1, lt_I, le_I, z_0, z_40, vhB]
  by_cases h1 : x.toInt < 0
  · rw [if_pos h1, decide_eq_false (by omega)]; rfl
  rw [if_neg h1]
  by_cases h2 : (g 21).toInt ≤ x.toInt
  · rw [if_pos h2, decide_eq_false (by omega)]; rfl
  rw [if_neg h2]
  by_cases h3 : 40 ≤ x.toInt
  · rw [if_pos h3, decide_eq_false (by omega)]; rfl
  · rw [if_neg h3, decide_eq_true (by omega)]; rfl
theorem q_isVessel (N : Nat) (x : Int32) (g : gFG) (f : gFF) (w : Int64) (Q : Int32 → gFG → gFF → Int64 → Prop) : wX12_isVessel N x g f w Q = Q (bi (decide (0 ≤ x.toInt ∧ x.toInt ≤ (g 38).toInt - 1))) g f w := by
  simp only [wX12_isVessel, q_in, l_I, sub1L, z0L]
  exact propext ⟨fun h => h.2, fun h => ⟨gz_bi _, h⟩⟩
theorem upd_at (f : Nat → Int32) (k : Nat) (x : Int32) : upd f k x k = x := pk_us
theorem upd_ne (f : Nat → Int32) {k j : Nat} (x : Int32) (h : j ≠ k) : upd f k x j = f j := pk_un h
theorem ok_tell {GC : gGC} (hG : GCok GC) (N : Nat) : ls_tell N (InvP GC) := by
  intro n a b c gS fS gT fT wT hn hI
  obtain ⟨i1, i2, i3, i4, ⟨V, T, hV, hT, e1, e2, e3, e4, hm, ht⟩, ⟨j6, j7⟩, i8⟩ := hI
  have v1 : (gS 21).toInt = V := by rw [e1]; exact nI_I (by omega)
  have v2 : ((va_up gT 0 0) 38).toInt = V := by show (gT 38).toInt = V; rw [e2]; exact nI_I (by omega)
  have t1 : (gS 22).toInt = T := by rw [e3]; exact nI_I (by omega)
  have t2 : ((va_up gT 0 0) 40) = gS 22 := e4.trans e3.symm
  have hst : ∀ x : Int32, InvP GC (n + 1) (va_up gS 1 x) fS (va_up (va_up gT 0 0) 1 x) fT wT := fun x => ⟨i1, i2, i3, i4, ⟨V, T, hV, hT, e1, e2, e3, e4, hm, ht⟩, ⟨rfl, j7⟩, GCk hG i8 ⟨rfl, rfl, rfl, rfl, rfl, rfl, rfl⟩ ⟨rfl, rfl, rfl, rfl, rfl, rfl, rfl, rfl⟩ ⟨rfl, rfl, rfl⟩ ⟨rfl, rfl⟩⟩
  simp only [wX11_tell, wX11_tell_j21, wX12_tell, wX12_tell_j31, wX10_isToldFull, wX10_addTold, forall_eq, q_isWithin, q_vhas, q_isVessel, q_in, q_told, q_answered, br1, br2, bi_0, lt_I, le_I, l_I, z_m1, z_8, z_150, z0L, withinB, vhB, z_3000, show (-1 : Int64).toInt = -1 from rfl, show (7 : Int64).toInt = 7 from rfl, show (3000 : Int64).toInt = 3000 from rfl, v1, v2, t2, t1]
  by_cases h1 : -1 ≤ b.toInt ∧ b.toInt ≤ 7
  · have h1a : ¬ b.toInt < -1 := by omega
    have h1b : ¬ 8 ≤ b.toInt := by omega
    by_cases h2 : 0 ≤ c.toInt ∧ c.toInt ≤ 3000
    · by_cases h3 : 0 ≤ a.toInt ∧ a.toInt < V
      · have h3a : 0 ≤ a.toInt ∧ a.toInt < V ∧ a.toInt < 40 := by omega
        have h3b : 0 ≤ a.toInt ∧ a.toInt ≤ (V : Int) - 1 := by omega
        by_cases h4 : (T : Int) < 150
        · have h4a : ¬ gS 22 = 150 := by rw [eq_I, t1, z_150]; omega
          have hin : vp_in (gS 22) 150 := by rw [in_I, t1]; omega
          have hcl : (gS 22).toNatClampNeg = T := by rw [cl_I, t1]; omega
          simp only [h1, h1a, h1b, h2, h3a, h3b, h4, h4a, hin, hcl, decide_true, if_true, if_false, true_and, and_self, Bool.true_eq_false, up_s]
          have e5 : gS 22 + 1 = nI (T + 1) := by rw [e3]; exact nI_1 T
          refine ⟨i1, i2, i3, i4, ⟨V, T + 1, hV, by omega, e1, e2, e5, e5, hm, fun i hi => ?_⟩, ⟨rfl, j7⟩, GCk hG i8 ⟨rfl, rfl, rfl, rfl, rfl, rfl, rfl⟩ ⟨rfl, rfl, rfl, rfl, rfl, rfl, rfl, rfl⟩ ⟨rfl, rfl, rfl⟩ ⟨rfl, rfl⟩⟩
          show (upd (fT 22) T a i = upd (fS 52) T a i ∧ upd (fT 23) T b i = upd (fS 53) T b i ∧ upd (fT 24) T c i = upd (fS 54) T c i) ∧ (0 ≤ (upd (fS 52) T a i).toInt ∧ (upd (fS 52) T a i).toInt < V) ∧ (-1 ≤ (upd (fS 53) T b i).toInt ∧ (upd (fS 53) T b i).toInt ≤ 7) ∧ 0 ≤ (upd (fS 54) T c i).toInt ∧ (upd (fS 54) T c i).toInt ≤ 3000
          by_cases hiT : i = T
          · subst hiT
            simp only [upd_at]
            exact ⟨by simp, h3, h1, h2⟩
          · simp only [upd_ne _ _ hiT]
            exact ht i (by omega)
        · have h4a : gS 22 = 150 := by rw [eq_I, t1, z_150]; omega
          simp [h1, h1a, h1b, h2, h3a, h3b, h4, h4a, hst]
      · have h3a : ¬ (0 ≤ a.toInt ∧ a.toInt < V ∧ a.toInt < 40) := by omega
        have h3b : ¬ (0 ≤ a.toInt ∧ a.toInt ≤ (V : Int) - 1) := by omega
        simp [h1, h1a, h1b, h2, h3a, h3b, hst]
    · simp [h1, h1a, h1b, h2, hst]
  · by_cases h1a : b.toInt < -1
    · simp [h1, h1a, hst]
    · have h1b : 8 ≤ b.toInt := by omega
      simp [h1, h1a, h1b, hst]
