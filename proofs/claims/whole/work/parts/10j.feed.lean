/-! ===== Int32 by its bits: bt x i ===== -/
def bt (x : Int32) (i : Nat) : Bool := x.toBitVec.getLsbD i
theorem b_ext {x y : Int32} (h : ∀ i, i < 32 → bt x i = bt y i) : x = y := Int32.toBitVec_inj.mp (BitVec.eq_of_getLsbD_eq (fun i hi => h i hi))
theorem b_or (x y : Int32) (i : Nat) : bt (x ||| y) i = (bt x i || bt y i) := by unfold bt; rw [Int32.toBitVec_or, BitVec.getLsbD_or]
theorem b_and (x y : Int32) (i : Nat) : bt (x &&& y) i = (bt x i && bt y i) := by unfold bt; rw [Int32.toBitVec_and, BitVec.getLsbD_and]
theorem b_xor (x y : Int32) (i : Nat) : bt (x ^^^ y) i = (bt x i ^^ bt y i) := by unfold bt; rw [Int32.toBitVec_xor, BitVec.getLsbD_xor]
theorem b_big {x : Int32} {i : Nat} (h : 32 ≤ i) : bt x i = false := BitVec.getLsbD_of_ge _ _ h
theorem b_255 (i : Nat) : bt 255 i = decide (i < 8) := by
  rcases Nat.lt_or_ge i 32 with h | h
  · exact (by decide +kernel : ∀ i, i < 32 → bt 255 i = decide (i < 8)) i h
  · rw [b_big h, decide_eq_false (by omega)]
theorem b_65535 (i : Nat) : bt 65535 i = decide (i < 16) := by
  rcases Nat.lt_or_ge i 32 with h | h
  · exact (by decide +kernel : ∀ i, i < 32 → bt 65535 i = decide (i < 16)) i h
  · rw [b_big h, decide_eq_false (by omega)]
theorem b_m1 : ∀ i, i < 32 → bt (-1) i = true := by decide +kernel
theorem b_0 (i : Nat) : bt 0 i = false := BitVec.getLsbD_zero
theorem s_l : ∀ n, n < 32 → ((nI n &&& 31).toBitVec.smod 32).toNat = n := by decide +kernel
theorem s_u : ∀ n, n < 32 → (((nI n).toUInt32 &&& Int32.toUInt32 31).toBitVec % 32).toNat = n := by decide +kernel
theorem b_shl (n : Nat) (hn : n < 32) (x : Int32) {i : Nat} (hi : i < 32) : bt (x <<< (nI n &&& 31)) i = (decide (n ≤ i) && bt x (i - n)) := by
  unfold bt
  rw [Int32.toBitVec_shiftLeft]
  show (x.toBitVec <<< ((nI n &&& 31).toBitVec.smod 32).toNat).getLsbD i = _
  rw [s_l n hn, BitVec.getLsbD_shiftLeft]
  rcases Nat.lt_or_ge i n with h | h
  · simp [h, Nat.not_le.mpr h]
  · simp [hi, h, Nat.not_lt.mpr h]
theorem b_ushr (n : Nat) (hn : n < 32) (x : Int32) (i : Nat) : bt ((x.toUInt32 >>> ((nI n).toUInt32 &&& Int32.toUInt32 31)).toInt32) i = bt x (n + i) := by
  show (x.toUInt32 >>> ((nI n).toUInt32 &&& Int32.toUInt32 31)).toBitVec.getLsbD i = x.toUInt32.toBitVec.getLsbD (n + i)
  rw [UInt32.toBitVec_shiftRight]
  show (x.toUInt32.toBitVec >>> (((nI n).toUInt32 &&& Int32.toUInt32 31).toBitVec % 32).toNat).getLsbD i = _
  rw [s_u n hn, BitVec.getLsbD_ushiftRight]
theorem b_sshr (n : Nat) (hn : n < 32) (x : Int32) {i : Nat} (hi : i < 32) : bt (x >>> (nI n &&& 31)) i = if n + i < 32 then bt x (n + i) else bt x 31 := by
  unfold bt
  rw [Int32.toBitVec_shiftRight]
  show (x.toBitVec.sshiftRight ((nI n &&& 31).toBitVec.smod 32).toNat).getLsbD i = _
  rw [s_l n hn, BitVec.getLsbD_sshiftRight, BitVec.msb_eq_getLsbD_last]
  simp [hi]
theorem b_shl8 (x : Int32) {i : Nat} (hi : i < 32) : bt (x <<< ((8 : Int32) &&& 31)) i = (decide (8 ≤ i) && bt x (i - 8)) := b_shl 8 (by omega) x hi
theorem b_shl16 (x : Int32) {i : Nat} (hi : i < 32) : bt (x <<< ((16 : Int32) &&& 31)) i = (decide (16 ≤ i) && bt x (i - 16)) := b_shl 16 (by omega) x hi
theorem b_shl24 (x : Int32) {i : Nat} (hi : i < 32) : bt (x <<< ((24 : Int32) &&& 31)) i = (decide (24 ≤ i) && bt x (i - 24)) := b_shl 24 (by omega) x hi
theorem b_sshr8 (x : Int32) {i : Nat} (hi : i < 32) : bt (x >>> ((8 : Int32) &&& 31)) i = if 8 + i < 32 then bt x (8 + i) else bt x 31 := b_sshr 8 (by omega) x hi
/-! feed -/
theorem sh_eq (x : Int32) (n : Nat) (hn : n ≤ 24) : ((x.toUInt32 >>> ((nI n).toUInt32 &&& Int32.toUInt32 31)).toInt32) &&& 255 = (x >>> (nI n &&& 31)) &&& 255 := by
  apply b_ext
  intro i hi
  rw [b_and, b_and, b_255, b_ushr n (by omega), b_sshr n (by omega) x hi]
  by_cases h : i < 8
  · rw [if_pos (by omega)]
  · rw [decide_eq_false h, Bool.and_false, Bool.and_false]
def byt (x : Int32) (s : Nat) : Int32 := (x >>> (nI s &&& 31)) &&& 255
theorem byt_r (x : Int32) (s : Nat) : 0 ≤ (byt x s).toInt ∧ (byt x s).toInt ≤ 255 := by
  obtain ⟨j, hj, e⟩ := pk_andE (x >>> (nI s &&& 31)) (m := 255) 8 (by decide)
  unfold byt
  rw [e, nI_I (by omega)]
  omega
def put4 (m : Nat → Int32) (t : Nat) (a : Int32) : Nat → Int32 := upd (upd (upd (upd m t (byt a 24)) (t + 1) (byt a 16)) (t + 2) (byt a 8)) (t + 3) (byt a 0)
theorem q_add1 {N n t s : Nat} {a : Int32} {g : gFG} {f : gFF} {m : Nat → Int32} {Q : gFG → gFF → Prop} (hs : s ≤ 24) (ht : t < 300) (h : wX9_addNumber_l3 N a Q n (nI s + (-8)) (va_up g 18 (nI (t + 1))) (va_up f 44 (upd m t (byt a s)))) : wX9_addNumber_l3 N a Q (n + 1) (nI s) (va_up g 18 (nI t)) (va_up f 44 m) := by
  unfold wX9_addNumber_l3
  have h1 : ¬ nI s < 0 := by rw [lt_I, nI_I (by omega), z_0]; omega
  have h2 : ¬ (300 : Int32) ≤ nI t := by rw [le_I, nI_I (by omega), z_300]; omega
  have h3 : vp_in (nI t) 300 := vp_in_nI ht (by decide)
  simp only [up_s, sh_eq a s hs, forall_eq, nI_clamp (show t < 2 ^ 31 by omega), nI_1, up_up]
  exact ⟨fun c => absurd c h1, fun _ => ⟨fun c => absurd c h2, fun _ => ⟨h3, h⟩⟩⟩
theorem q_addN {N t : Nat} {a : Int32} {g : gFG} {f : gFF} {m : Nat → Int32} {Q : gFG → gFF → Prop} (hN : 1000 ≤ N) (ht : t + 4 ≤ 300) (h : Q (va_up g 18 (nI (t + 4))) (va_up f 44 (put4 m t a))) : wX9_addNumber N a (va_up g 18 (nI t)) (va_up f 44 m) Q := by
  unfold wX9_addNumber
  obtain ⟨k, hk⟩ : ∃ k, N = k + 1 + 1 + 1 + 1 + 1 := ⟨N - 5, by omega⟩
  have key : ∀ M, wX9_addNumber_l3 M a Q (k + 1 + 1 + 1 + 1 + 1) (nI 24) (va_up g 18 (nI t)) (va_up f 44 m) := by
    intro M
    refine q_add1 (by omega) (by omega) ?_
    show wX9_addNumber_l3 M a Q (k + 1 + 1 + 1 + 1) (nI 16) _ _
    refine q_add1 (by omega) (by omega) ?_
    show wX9_addNumber_l3 M a Q (k + 1 + 1 + 1) (nI 8) _ _
    refine q_add1 (by omega) (by omega) ?_
    show wX9_addNumber_l3 M a Q (k + 1 + 1) (nI 0) _ _
    refine q_add1 (by omega) (by omega) ?_
    unfold wX9_addNumber_l3
    exact ⟨fun _ => h, fun c => absurd (show nI 0 + -8 < 0 by decide) c⟩
  have := key N
  rw [← hk] at this
  exact this
theorem q_four1 {N n t s : Nat} {a : Int32} {g : gFG} {f : gFF} {w : Int64} {m : Nat → Int32} {Q : gFG → gFF → Int64 → Prop} (hs : s ≤ 24) (ht : t < 300) (h : wX12_four_l3 N a Q n (nI s + (-8)) (va_up g 31 (nI (t + 1))) (va_up f 20 (upd m t (byt a s))) w) : wX12_four_l3 N a Q (n + 1) (nI s) (va_up g 31 (nI t)) (va_up f 20 m) w := by
  unfold wX12_four_l3
  have h1 : ¬ nI s < 0 := by rw [lt_I, nI_I (by omega), z_0]; omega
  have h3 : vp_in (nI t) 300 := vp_in_nI ht (by decide)
  simp only [up_s, forall_eq, nI_clamp (show t < 2 ^ 31 by omega), nI_1, up_up]
  exact ⟨fun c => absurd c h1, fun _ => ⟨h3, h⟩⟩
theorem q_four {N t : Nat} {a : Int32} {g : gFG} {f : gFF} {w : Int64} {m : Nat → Int32} {Q : gFG → gFF → Int64 → Prop} (hN : 1000 ≤ N) (ht : t + 4 ≤ 300) (h : Q (va_up g 31 (nI (t + 4))) (va_up f 20 (put4 m t a)) w) : wX12_four N a (va_up g 31 (nI t)) (va_up f 20 m) w Q := by
  unfold wX12_four
  obtain ⟨k, hk⟩ : ∃ k, N = k + 1 + 1 + 1 + 1 + 1 := ⟨N - 5, by omega⟩
  have key : ∀ M, wX12_four_l3 M a Q (k + 1 + 1 + 1 + 1 + 1) (nI 24) (va_up g 31 (nI t)) (va_up f 20 m) w := by
    intro M
    refine q_four1 (by omega) (by omega) ?_
    show wX12_four_l3 M a Q (k + 1 + 1 + 1 + 1) (nI 16) _ _ _
    refine q_four1 (by omega) (by omega) ?_
    show wX12_four_l3 M a Q (k + 1 + 1 + 1) (nI 8) _ _ _
    refine q_four1 (by omega) (by omega) ?_
    show wX12_four_l3 M a Q (k + 1 + 1) (nI 0) _ _ _
    refine q_four1 (by omega) (by omega) ?_
    unfold wX12_four_l3
    exact ⟨fun _ => h, fun c => absurd (show nI 0 + -8 < 0 by decide) c⟩
  have := key N
  rw [← hk] at this
  exact this
def pT (m' m : Nat → Int32) (t : Nat) : Prop := ∀ i, i < t → m' i = m i ∧ 0 ≤ (m i).toInt ∧ (m i).toInt ≤ 255
theorem pT_1 {m' m : Nat → Int32} {t : Nat} (h : pT m' m t) {v : Int32} (hv : 0 ≤ v.toInt ∧ v.toInt ≤ 255) : pT (upd m' t v) (upd m t v) (t + 1) := by
  intro i hi
  by_cases h1 : i = t
  · rw [h1, upd_at, upd_at]; exact ⟨rfl, hv⟩
  · rw [upd_ne _ _ h1, upd_ne _ _ h1]; exact h i (by omega)
theorem pT_4 {m' m : Nat → Int32} {t : Nat} (h : pT m' m t) (a : Int32) : pT (put4 m' t a) (put4 m t a) (t + 4) := pT_1 (pT_1 (pT_1 (pT_1 h (byt_r a 24)) (byt_r a 16)) (byt_r a 8)) (byt_r a 0)
theorem ok_feed {GC : gGC} (hG : GCok GC) {N : Nat} (hN : 1000 ≤ N) : ls_feed N (InvP GC) := by
  intro n a b c d e gS fS gT fT wT hn hI
  have hI' := inv_same hG hI 0
  obtain ⟨i1, i2, ⟨t, ht, e1, e2, hb⟩, i4, i5, ⟨j6, j7⟩, i8⟩ := hI
  have v1 : gS = va_up gS 18 (nI t) := by rw [← e1, up_id]
  have v2 : va_up gT 0 0 = va_up (va_up gT 0 0) 31 (nI t) := by
    have : nI t = (va_up gT 0 0) 31 := e2.symm
    rw [this, up_id]
  have v3 : fS = va_up fS 44 (fS 44) := (up_id fS 44).symm
  have v4 : fT = va_up fT 20 (fT 20) := (up_id fT 20).symm
  have e3 : (va_up gT 0 0) 31 = nI t := e2
  simp only [wX11_feed, wX12_feed, wX9_length, forall_eq, br1, e1, e3]
  by_cases h1 : nI t + 20 ≤ 300
  · have h2 : t + 20 ≤ 300 := by
      rw [le_I, add_I (by rw [nI_I (by omega), z_20]; omega) (by rw [nI_I (by omega), z_20]; omega), nI_I (by omega), z_20, z_300] at h1
      omega
    simp only [if_pos h1]
    rw [v1, v3]
    refine q_addN hN (by omega) ?_
    refine q_addN hN (by omega) ?_
    refine q_addN hN (by omega) ?_
    refine q_addN hN (by omega) ?_
    refine q_addN hN (by omega) ?_
    rw [v2, v4]
    refine q_four hN (by omega) ?_
    refine q_four hN (by omega) ?_
    refine q_four hN (by omega) ?_
    refine q_four hN (by omega) ?_
    refine q_four hN (by omega) ?_
    rw [up_s, up_s]
    refine ⟨rfl, i1, i2, ⟨t + 20, h2, rfl, rfl, ?_⟩, i4, i5, ⟨j6, j7⟩, GCk hG i8 ⟨rfl, rfl, rfl, rfl, rfl, rfl, rfl⟩ ⟨rfl, rfl, rfl, rfl, rfl, rfl, rfl, rfl⟩ ⟨rfl, rfl, rfl⟩ ⟨rfl, rfl⟩⟩
    exact pT_4 (pT_4 (pT_4 (pT_4 (pT_4 hb a) b) c) d) e
  · rw [if_neg h1, if_neg h1]
    exact ⟨by trivial, hI'⟩
