/-! rows in their order; the best of them -/
def lx (r r' : Nat → Nat) : Prop := ∃ i, i < 6 ∧ (∀ j, j < i → r j = r' j) ∧ r i < r' i
theorem lx_as {r r' : Nat → Nat} (h : lx r r') : ¬ lx r' r := by
  rintro ⟨i', a1, a2, a3⟩
  obtain ⟨i, b1, b2, b3⟩ := h
  rcases Nat.lt_trichotomy i i' with c | c | c
  · have := a2 i c; omega
  · subst c; omega
  · have := b2 i' c; omega
theorem lx_tri {r r' : Nat → Nat} (h1 : ¬ lx r r') (h2 : ¬ lx r' r) : ∀ i, i < 6 → r i = r' i := by
  have key : ∀ k, ∀ i, i < k → i < 6 → r i = r' i := by
    intro k
    induction k with
    | zero => intro i hi; omega
    | succ k ih =>
      intro i hi h6
      by_cases e : i = k
      · subst e
        rcases Nat.lt_trichotomy (r i) (r' i) with c | c | c
        · exact absurd ⟨i, h6, fun j hj => ih j hj (by omega), c⟩ h1
        · exact c
        · exact absurd ⟨i, h6, fun j hj => (ih j hj (by omega)).symm, c⟩ h2
      · exact ih i (by omega) h6
  exact fun i hi => key 6 i hi hi
abbrev Bf (p : Nat → Nat) (k : Nat) (r : Nat → Nat) : Prop := ∃ i, i < k ∧ (∀ j, j < i → r j = p j) ∧ r i < p i
abbrev Ag (p : Nat → Nat) (k : Nat) (r : Nat → Nat) : Prop := ∀ j, j < k → r j = p j
theorem Bf_lx {p r r' : Nat → Nat} {k : Nat} (hk : k ≤ 6) (h : Bf p k r) (h' : Ag p k r') : lx r r' := by
  obtain ⟨i, a1, a2, a3⟩ := h
  exact ⟨i, by omega, fun j hj => (a2 j hj).trans (h' j (by omega)).symm, by rw [h' i a1]; exact a3⟩
def Bst (F : (Nat → Nat) → Prop) (prc : (Nat → Nat) → Nat) (D : (Nat → Nat) → Prop) (r : Nat → Nat) : Prop := D r ∧ F r ∧ ∀ r', D r' → F r' → prc r < prc r' ∨ (prc r = prc r' ∧ ¬ lx r' r)
def BO (F : (Nat → Nat) → Prop) (prc : (Nat → Nat) → Nat) (n : Nat) (D : (Nat → Nat) → Prop) (fd C0 : Int32) (br : Nat → Int32) : Prop := (fd = 0 ∧ C0 = nI (1000 * n) ∧ ∀ r, D r → ¬ F r) ∨ (fd = 1 ∧ ∃ r, Bst F prc D r ∧ (∀ i, i < 6 → br i = nI (r i)) ∧ C0.toInt = (prc r : Int) - 1)
theorem BO_c {F : (Nat → Nat) → Prop} {prc : (Nat → Nat) → Nat} {n : Nat} {D D' : (Nat → Nat) → Prop} {fd C0 : Int32} {br : Nat → Int32} (h : BO F prc n D fd C0 br) (e : ∀ r, F r → (D r ↔ D' r)) : BO F prc n D' fd C0 br := by
  rcases h with ⟨a1, a2, a3⟩ | ⟨a1, r, ⟨b1, b2, b3⟩, a2⟩
  · exact Or.inl ⟨a1, a2, fun r hr hF => a3 r ((e r hF).mpr hr) hF⟩
  · exact Or.inr ⟨a1, r, ⟨(e r b2).mp b1, b2, fun r' h1 h2 => b3 r' ((e r' h2).mpr h1) h2⟩, a2⟩
theorem BO_r {F : (Nat → Nat) → Prop} {prc : (Nat → Nat) → Nat} {n : Nat} {D : (Nat → Nat) → Prop} {fd C0 : Int32} {br : Nat → Int32} (hn : n ≤ 40) (hpr : ∀ r, F r → prc r ≤ 1000 * n) (h : BO F prc n D fd C0 br) : -1 ≤ C0.toInt ∧ C0.toInt ≤ 40000 := by
  rcases h with ⟨-, a2, -⟩ | ⟨-, r, ⟨-, b2, -⟩, -, a3⟩
  · rw [a2, nI_I (by omega)]; omega
  · have := hpr r b2; omega
theorem BO_skip {F : (Nat → Nat) → Prop} {prc : (Nat → Nat) → Nat} {n : Nat} {D D' : (Nat → Nat) → Prop} {fd C0 : Int32} {br : Nat → Int32} (hn : n ≤ 40) (hpr : ∀ r, F r → prc r ≤ 1000 * n) (h : BO F prc n D fd C0 br) (h1 : ∀ r, D r → D' r) (h2 : ∀ r, D' r → F r → D r ∨ (C0.toInt < (prc r : Int) ∧ ∀ r0, D r0 → ¬ lx r r0)) : BO F prc n D' fd C0 br := by
  rcases h with ⟨a1, a2, a3⟩ | ⟨a1, r, ⟨b1, b2, b3⟩, a2, a4⟩
  · refine Or.inl ⟨a1, a2, fun r hr hF => ?_⟩
    rcases h2 r hr hF with c | ⟨c, -⟩
    · exact a3 r c hF
    · rw [a2, nI_I (by omega)] at c
      have := hpr r hF
      omega
  · refine Or.inr ⟨a1, r, ⟨h1 r b1, b2, fun r' hr' hF' => ?_⟩, a2, a4⟩
    rcases h2 r' hr' hF' with c | ⟨c, d⟩
    · exact b3 r' c hF'
    · have := d r b1
      by_cases e : prc r = prc r'
      · exact Or.inr ⟨e, this⟩
      · exact Or.inl (by omega)
theorem BO_new {F : (Nat → Nat) → Prop} {prc : (Nat → Nat) → Nat} {n : Nat} {D D' : (Nat → Nat) → Prop} {fd C0 C1 : Int32} {br br' : Nat → Int32} {q : Nat → Nat} (h : BO F prc n D fd C0 br) (hq : F q) (hD : D' q) (hc : (prc q : Int) ≤ C0.toInt) (h2 : ∀ r, D' r → F r → D r ∨ prc q < prc r ∨ (prc q = prc r ∧ ¬ lx r q)) (hb : ∀ i, i < 6 → br' i = nI (q i)) (hC : C1.toInt = (prc q : Int) - 1) : BO F prc n D' 1 C1 br' := by
  refine Or.inr ⟨rfl, q, ⟨hD, hq, fun r hr hF => ?_⟩, hb, hC⟩
  rcases h2 r hr hF with c | c
  · rcases h with ⟨-, -, a3⟩ | ⟨-, r0, ⟨b1, b2, b3⟩, -, a4⟩
    · exact absurd hF (a3 r c)
    · have := b3 r c hF
      exact Or.inl (by omega)
  · exact c
/-! division that rounds down -/
theorem neg_bt (x : Int32) : bt x 31 = decide (x.toInt < 0) := by
  unfold bt
  have h := BitVec.msb_eq_toInt (x := x.toBitVec)
  rw [BitVec.msb_eq_getLsbD_last] at h
  exact h
theorem xor_s {a b : Int32} (hb : 0 < b.toInt) : (0 ≤ a ^^^ b) = (0 ≤ a.toInt) := by
  have h := neg_bt (a ^^^ b)
  rw [b_xor, neg_bt, neg_bt, decide_eq_false (show ¬ b.toInt < 0 by omega), Bool.xor_false] at h
  have h2 := decide_eq_decide.mp h
  rw [le_I, z_0]
  apply propext
  omega
theorem q_floor {N : Nat} {a b : Int32} {g : gFG} {f : gFF} {Q : Int32 → gFG → gFF → Prop} (hb : 0 < b.toInt) (hb2 : b.toInt ≤ 1000000) (ha : -1000000 ≤ a.toInt ∧ a.toInt ≤ 1000000) (h : ∀ r : Int32, r.toInt = a.toInt / b.toInt → Q r g f) : wJ9_floorDiv_7cf53 N a b g f Q := by
  have hb0 : ¬ b = 0 := fun e => by rw [e, z_0] at hb; omega
  have e1 := Int.tdiv_mul_add_tmod a.toInt b.toInt
  have e2 := Int.lt_tmod_of_pos a.toInt hb
  have hq : (a / b).toInt = a.toInt.tdiv b.toInt := by
    rw [Int32.toInt_div]
    refine bmod_I ?_ ?_
    · by_cases c : 0 ≤ a.toInt
      · rw [Int.tdiv_eq_ediv_of_nonneg c]
        have := Int.ediv_nonneg c (show 0 ≤ b.toInt by omega)
        omega
      · have c1 : -a.toInt / b.toInt ≤ -a.toInt := Int.ediv_le_self _ (by omega)
        have c2 : (-a.toInt).tdiv b.toInt = -a.toInt / b.toInt := Int.tdiv_eq_ediv_of_nonneg (by omega)
        have c3 : (-a.toInt).tdiv b.toInt = -(a.toInt.tdiv b.toInt) := Int.neg_tdiv ..
        omega
    · by_cases c : 0 ≤ a.toInt
      · rw [Int.tdiv_eq_ediv_of_nonneg c]
        have := Int.ediv_le_self b.toInt c
        omega
      · have c1 := Int.ediv_nonneg (show 0 ≤ -a.toInt by omega) (show 0 ≤ b.toInt by omega)
        have c2 : (-a.toInt).tdiv b.toInt = -a.toInt / b.toInt := Int.tdiv_eq_ediv_of_nonneg (by omega)
        have c3 : (-a.toInt).tdiv b.toInt = -(a.toInt.tdiv b.toInt) := Int.neg_tdiv ..
        omega
  unfold wJ9_floorDiv_7cf53
  refine ⟨hb0, ?_⟩
  rintro _ rfl
  rw [xor_s hb]
  refine ⟨fun c => h _ (by rw [hq, Int.tdiv_eq_ediv_of_nonneg c]), fun c => ?_⟩
  have e3 : a.toInt.tmod b.toInt ≤ 0 := by
    have c1 := Int.tmod_nonneg b.toInt (show 0 ≤ -a.toInt by omega)
    rw [Int.neg_tmod] at c1
    omega
  have hm : (a / b * b).toInt = a.toInt.tdiv b.toInt * b.toInt := by
    rw [mul_I (by rw [hq]; omega) (by rw [hq]; omega), hq]
  refine ⟨fun d => h _ ?_, fun d => h _ ?_⟩
  · rw [eq_I, hm] at d
    rw [hq]
    refine Int.le_antisymm ?_ ?_
    · rw [Int.le_ediv_iff_mul_le hb]; omega
    · have : a.toInt / b.toInt < a.toInt.tdiv b.toInt + 1 := by
        rw [Int.ediv_lt_iff_lt_mul hb, Int.add_mul, Int.one_mul]; omega
      omega
  · rw [eq_I, hm] at d
    have h0 : -1000001 ≤ a.toInt.tdiv b.toInt := by
      have c1 : -a.toInt / b.toInt ≤ -a.toInt := Int.ediv_le_self _ (by omega)
      have c2 : (-a.toInt).tdiv b.toInt = -a.toInt / b.toInt := Int.tdiv_eq_ediv_of_nonneg (by omega)
      have c3 : (-a.toInt).tdiv b.toInt = -(a.toInt.tdiv b.toInt) := Int.neg_tdiv ..
      omega
    have h1 : a.toInt.tdiv b.toInt ≤ 0 := by
      have c1 := Int.ediv_nonneg (show 0 ≤ -a.toInt by omega) (show 0 ≤ b.toInt by omega)
      have c2 : (-a.toInt).tdiv b.toInt = -a.toInt / b.toInt := Int.tdiv_eq_ediv_of_nonneg (by omega)
      have c3 : (-a.toInt).tdiv b.toInt = -(a.toInt.tdiv b.toInt) := Int.neg_tdiv ..
      omega
    rw [sub_I (by rw [hq, z_1]; omega) (by rw [hq, z_1]; omega), hq, z_1]
    refine Int.le_antisymm ?_ ?_
    · rw [Int.le_ediv_iff_mul_le hb, Int.sub_mul, Int.one_mul]; omega
    · have : a.toInt / b.toInt < a.toInt.tdiv b.toInt - 1 + 1 := by
        rw [Int.ediv_lt_iff_lt_mul hb, Int.sub_add_cancel]; omega
      omega
theorem ediv_r {a b : Int} (hb : 0 < b) (ha : -100000 ≤ a ∧ a ≤ 100000) : -100000 ≤ a / b ∧ a / b ≤ 100000 := by
  constructor
  · rw [Int.le_ediv_iff_mul_le hb]
    have := Int.mul_le_mul_of_nonneg_left (show (1 : Int) ≤ b by omega) (show (0 : Int) ≤ 100000 by omega)
    omega
  · have : a / b < 100001 := by
      rw [Int.ediv_lt_iff_lt_mul hb]
      have := Int.mul_le_mul_of_nonneg_left (show (1 : Int) ≤ b by omega) (show (0 : Int) ≤ 100001 by omega)
      omega
    omega
/-- one sum narrows what fits -/
theorem q_narrow {N K lot rest s wl wk S : Nat} {lo hi : Int32} {g : gFG} {f : gFF} {Q : gFG → gFF → Prop} (hs : s < 4) (hK : K ≤ 6) (hl : lot < K) (hK1 : 1 ≤ K) (h14 : g 14 = nI (K - 1)) (h1 : f (31 + s) lot = nI wl) (h2 : f (31 + s) (K - 1) = nI wk) (h3 : f (39 + s) lot = nI S) (hwl : wl ≤ 1000) (hwk : wk ≤ 1000) (hS : S ≤ 40000) (hr : rest ≤ 40) (hC : -1 ≤ (f 27 s).toInt ∧ (f 27 s).toInt ≤ 40000) (hlo : 0 ≤ lo.toInt ∧ lo.toInt ≤ 200000) (hhi : -200000 ≤ hi.toInt ∧ hi.toInt ≤ 200000) (h : ∀ lo' hi' : Int32, (0 ≤ lo'.toInt ∧ lo'.toInt ≤ 200000) → (-200000 ≤ hi'.toInt ∧ hi'.toInt ≤ 200000) → (∀ x : Int, (lo'.toInt ≤ x ∧ x ≤ hi'.toInt) ↔ (lo.toInt ≤ x ∧ x ≤ hi.toInt) ∧ x * ((wl : Int) - wk) ≤ (f 27 s).toInt - S - rest * wk) → Q (va_up (va_up g 15 lo') 16 hi') f) : wX5_narrow N (nI s) (nI lot) (nI rest) (va_up (va_up g 15 lo) 16 hi) f Q := by
  have hin : vp_in (nI s) 4 := vp_in_nI hs (by decide)
  have g14 : (va_up (va_up g 15 lo) 16 hi) 14 = nI (K - 1) := h14
  have g15 : (va_up (va_up g 15 lo) 16 hi) 15 = lo := rfl
  have g16 : (va_up (va_up g 15 lo) 16 hi) 16 = hi := rfl
  have hrw : rest * wk ≤ 40000 := by
    have := Nat.mul_le_mul hr hwk; omega
  have hrw' : ((rest * wk : Nat) : Int) = (rest : Int) * wk := by simp
  unfold wX5_narrow
  rw [g14, g15, g16]
  refine ⟨hin, by rw [nI_clamp (by omega)]; exact giaW hs (by omega), hin, ?_⟩
  rintro _ rfl
  rw [nI_clamp (show s < 2 ^ 31 by omega), nI_clamp (show lot < 2 ^ 31 by omega), nI_clamp (show K - 1 < 2 ^ 31 by omega), h1, h2, h3]
  refine ⟨giaW hs (by omega), ?_⟩
  rintro _ rfl
  refine ⟨hin, hin, giaS hs (by omega), hin, ?_⟩
  rintro _ rfl
  rw [nI_clamp (show K - 1 < 2 ^ 31 by omega), h2]
  refine ⟨giaW hs (by omega), ?_⟩
  rintro _ rfl
  have eS : (nI wl - nI wk).toInt = (wl : Int) - wk := by rw [sub_I (by rw [nI_I (by omega), nI_I (by omega)]; omega) (by rw [nI_I (by omega), nI_I (by omega)]; omega), nI_I (by omega), nI_I (by omega)]
  have e1 : (f 27 s - nI S).toInt = (f 27 s).toInt - S := by rw [sub_I (by rw [nI_I (by omega)]; omega) (by rw [nI_I (by omega)]; omega), nI_I (by omega)]
  have e2 : (nI rest * nI wk).toInt = (rest : Int) * wk := by rw [mul_I (by rw [nI_I (by omega), nI_I (by omega)]; omega) (by rw [nI_I (by omega), nI_I (by omega)]; omega), nI_I (by omega), nI_I (by omega)]
  have eK : (f 27 s - nI S - nI rest * nI wk).toInt = (f 27 s).toInt - S - rest * wk := by rw [sub_I (by rw [e1, e2]; omega) (by rw [e1, e2]; omega), e1, e2]
  generalize f 27 s - nI S - nI rest * nI wk = sl at eK
  generalize nI wl - nI wk = sp at eS
  rw [← eK, ← eS] at h
  rw [le_I, z_0]
  refine ⟨fun c => ⟨fun c2 => ⟨fun c3 => ?_, fun c3 => ?_⟩, fun c2 => ?_⟩, fun c => ?_⟩
  · -- no slope
    rw [le_I, z_0] at c2 c3
    have hsp : sp.toInt = 0 := by omega
    refine h lo hi hlo hhi (fun x => ?_)
    rw [hsp, Int.mul_zero]
    exact ⟨fun q => ⟨q, c3⟩, fun q => q.1⟩
  · rw [le_I, z_0] at c2 c3
    have hsp : sp.toInt = 0 := by omega
    rintro _ rfl
    rw [up_up]
    refine h lo (-1) hlo (by rw [z_m1]; omega) (fun x => ?_)
    rw [hsp, Int.mul_zero, z_m1]
    exact ⟨fun q => by omega, fun q => by omega⟩
  · -- falling
    rw [le_I, z_0] at c2
    have en : (-sp).toInt = -sp.toInt := by rw [Int32.toInt_neg]; exact bmod_I (by omega) (by omega)
    have hp : 0 < (-sp).toInt := by omega
    have hsl : -100000 ≤ sl.toInt ∧ sl.toInt ≤ 100000 := by omega
    refine q_floor hp (by omega) (by omega) (fun r er => ?_)
    have br := ediv_r hp hsl
    rw [← er] at br
    have ern : (-r).toInt = -r.toInt := by rw [Int32.toInt_neg]; exact bmod_I (by omega) (by omega)
    rw [q_max]
    rintro _ rfl
    rw [up_cm (va_up g 15 lo) hi _ (show (16 : Nat) ≠ 15 by decide), up_up]
    have key : ∀ x : Int, x * sp.toInt ≤ sl.toInt ↔ -r.toInt ≤ x := by
      intro x
      have h1 : -x ≤ sl.toInt / (-sp).toInt ↔ -x * (-sp).toInt ≤ sl.toInt := Int.le_ediv_iff_mul_le hp
      rw [← er, en, Int.neg_mul_neg] at h1
      rw [← h1]; omega
    refine h _ hi ?_ hhi (fun x => ?_)
    · split <;> omega
    · rw [key]
      split <;> omega
  · -- rising
    have hp : 0 < sp.toInt := by omega
    have hsl : -100000 ≤ sl.toInt ∧ sl.toInt ≤ 100000 := by omega
    refine q_floor hp (by omega) (by omega) (fun r er => ?_)
    have br := ediv_r hp hsl
    rw [← er] at br
    rw [q_min]
    rintro _ rfl
    rw [up_up]
    have key : ∀ x : Int, x * sp.toInt ≤ sl.toInt ↔ x ≤ r.toInt := by
      intro x
      rw [er]
      exact (Int.le_ediv_iff_mul_le hp).symm
    refine h lo _ hlo ?_ (fun x => ?_)
    · split <;> omega
    · rw [key]
      split <;> omega
