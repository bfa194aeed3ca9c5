/-! the model's words; numbers -/
def v1w (t : Int64) (c : Int32) : Int64 := if c = 0 then t else t * 32 + c.toInt64 - 96
def vvw (a1 a2 a3 a4 a5 a6 a7 : Int32) : Int64 := v1w (v1w (v1w (v1w (v1w ((a1.toInt64 - 96) * 32 + a2.toInt64 - 96) a3) a4) a5) a6) a7
theorem q_iw145 (N : Nat) (t0 : Int64) (g : gFG) (f : gFF) (w : Int64) (Q : Int32 → gFG → gFF → Int64 → Prop) : wX12_isWord_j145 N Q t0 g f w = Q (bi (decide (g 34 = 1 ∧ w.toInt = t0.toInt))) g f w := by
  simp only [wX12_isWord_j145, br1, br2, cmp_eq]
  by_cases h1 : g 34 = 1
  · by_cases h2 : w.toInt = t0.toInt
    · simp [h1, h2, bi]
    · simp [h1, h2, bi]
  · simp [h1, bi]
theorem q_iw (N : Nat) (a1 a2 a3 a4 a5 a6 a7 : Int32) (g : gFG) (f : gFF) (w : Int64) (Q : Int32 → gFG → gFF → Int64 → Prop) : wX12_isWord N a1 a2 a3 a4 a5 a6 a7 g f w Q = Q (bi (decide (g 34 = 1 ∧ w.toInt = (vvw a1 a2 a3 a4 a5 a6 a7).toInt))) g f w := by
  have e1 : ∀ t0, wX12_isWord_j119 N Q a7 t0 g f w = Q (bi (decide (g 34 = 1 ∧ w.toInt = (v1w t0 a7).toInt))) g f w := by
    intro t0
    simp only [wX12_isWord_j119, br2, q_iw145, v1w]
    by_cases h : a7 = 0 <;> simp [h]
  have e2 : ∀ t0, wX12_isWord_j93 N Q a6 a7 t0 g f w = Q (bi (decide (g 34 = 1 ∧ w.toInt = (v1w (v1w t0 a6) a7).toInt))) g f w := by
    intro t0
    simp only [wX12_isWord_j93, br2, e1]
    by_cases h : a6 = 0
    · rw [if_pos h, show v1w t0 a6 = t0 from if_pos h]
    · rw [if_neg h, show v1w t0 a6 = t0 * 32 + a6.toInt64 - 96 from if_neg h]
  have e3 : ∀ t0, wX12_isWord_j67 N Q a5 a6 a7 t0 g f w = Q (bi (decide (g 34 = 1 ∧ w.toInt = (v1w (v1w (v1w t0 a5) a6) a7).toInt))) g f w := by
    intro t0
    simp only [wX12_isWord_j67, br2, e2]
    by_cases h : a5 = 0
    · rw [if_pos h, show v1w t0 a5 = t0 from if_pos h]
    · rw [if_neg h, show v1w t0 a5 = t0 * 32 + a5.toInt64 - 96 from if_neg h]
  have e4 : ∀ t0, wX12_isWord_j41 N Q a4 a5 a6 a7 t0 g f w = Q (bi (decide (g 34 = 1 ∧ w.toInt = (v1w (v1w (v1w (v1w t0 a4) a5) a6) a7).toInt))) g f w := by
    intro t0
    simp only [wX12_isWord_j41, br2, e3]
    by_cases h : a4 = 0
    · rw [if_pos h, show v1w t0 a4 = t0 from if_pos h]
    · rw [if_neg h, show v1w t0 a4 = t0 * 32 + a4.toInt64 - 96 from if_neg h]
  have e5 : ∀ X : Int64, ((¬ a3 = 0 → wX12_isWord_j41 N Q a4 a5 a6 a7 (X * 32 + a3.toInt64 - 96) g f w) ∧ (a3 = 0 → wX12_isWord_j41 N Q a4 a5 a6 a7 X g f w)) = Q (bi (decide (g 34 = 1 ∧ w.toInt = (v1w (v1w (v1w (v1w (v1w X a3) a4) a5) a6) a7).toInt))) g f w := by
    intro X
    simp only [br2, e4]
    by_cases h : a3 = 0
    · rw [if_pos h, show v1w X a3 = X from if_pos h]
    · rw [if_neg h, show v1w X a3 = X * 32 + a3.toInt64 - 96 from if_neg h]
  unfold wX12_isWord vvw
  rw [← e5]
  exact propext ⟨fun q => q _ rfl, fun q x hx => by rw [hx]; exact q⟩
theorem gs_l : ∀ r : Nat, r < 13 → r ≠ 10 → 1 ≤ (gsb.getD r []).length ∧ (gsb.getD r []).length ≤ 7 ∧ ∀ i, i < (gsb.getD r []).length → 97 ≤ ((gsb.getD r []).getD i 0).toInt ∧ ((gsb.getD r []).getD i 0).toInt ≤ 122 := by decide
theorem q_wM {N t p s e k : Nat} {b : Nat → Int32} {g : gFG} {f : gFF} {Q : Int32 → gFG → gFF → Int64 → Prop} (hT : Tk b t p s e k) (g34 : g 34 = nI k) (r : Nat) (hr : r < 13) (hr2 : r ≠ 10) (a1 a2 a3 a4 a5 a6 a7 : Int32) (hV : (vvw a1 a2 a3 a4 a5 a6 a7).toInt = wi (fun i => ((gsb.getD r []).getD i 0).toInt - 96) (gsb.getD r []).length) (hV0 : 0 ≤ (vvw a1 a2 a3 a4 a5 a6 a7).toInt) : wX12_isWord N a1 a2 a3 a4 a5 a6 a7 g f (wor b s e k) Q = Q (bi (isW b s e (gsb.getD r []))) g f (wor b s e k) := by
  obtain ⟨c1, c2, c3⟩ := gs_l r hr hr2
  rw [q_iw, g34, wordM hT _ c1 c2 c3 _ hV hV0]
theorem q_sortAt {N t p s e k : Nat} {v : Int32} {b : Nat → Int32} {g : gFG} {f : gFF} {Q : Int32 → gFG → gFF → Int64 → Prop} (hT : Tk b t p s e k) (g34 : g 34 = nI k) (hv : KD b s e v) (h : Q v g f (wor b s e k)) : wX12_sortAt N g f (wor b s e k) Q := by
  have w0 := fun Q => q_wM (N := N) (f := f) (Q := Q) hT g34 0 (by decide) (by decide) 116 105 110 0 0 0 0 (by decide +kernel) (by decide +kernel)
  have w1 := fun Q => q_wM (N := N) (f := f) (Q := Q) hT g34 1 (by decide) (by decide) 108 101 97 100 0 0 0 (by decide +kernel) (by decide +kernel)
  have w2 := fun Q => q_wM (N := N) (f := f) (Q := Q) hT g34 2 (by decide) (by decide) 99 111 112 112 101 114 0 (by decide +kernel) (by decide +kernel)
  have w3 := fun Q => q_wM (N := N) (f := f) (Q := Q) hT g34 3 (by decide) (by decide) 119 97 108 108 0 0 0 (by decide +kernel) (by decide +kernel)
  have w4 := fun Q => q_wM (N := N) (f := f) (Q := Q) hT g34 4 (by decide) (by decide) 97 105 114 0 0 0 0 (by decide +kernel) (by decide +kernel)
  have w5 := fun Q => q_wM (N := N) (f := f) (Q := Q) hT g34 5 (by decide) (by decide) 100 114 121 0 0 0 0 (by decide +kernel) (by decide +kernel)
  have w6 := fun Q => q_wM (N := N) (f := f) (Q := Q) hT g34 6 (by decide) (by decide) 115 116 117 99 107 0 0 (by decide +kernel) (by decide +kernel)
  have w7 := fun Q => q_wM (N := N) (f := f) (Q := Q) hT g34 7 (by decide) (by decide) 112 105 101 99 101 115 0 (by decide +kernel) (by decide +kernel)
  have w8 := fun Q => q_wM (N := N) (f := f) (Q := Q) hT g34 8 (by decide) (by decide) 115 112 97 99 101 114 115 (by decide +kernel) (by decide +kernel)
  simp only [wX12_sortAt, wX12_sortAt_j35, wX12_sortAt_j96, wX12_sortAt_j154, wX12_sortAt_j216, w0, w1, w2, w3, w4, w5, w6, w7, w8, br1, br2, bi_0]
  rcases hv with ⟨e1, e2⟩ | ⟨i, h1, h2, h3⟩
  · rw [e2 0 (by decide), e2 1 (by decide), e2 2 (by decide), e2 3 (by decide), e2 4 (by decide), e2 5 (by decide), e2 6 (by decide), e2 7 (by decide), e2 8 (by decide)]
    rw [← e1]
    simp only [if_true]
    exact h
  · rw [h3 0 (by decide), h3 1 (by decide), h3 2 (by decide), h3 3 (by decide), h3 4 (by decide), h3 5 (by decide), h3 6 (by decide), h3 7 (by decide), h3 8 (by decide)]
    rw [h2] at h
    have : i = 0 ∨ i = 1 ∨ i = 2 ∨ i = 3 ∨ i = 4 ∨ i = 5 ∨ i = 6 ∨ i = 7 ∨ i = 8 := by omega
    rcases this with rfl | rfl | rfl | rfl | rfl | rfl | rfl | rfl | rfl <;> simp <;> exact h
/-! must -/
theorem q_mustT {N : Nat} {a : Int32} {g : gFG} {f : gFF} {w : Int64} {Q : gFG → gFF → Int64 → Prop} (h37 : g 37 = 0) (ha : ¬ a = 0) (h : wX12_next N g f w Q) : wX12_must N a g f w Q := by
  simp only [wX12_must, wX12_must_j24, br1, br2]
  simp [h37, ha, h]
theorem q_mustF {N : Nat} {g : gFG} {f : gFF} {w : Int64} {Q : gFG → gFF → Int64 → Prop} (h37 : g 37 = 0) (h : Q (va_up (va_up g 37 1) 36 (g 32)) f w) : wX12_must N 0 g f w Q := by
  simp only [wX12_must, wX12_must_j24, br1, br2, forall_eq, up_n _ _ (show (32 : Nat) ≠ 37 by decide), up_n _ _ (show (37 : Nat) ≠ 36 by decide), up_s]
  simp [h37, h]
theorem q_mustB {N : Nat} {a : Int32} {g : gFG} {f : gFF} {w : Int64} {Q : gFG → gFF → Int64 → Prop} (h37 : ¬ g 37 = 0) (h : Q g f w) : wX12_must N a g f w Q := by
  simp only [wX12_must, wX12_must_j24, br1, br2]
  simp [h37, h]
/-! numbers -/
def nr (b : Nat → Int32) (s : Nat) : Nat → Int32
  | 0 => 0
  | j + 1 => if (nr b s j * 10 + b (s + j) - 48).toInt ≤ 1001 then nr b s j * 10 + b (s + j) - 48 else 1001
theorem nr_wd (b : Nat → Int32) (s : Nat) : ∀ j, (∀ i, i < j → isDi (b (s + i)) = true) → (0 ≤ (nr b s j).toInt ∧ 0 ≤ (wd b s j).toInt ∧ (wd b s j).toInt ≤ 10009) ∧ (((nr b s j).toInt = (wd b s j).toInt ∧ (wd b s j).toInt ≤ 1000) ∨ ((nr b s j).toInt = 1001 ∧ 1000 < (wd b s j).toInt)) := by
  intro j
  induction j with
  | zero => intro _; simp only [nr, wd]; decide
  | succ j ih =>
    intro h2
    obtain ⟨⟨a1, a2, a3⟩, a4⟩ := ih (fun i hi => h2 i (by omega))
    have a5 := of_decide_eq_true (h2 j (by omega))
    have e1 : (nr b s j * 10).toInt = (nr b s j).toInt * 10 := by
      rw [mul_I (by rw [show (10 : Int32).toInt = 10 from rfl]; omega) (by rw [show (10 : Int32).toInt = 10 from rfl]; omega)]; rfl
    have e2 : (nr b s j * 10 + b (s + j)).toInt = (nr b s j).toInt * 10 + (b (s + j)).toInt := by
      rw [add_I (by rw [e1]; omega) (by rw [e1]; omega), e1]
    have z48 : (48 : Int32).toInt = 48 := rfl
    have e3 : (nr b s j * 10 + b (s + j) - 48).toInt = (nr b s j).toInt * 10 + (b (s + j)).toInt - 48 := by
      rw [sub_I (by rw [e2, z48]; omega) (by rw [e2, z48]; omega), e2, z48]
    have f1 : (wd b s j * 10).toInt = (wd b s j).toInt * 10 := by
      rw [Int64.toInt_mul, show (10 : Int64).toInt = 10 from rfl]; exact bmL (by omega) (by omega)
    have f2 : (wd b s j * 10 + (b (s + j)).toInt64).toInt = (wd b s j).toInt * 10 + (b (s + j)).toInt := by
      rw [Int64.toInt_add, f1, l_I]; exact bmL (by omega) (by omega)
    have f3 : (wd b s j * 10 + (b (s + j)).toInt64 - 48).toInt = (wd b s j).toInt * 10 + (b (s + j)).toInt - 48 := by
      rw [Int64.toInt_sub, f2, show (48 : Int64).toInt = 48 from rfl]; exact bmL (by omega) (by omega)
    have z1001 : (1001 : Int32).toInt = 1001 := rfl
    simp only [nr, wd]
    by_cases c1 : (wd b s j).toInt ≤ 1000
    · rw [if_pos c1, f3]
      by_cases c2 : (nr b s j * 10 + b (s + j) - 48).toInt ≤ 1001
      · rw [if_pos c2]
        rw [e3] at c2 ⊢
        omega
      · rw [if_neg c2, z1001]
        rw [e3] at c2
        omega
    · rw [if_neg c1]
      by_cases c2 : (nr b s j * 10 + b (s + j) - 48).toInt ≤ 1001
      · rw [e3] at c2
        omega
      · rw [if_neg c2, z1001]
        omega
abbrev okn (b : Nat → Int32) (s e k : Nat) (l : Int) : Prop := k = 2 ∧ l ≤ (nr b s (e - s)).toInt ∧ (nr b s (e - s)).toInt ≤ 1000
theorem q_readNum {N t p s e k s' e' k' : Nat} {a : Int32} {g : gFG} {f : gFF} {Q : Int32 → gFG → gFF → Prop} (hN : 1000 ≤ N) (ht : t ≤ 300) (hT : Tk (f 44) t p s e k) (hT' : Tk (f 44) t e s' e' k') (h18 : g 18 = nI t) (h19 : g 19 = nI s) (h20 : g 20 = nI e) (h1 : okn (f 44) s e k a.toInt → ∀ g' : gFG, g' 19 = nI s' → g' 20 = nI e' → (∀ j, j ≠ 19 → j ≠ 20 → g' j = g j) → Q (nr (f 44) s (e - s)) g' f) (h2 : ¬ okn (f 44) s e k a.toInt → Q (-1) g f) : wX7_readNumber N a g f Q := by
  have hT0 := hT
  obtain ⟨t1, t2, t3, t4, t5, t6⟩ := hT
  have fin : k = 2 → (∀ i, s ≤ i → i < e → isDi (f 44 i) = true) → s < e → wX7_readNumber_l26 N a Q N 0 (nI s) g f := by
    intro k2 hd hse
    refine lpU (β := Unit) (fun n x _ => wX7_readNumber_l26 N a Q n (nr (f 44) s (x - s)) (nI x) g f) (fun x _ => s ≤ x) e ?_ ?_ s N () (by omega) (by omega) (Nat.le_refl s) |> fun hh => by simpa [nr] using hh
    · intro n _ _
      unfold wX7_readNumber_l26
      rw [h20]
      refine ⟨fun _ => ?_, fun c => absurd (nI_le (Nat.le_refl e) (by omega)) c⟩
      simp only [br1, lt_I, le_I, z_1000]
      by_cases c1 : (nr (f 44) s (e - s)).toInt < a.toInt
      · rw [if_pos c1]; exact h2 (fun q => by have := q.2.1; omega)
      · rw [if_neg c1]
        by_cases c2 : (nr (f 44) s (e - s)).toInt ≤ 1000
        · rw [if_pos c2]
          exact q_adv hN ht hT' h18 h20 (fun g' x1 x2 x3 => h1 ⟨k2, by omega, c2⟩ g' x1 x2 x3)
        · rw [if_neg c2]; exact h2 (fun q => c2 q.2.2)
    · intro n x _ hx hsx ih
      unfold wX7_readNumber_l26
      rw [h20]
      refine ⟨fun c => absurd c (nI_ge hx (by omega)), fun _ => ?_⟩
      rw [q_byte ht (by omega) h18, if_pos (by omega), q_min]
      intro y ey
      rw [ey, nI_1]
      have := ih () (by omega)
      have e1 : x + 1 - s = (x - s) + 1 := by omega
      have e2 : s + (x - s) = x := by omega
      rw [e1, nr, e2] at this
      exact this
  unfold wX7_readNumber
  rw [h19, q_byte ht (by omega) h18, q_isDig]
  simp only [bi_0, br2, forall_eq, h19]
  rcases t6 with ⟨z0, z1, z2⟩ | ⟨z1, z2, z3⟩
  · rw [if_neg (show ¬ s < t by omega), if_pos (show isDi (-1) = false by decide)]
    exact h2 (fun q => by have := q.1; omega)
  · rw [if_pos z1]
    rcases z3 with ⟨z0, z4, z5⟩ | ⟨z0, z4, z5⟩ | ⟨z0, z4, z5, z6⟩
    · have y1 := of_decide_eq_true (z4 s (Nat.le_refl s) z2)
      have y2 : isDi (f 44 s) = false := decide_eq_false (by omega)
      rw [if_pos y2]
      exact h2 (fun q => by have := q.1; omega)
    · rw [if_neg (by rw [z4 s (Nat.le_refl s) z2]; decide)]
      exact fin z0 z4 z2
    · rw [if_pos z6]
      exact h2 (fun q => by have := q.1; omega)
theorem q_numM {N t p s e k s' e' k' : Nat} {a : Int64} {b : Nat → Int32} {g : gFG} {f : gFF} {Q : Int32 → gFG → gFF → Int64 → Prop} (hN : 1000 ≤ N) (ht : t ≤ 300) (hb : ∀ i, i < t → f 20 i = b i) (hT : Tk b t p s e k) (hT' : Tk b t e s' e' k') (h31 : g 31 = nI t) (h32 : g 32 = nI s) (h33 : g 33 = nI e) (h34 : g 34 = nI k) (h37 : g 37 = 0) (h1 : okn b s e k a.toInt → ∀ g' : gFG, g' 32 = nI s' → g' 33 = nI e' → g' 34 = nI k' → (∀ j, j ≠ 32 → j ≠ 33 → j ≠ 34 → g' j = g j) → Q (nr b s (e - s)) g' f (wor b s' e' k')) (h2 : ¬ okn b s e k a.toInt → ∀ (v : Int32) (g' : gFG), g' 37 = 1 → g' 36 = nI s → (∀ j, j ≠ 37 → j ≠ 36 → g' j = g j) → Q v g' f (wor b s e k)) : wX12_number N a g f (wor b s e k) Q := by
  have hT0 := hT
  obtain ⟨t1, t2, t3, t4, t5, t6⟩ := hT
  have bad : ¬ okn b s e k a.toInt → ∀ v, wX12_must N 0 g f (wor b s e k) (fun g34 f34 w34 => Q v g34 f34 w34) := by
    intro hh v
    refine q_mustF h37 (h2 hh v _ ?_ ?_ ?_)
    · rw [up_n _ _ (by decide), up_s]
    · rw [up_s, h32]
    · intro j j1 j2
      rw [up_n _ _ j2, up_n _ _ j1]
  simp only [wX12_number, wX12_number_j33, wX12_number_j34, forall_eq, br1, br2, q_in, bi_0, h34, show (1000 : Int64).toInt = 1000 from rfl]
  have hk : (nI k = 2) = (k = 2) := propext (nI_eq (b := 2) (by rcases t6 with ⟨z0, z1, z2⟩ | ⟨z1, z2, ⟨z0, z4, z5⟩ | ⟨z0, z4, z5⟩ | ⟨z0, z4, z5, z6⟩⟩ <;> omega) (by decide))
  simp only [hk]
  by_cases k2 : k = 2
  · rw [if_pos k2]
    rcases t6 with ⟨z0, z1, z2⟩ | ⟨z1, z2, ⟨z0, z4, z5⟩ | ⟨z0, z4, z5⟩ | ⟨z0, z4, z5, z6⟩⟩
    · omega
    · omega
    · have hw : wor b s e k = wd b s (e - s) := by unfold wor; rw [if_neg (by omega), if_neg (by omega), if_pos k2]
      obtain ⟨⟨r1, r2, r3⟩, r4⟩ := nr_wd b s (e - s) (fun i hi => z4 (s + i) (by omega) (by omega))
      by_cases c1 : a.toInt ≤ (wor b s e k).toInt ∧ (wor b s e k).toInt ≤ 1000
      · rw [if_neg (by rw [decide_eq_true c1]; decide)]
        rw [hw] at c1
        have ok : okn b s e k a.toInt := ⟨k2, by omega, by omega⟩
        refine q_mustT h37 (by decide) ?_
        refine q_next hN ht hb hT' h31 h33 (fun g' x1 x2 x3 x4 => ?_)
        have hv : (wor b s e k).toInt32 = nr b s (e - s) := by
          rw [eq_I, hw, Int64.toInt_toInt32, bmod_I (by omega) (by omega)]
          omega
        rw [hv]
        exact h1 ok g' x1 x2 x3 x4
      · rw [if_pos (decide_eq_false c1)]
        rw [hw] at c1
        exact bad (fun q => by have := q.2; omega) _
    · omega
  · rw [if_neg k2]
    exact bad (fun q => k2 q.1) _
