/-! LAYER 2: numbers and branches -/
theorem br1 {c A B : Prop} [Decidable c] : ((c → A) ∧ (¬ c → B)) = (if c then A else B) := by
  by_cases h : c <;> simp [h]
theorem br2 {c A B : Prop} [Decidable c] : ((¬ c → A) ∧ (c → B)) = (if c then B else A) := by
  by_cases h : c <;> simp [h]
def bi (b : Bool) : Int32 := if b then 1 else 0
theorem bi_t : bi true = 1 := rfl
theorem bi_f : bi false = 0 := rfl
theorem bi_0 (b : Bool) : (bi b = 0) = (b = false) := by cases b <;> simp [bi]
theorem bi_1 (b : Bool) : (bi b = 1) = (b = true) := by cases b <;> simp [bi]
theorem gz_bi (b : Bool) : gz (bi b) := by cases b <;> simp [bi, gz]
theorem up_s {α : Type} (f : Nat → α) (k : Nat) (v : α) : va_up f k v k = v := by simp [va_up]
theorem up_n {α : Type} (f : Nat → α) {k j : Nat} (v : α) (h : j ≠ k) : va_up f k v j = f j := by simp [va_up, h]
/-- of a literal's Int -/
theorem tI (n : Nat) (h : n < 2 ^ 31) : (OfNat.ofNat n : Int32).toInt = (n : Int) := nI_toInt h
theorem lt_I (x y : Int32) : (x < y) = (x.toInt < y.toInt) := propext Int32.lt_iff_toInt_lt
theorem le_I (x y : Int32) : (x ≤ y) = (x.toInt ≤ y.toInt) := propext Int32.le_iff_toInt_le
theorem eq_I (x y : Int32) : (x = y) = (x.toInt = y.toInt) := propext ⟨fun h => by rw [h], fun h => Int32.toInt_inj.mp h⟩
theorem rng_I (x : Int32) : -2147483648 ≤ x.toInt ∧ x.toInt < 2147483648 := by
  have h1 := Int32.le_toInt x
  have h2 := Int32.toInt_lt x
  omega
theorem bmod_I {z : Int} (h1 : -2147483648 ≤ z) (h2 : z < 2147483648) : z.bmod (2 ^ 32) = z := by
  rw [Int.bmod_eq_of_le (by omega) (by omega)]
theorem add_I {x y : Int32} (h1 : -2147483648 ≤ x.toInt + y.toInt) (h2 : x.toInt + y.toInt < 2147483648) : (x + y).toInt = x.toInt + y.toInt := by
  rw [Int32.toInt_add]; exact bmod_I h1 h2
theorem sub_I {x y : Int32} (h1 : -2147483648 ≤ x.toInt - y.toInt) (h2 : x.toInt - y.toInt < 2147483648) : (x - y).toInt = x.toInt - y.toInt := by
  rw [Int32.toInt_sub]; exact bmod_I h1 h2
theorem mul_I {x y : Int32} (h1 : -2147483648 ≤ x.toInt * y.toInt) (h2 : x.toInt * y.toInt < 2147483648) : (x * y).toInt = x.toInt * y.toInt := by
  rw [Int32.toInt_mul]; exact bmod_I h1 h2
theorem z_0 : (0 : Int32).toInt = 0 := rfl
theorem z_1 : (1 : Int32).toInt = 1 := rfl
theorem z_m1 : (-1 : Int32).toInt = -1 := rfl
theorem z_12 : (12 : Int32).toInt = 12 := rfl
theorem cl_I (x : Int32) : x.toNatClampNeg = x.toInt.toNat := rfl
theorem in_I {x : Int32} {n : Nat} : vp_in x n = (0 ≤ x.toInt ∧ x.toInt < n) := propext vp_in_iff
theorem nI_I {n : Nat} (h : n < 2 ^ 31) : (nI n).toInt = (n : Int) := nI_toInt h
/-- longs out of ints -/
theorem l_I (x : Int32) : x.toInt64.toInt = x.toInt := Int32.toInt_toInt64 x
theorem ltL (x y : Int64) : (x < y) = (x.toInt < y.toInt) := propext Int64.lt_iff_toInt_lt
theorem cmp_lt (x y : Int64) : ((lg_cmp x y) < 0) = (x.toInt < y.toInt) := by
  unfold lg_cmp
  by_cases h1 : y < x
  · have h2 := Int64.lt_iff_toInt_lt.mp h1
    rw [if_pos h1]
    simp
    omega
  · rw [if_neg h1]
    by_cases h3 : x = y
    · subst h3; simp
    · have h4 : ¬ x.toInt = y.toInt := fun q => h3 (Int64.toInt_inj.mp q)
      have h5 : ¬ y.toInt < x.toInt := fun q => h1 (Int64.lt_iff_toInt_lt.mpr q)
      rw [if_neg h3]
      have : x.toInt < y.toInt := by omega
      simp [this]
theorem cmp_gt (x y : Int64) : (0 < (lg_cmp x y)) = (y.toInt < x.toInt) := by
  unfold lg_cmp
  by_cases h1 : y < x
  · have h2 := Int64.lt_iff_toInt_lt.mp h1
    rw [if_pos h1]
    simp [h2]
  · have h5 : ¬ y.toInt < x.toInt := fun q => h1 (Int64.lt_iff_toInt_lt.mpr q)
    rw [if_neg h1]
    by_cases h3 : x = y
    · subst h3; simp
    · rw [if_neg h3]
      simp
      omega
/-- downwards through a loop's places -/
theorem dn {P : Nat → Prop} {W : Nat} (hW : P W) (hs : ∀ x, x < W → P (x + 1) → P x) : ∀ x, x ≤ W → P x := by
  intro x hx
  have key : ∀ d x, W - x = d → x ≤ W → P x := by
    intro d
    induction d with
    | zero => intro x h1 h2; have : x = W := by omega
              subst this; exact hW
    | succ d ih => intro x h1 h2; exact hs x (by omega) (ih (x + 1) (by omega) (by omega))
  exact key _ x rfl hx
/-! the leaves -/
theorem q_in (N : Nat) (a b c : Int64) (g : gFG) (f : gFF) (w : Int64) (Q : Int32 → gFG → gFF → Int64 → Prop) : wX12_in N a b c g f w Q = Q (bi (decide (b.toInt ≤ a.toInt ∧ a.toInt ≤ c.toInt))) g f w := by
  simp only [wX12_in, br1, cmp_lt, cmp_gt]
  by_cases h1 : a.toInt < b.toInt
  · rw [if_pos h1, decide_eq_false (by omega)]; rfl
  · rw [if_neg h1]
    by_cases h2 : c.toInt < a.toInt
    · rw [if_pos h2, decide_eq_false (by omega)]; rfl
    · rw [if_neg h2, decide_eq_true (by omega)]; rfl
theorem q_told (N : Nat) (a : Int32) (g : gFG) (f : gFF) (w : Int64) (Q : Int32 → gFG → gFF → Int64 → Prop) : wX12_told N a g f w Q = Q a (va_up g 1 (if 0 ≤ a.toInt then 0 else a)) f w := by
  simp only [wX12_told, br1, le_I, z_0, forall_eq]
  by_cases h : 0 ≤ a.toInt
  · rw [if_pos h, if_pos h]
  · rw [if_neg h, if_neg h]
theorem q_min (N : Nat) (a b : Int32) (g : gFG) (f : gFF) (Q : Int32 → gFG → gFF → Prop) : wJ9_min_7cf53 N a b g f Q = Q (if a.toInt ≤ b.toInt then a else b) g f := by
  simp only [wJ9_min_7cf53, br1, br2, le_I, lt_I]
  by_cases h : a.toInt ≤ b.toInt
  · have h2 : ¬ b.toInt < a.toInt := by omega
    simp [h, h2]
  · have h2 : b.toInt < a.toInt := by omega
    simp [h, h2]
theorem q_max (N : Nat) (a b : Int32) (g : gFG) (f : gFF) (Q : Int32 → gFG → gFF → Prop) : wJ9_max_7cf53 N a b g f Q = Q (if b.toInt ≤ a.toInt then a else b) g f := by
  simp only [wJ9_max_7cf53, br1, br2, le_I, lt_I]
  by_cases h : b.toInt ≤ a.toInt
  · have h2 : ¬ a.toInt < b.toInt := by omega
    simp [h, h2]
  · have h2 : a.toInt < b.toInt := by omega
    simp [h, h2]
theorem q_answered (N : Nat) (a : Int32) (g : gFG) (f : gFF) (Q : Int32 → gFG → gFF → Prop) : wX11_answered N a g f Q = Q a (va_up g 1 (if 0 ≤ a.toInt then 0 else a)) f := by
  simp only [wX11_answered, q_min, z_0, forall_eq]
  congr 2
  by_cases h : 0 ≤ a.toInt
  · by_cases h2 : a.toInt ≤ 0
    · have h3 : a = 0 := by rw [eq_I, z_0]; omega
      subst h3; rfl
    · rw [if_neg h2, if_pos h]
  · rw [if_pos (by omega), if_neg h]
def hasB (W H x y : Int32) : Bool := decide (0 ≤ x.toInt ∧ x.toInt < W.toInt ∧ 0 ≤ y.toInt ∧ y.toInt < H.toInt)
theorem q_has (N : Nat) (x y : Int32) (g : gFG) (f : gFF) (Q : Int32 → gFG → gFF → Prop) : wX2_has N x y g f Q = Q (bi (hasB (g 4) (g 5) x y)) g f := by
  simp only [wX2_has, br1, lt_I, le_I, z_0, hasB]
  by_cases h1 : x.toInt < 0
  · rw [if_pos h1, decide_eq_false (by omega)]; rfl
  rw [if_neg h1]
  by_cases h2 : (g 4).toInt ≤ x.toInt
  · rw [if_pos h2, decide_eq_false (by omega)]; rfl
  rw [if_neg h2]
  by_cases h3 : y.toInt < 0
  · rw [if_pos h3, decide_eq_false (by omega)]; rfl
  rw [if_neg h3]
  by_cases h4 : (g 5).toInt ≤ y.toInt
  · rw [if_pos h4, decide_eq_false (by omega)]; rfl
  · rw [if_neg h4, decide_eq_true (by omega)]; rfl
theorem q_isCell (N : Nat) (x y : Int32) (g : gFG) (f : gFF) (w : Int64) (Q : Int32 → gFG → gFF → Int64 → Prop) : wX12_isCell N x y g f w Q = Q (bi (hasB (g 2) (g 3) x y)) g f w := by
  have e1 : ∀ v : Int32, (v.toInt64 - 1).toInt = v.toInt - 1 := by
    intro v
    have hr := rng_I v
    rw [Int64.toInt_sub, l_I, show (1 : Int64).toInt = 1 from rfl, Int.bmod_eq_of_le (by omega) (by omega)]
  simp only [wX12_isCell, q_in, br1, bi_0, l_I, e1, show (0 : Int64).toInt = 0 from rfl, hasB]
  by_cases h1 : (0 ≤ x.toInt ∧ x.toInt ≤ (g 2).toInt - 1)
  · rw [decide_eq_true (show 0 ≤ x.toInt ∧ x.toInt ≤ (g 2).toInt - 1 from h1)]
    by_cases h2 : (0 ≤ y.toInt ∧ y.toInt ≤ (g 3).toInt - 1)
    · rw [decide_eq_true (show 0 ≤ y.toInt ∧ y.toInt ≤ (g 3).toInt - 1 from h2), decide_eq_true (show 0 ≤ x.toInt ∧ x.toInt < (g 2).toInt ∧ 0 ≤ y.toInt ∧ y.toInt < (g 3).toInt by omega)]
      simp [bi]
    · rw [decide_eq_false h2, decide_eq_false (show ¬ (0 ≤ x.toInt ∧ x.toInt < (g 2).toInt ∧ 0 ≤ y.toInt ∧ y.toInt < (g 3).toInt) by omega)]
      simp [bi]
  · rw [decide_eq_false h1, decide_eq_false (show ¬ (0 ≤ x.toInt ∧ x.toInt < (g 2).toInt ∧ 0 ≤ y.toInt ∧ y.toInt < (g 3).toInt) by omega)]
    simp [bi]
def isClayB (x : Int32) : Bool := decide (10 ≤ x.toInt ∧ x.toInt < 18)
theorem q_isClay (N : Nat) (x : Int32) (g : gFG) (f : gFF) (Q : Int32 → gFG → gFF → Prop) : wX11_isClay N x g f Q = Q (bi (isClayB x)) g f := by
  simp only [wX11_isClay, br1, lt_I, le_I, isClayB, show (10 : Int32).toInt = 10 from rfl, show (18 : Int32).toInt = 18 from rfl]
  by_cases h1 : x.toInt < 10
  · rw [if_pos h1, decide_eq_false (by omega)]; rfl
  rw [if_neg h1]
  by_cases h2 : 18 ≤ x.toInt
  · rw [if_pos h2, decide_eq_false (by omega)]; rfl
  · rw [if_neg h2, decide_eq_true (by omega)]; rfl
def isSortB (x : Int32) : Bool := decide ((0 ≤ x.toInt ∧ x.toInt ≤ 4) ∨ (10 ≤ x.toInt ∧ x.toInt < 18))
theorem q_isSort (N : Nat) (x : Int32) (g : gFG) (f : gFF) (Q : Int32 → gFG → gFF → Prop) : wX11_isSort N x g f Q = Q (bi (isSortB x)) g f := by
  simp only [wX11_isSort, wX11_isSort_j9, wX11_isSort_j16, q_isClay, br1, bi_0, lt_I, le_I, isSortB, z_0, isClayB, show (4 : Int32).toInt = 4 from rfl]
  by_cases h1 : x.toInt < 0
  · rw [if_pos h1, decide_eq_false (show ¬ (10 ≤ x.toInt ∧ x.toInt < 18) by omega), decide_eq_false (show ¬ ((0 ≤ x.toInt ∧ x.toInt ≤ 4) ∨ (10 ≤ x.toInt ∧ x.toInt < 18)) by omega)]; simp [bi]
  rw [if_neg h1]
  by_cases h2 : x.toInt ≤ 4
  · rw [if_pos h2, decide_eq_true (show ((0 ≤ x.toInt ∧ x.toInt ≤ 4) ∨ (10 ≤ x.toInt ∧ x.toInt < 18)) by omega)]; rfl
  rw [if_neg h2]
  by_cases h3 : 10 ≤ x.toInt ∧ x.toInt < 18
  · rw [decide_eq_true h3, decide_eq_true (show ((0 ≤ x.toInt ∧ x.toInt ≤ 4) ∨ (10 ≤ x.toInt ∧ x.toInt < 18)) by omega)]; simp [bi]
  · rw [decide_eq_false h3, decide_eq_false (show ¬ ((0 ≤ x.toInt ∧ x.toInt ≤ 4) ∨ (10 ≤ x.toInt ∧ x.toInt < 18)) by omega)]; simp [bi]
def withinB (x m : Int32) : Bool := decide (0 ≤ x.toInt ∧ x.toInt ≤ m.toInt)
theorem q_isWithin (N : Nat) (x m : Int32) (g : gFG) (f : gFF) (Q : Int32 → gFG → gFF → Prop) : wX11_isWithin N x m g f Q = Q (bi (withinB x m)) g f := by
  simp only [wX11_isWithin, br1, lt_I, z_0, withinB]
  by_cases h1 : x.toInt < 0
  · rw [if_pos h1, decide_eq_false (by omega)]; rfl
  rw [if_neg h1]
  by_cases h2 : m.toInt < x.toInt
  · rw [if_pos h2, decide_eq_false (by omega)]; rfl
  · rw [if_neg h2, decide_eq_true (by omega)]; rfl
