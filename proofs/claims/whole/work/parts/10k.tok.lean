/-! the tape's tokens -/
def isLe (x : Int32) : Bool := decide (97 ≤ x.toInt ∧ x.toInt ≤ 122)
def isDi (x : Int32) : Bool := decide (48 ≤ x.toInt ∧ x.toInt ≤ 57)
def isBl (x : Int32) : Bool := decide (x = 32)
def run (P : Int32 → Bool) (b : Nat → Int32) (t : Nat) : Nat → Nat → Nat
  | 0, e => e
  | n + 1, e => if e < t ∧ P (b e) = true then run P b t n (e + 1) else e
theorem run_spec (P : Int32 → Bool) (b : Nat → Int32) (t : Nat) : ∀ (n e : Nat), e ≤ t → t - e ≤ n → e ≤ run P b t n e ∧ run P b t n e ≤ t ∧ (∀ i, e ≤ i → i < run P b t n e → P (b i) = true) ∧ (run P b t n e < t → P (b (run P b t n e)) = false) := by
  intro n
  induction n with
  | zero => intro e h1 h2; simp only [run]; exact ⟨by omega, h1, fun i _ _ => by omega, fun _ => by omega⟩
  | succ n ih =>
    intro e h1 h2
    simp only [run]
    by_cases h : e < t ∧ P (b e) = true
    · rw [if_pos h]
      obtain ⟨q1, q2, q3, q4⟩ := ih (e + 1) (by omega) (by omega)
      refine ⟨by omega, q2, fun i hi hj => ?_, q4⟩
      by_cases h3 : i = e
      · rw [h3]; exact h.2
      · exact q3 i (by omega) hj
    · rw [if_neg h]
      refine ⟨by omega, h1, fun i _ _ => by omega, fun hh => ?_⟩
      cases hp : P (b e) with
      | false => rfl
      | true => exact absurd ⟨hh, hp⟩ h
/-- a token: from p on, its first place s, the place behind it e, its sort k -/
def Tk (b : Nat → Int32) (t p s e k : Nat) : Prop := p ≤ s ∧ s ≤ t ∧ e ≤ t ∧ (∀ i, p ≤ i → i < s → b i = 32) ∧ (s < t → ¬ b s = 32) ∧ ((k = 0 ∧ s = t ∧ e = t) ∨ (s < t ∧ s < e ∧ ((k = 1 ∧ (∀ i, s ≤ i → i < e → isLe (b i) = true) ∧ (e < t → isLe (b e) = false)) ∨ (k = 2 ∧ (∀ i, s ≤ i → i < e → isDi (b i) = true) ∧ (e < t → isDi (b e) = false)) ∨ (k = 3 ∧ e = s + 1 ∧ isLe (b s) = false ∧ isDi (b s) = false))))
def nx (b : Nat → Int32) (t p : Nat) : Nat × Nat × Nat :=
  let s := run isBl b t t p
  if s < t then (if isLe (b s) = true then (s, run isLe b t t (s + 1), 1) else if isDi (b s) = true then (s, run isDi b t t (s + 1), 2) else (s, s + 1, 3)) else (s, t, 0)
theorem nx_tk (b : Nat → Int32) (t p : Nat) (hp : p ≤ t) : Tk b t p (nx b t p).1 (nx b t p).2.1 (nx b t p).2.2 := by
  obtain ⟨q1, q2, q3, q4⟩ := run_spec isBl b t t p hp (by omega)
  have q3' : ∀ i, p ≤ i → i < run isBl b t t p → b i = 32 := fun i h1 h2 => of_decide_eq_true (q3 i h1 h2)
  have q4' : run isBl b t t p < t → ¬ b (run isBl b t t p) = 32 := fun h => of_decide_eq_false (q4 h)
  unfold nx
  simp only
  generalize run isBl b t t p = s at q1 q2 q3' q4'
  by_cases h1 : s < t
  · rw [if_pos h1]
    by_cases h2 : isLe (b s) = true
    · rw [if_pos h2]
      obtain ⟨r1, r2, r3, r4⟩ := run_spec isLe b t t (s + 1) (by omega) (by omega)
      refine ⟨q1, q2, r2, q3', q4', Or.inr ⟨h1, r1, Or.inl ⟨rfl, fun i hi hj => ?_, r4⟩⟩⟩
      by_cases h3 : i = s
      · rw [h3]; exact h2
      · exact r3 i (by omega) hj
    · rw [if_neg h2]
      by_cases h4 : isDi (b s) = true
      · rw [if_pos h4]
        obtain ⟨r1, r2, r3, r4⟩ := run_spec isDi b t t (s + 1) (by omega) (by omega)
        refine ⟨q1, q2, r2, q3', q4', Or.inr ⟨h1, r1, Or.inr (Or.inl ⟨rfl, fun i hi hj => ?_, r4⟩)⟩⟩
        by_cases h3 : i = s
        · rw [h3]; exact h4
        · exact r3 i (by omega) hj
      · rw [if_neg h4]
        exact ⟨q1, q2, h1, q3', q4', Or.inr ⟨h1, by simp, Or.inr (Or.inr ⟨rfl, rfl, by simpa using h2, by simpa using h4⟩)⟩⟩
  · rw [if_neg h1]
    exact ⟨q1, q2, Nat.le_refl t, q3', q4', Or.inl ⟨rfl, by simp; omega, rfl⟩⟩
theorem q_isLetter (N : Nat) (a : Int32) (g : gFG) (f : gFF) (Q : Int32 → gFG → gFF → Prop) : wX7_isLetter N a g f Q = Q (bi (isLe a)) g f := by
  simp only [wX7_isLetter, br1, lt_I, show (97 : Int32).toInt = 97 from rfl, show (122 : Int32).toInt = 122 from rfl, isLe]
  by_cases h1 : a.toInt < 97
  · rw [if_pos h1, decide_eq_false (by omega)]; rfl
  rw [if_neg h1]
  by_cases h2 : 122 < a.toInt
  · rw [if_pos h2, decide_eq_false (by omega)]; rfl
  · rw [if_neg h2, decide_eq_true (by omega)]; rfl
theorem q_isDig (N : Nat) (a : Int32) (g : gFG) (f : gFF) (Q : Int32 → gFG → gFF → Prop) : wX7_isDigit N a g f Q = Q (bi (isDi a)) g f := by
  simp only [wX7_isDigit, br1, lt_I, show (48 : Int32).toInt = 48 from rfl, show (57 : Int32).toInt = 57 from rfl, isDi]
  by_cases h1 : a.toInt < 48
  · rw [if_pos h1, decide_eq_false (by omega)]; rfl
  rw [if_neg h1]
  by_cases h2 : 57 < a.toInt
  · rw [if_pos h2, decide_eq_false (by omega)]; rfl
  · rw [if_neg h2, decide_eq_true (by omega)]; rfl
theorem q_isSmallM (N : Nat) (a : Int32) (g : gFG) (f : gFF) (w : Int64) (Q : Int32 → gFG → gFF → Int64 → Prop) : wX12_isSmall N a g f w Q = Q (bi (isLe a)) g f w := by
  simp only [wX12_isSmall, br1, lt_I, show (97 : Int32).toInt = 97 from rfl, show (122 : Int32).toInt = 122 from rfl, isLe]
  by_cases h1 : a.toInt < 97
  · rw [if_pos h1, decide_eq_false (by omega)]; rfl
  rw [if_neg h1]
  by_cases h2 : 122 < a.toInt
  · rw [if_pos h2, decide_eq_false (by omega)]; rfl
  · rw [if_neg h2, decide_eq_true (by omega)]; rfl
theorem q_isDigM (N : Nat) (a : Int32) (g : gFG) (f : gFF) (w : Int64) (Q : Int32 → gFG → gFF → Int64 → Prop) : wX12_isDigit N a g f w Q = Q (bi (isDi a)) g f w := by
  simp only [wX12_isDigit, br1, lt_I, show (48 : Int32).toInt = 48 from rfl, show (57 : Int32).toInt = 57 from rfl, isDi]
  by_cases h1 : a.toInt < 48
  · rw [if_pos h1, decide_eq_false (by omega)]; rfl
  rw [if_neg h1]
  by_cases h2 : 57 < a.toInt
  · rw [if_pos h2, decide_eq_false (by omega)]; rfl
  · rw [if_neg h2, decide_eq_true (by omega)]; rfl
theorem q_byte {N x t : Nat} {g : gFG} {f : gFF} {Q : Int32 → gFG → gFF → Prop} (ht : t ≤ 300) (hx : x ≤ 1000) (hg : g 18 = nI t) : wX9_byteAt N (nI x) g f Q = Q (if x < t then f 44 x else -1) g f := by
  simp only [wX9_byteAt, br1, lt_I, le_I, hg, nI_I (show x < 2 ^ 31 by omega), nI_I (show t < 2 ^ 31 by omega), z_0, z_300, nI_clamp (show x < 2 ^ 31 by omega)]
  rw [if_neg (by omega)]
  by_cases h : x < t
  · have hin : vp_in (nI x) 300 := vp_in_nI (by omega) (by decide)
    rw [if_neg (by omega), if_neg (by omega), if_pos h]
    simp [hin]
  · rw [if_pos (by omega), if_neg h]
theorem q_adv {N t p s e k : Nat} {g : gFG} {f : gFF} {Q : gFG → gFF → Prop} (hN : 1000 ≤ N) (ht : t ≤ 300) (hT : Tk (f 44) t p s e k) (h18 : g 18 = nI t) (h20 : g 20 = nI p) (h : ∀ g' : gFG, g' 19 = nI s → g' 20 = nI e → (∀ j, j ≠ 19 → j ≠ 20 → g' j = g j) → Q g' f) : wX7_advance N g f Q := by
  obtain ⟨t1, t2, t3, t4, t5, t6⟩ := hT
  unfold wX7_advance
  intro y5 e5 g5 eg5
  refine lpU (β := gFG) (fun n x g1 => wX7_advance_l8 N Q n g1 f) (fun x g1 => g1 19 = nI x ∧ (∀ j, j ≠ 19 → g1 j = g j) ∧ p ≤ x) s ?_ ?_ p N g5 t1 (by omega) ⟨by rw [eg5, e5, h20]; simp [va_up], fun j hj => by rw [eg5]; exact up_n _ _ hj, Nat.le_refl p⟩
  · intro n g1 ⟨i1, i2, i3⟩
    have i18 : g1 18 = nI t := (i2 18 (by decide)).trans h18
    have fin : wX7_advance_j51 N Q g1 f := by
      simp only [wX7_advance_j51, wX9_length, q_min, forall_eq, i1, i18, nI_1, nI_I (show s + 1 < 2 ^ 31 by omega), nI_I (show t < 2 ^ 31 by omega), up_n _ _ (show (19 : Nat) ≠ 20 by decide)]
      rw [q_byte ht (by omega) (show va_up g1 20 _ 18 = nI t from i18), q_isLetter, up_n _ _ (show (19 : Nat) ≠ 20 by decide), i1, q_byte ht (by omega) (show va_up g1 20 _ 18 = nI t from i18), q_isDig]
      have e0 : (if ((s + 1 : Nat) : Int) ≤ (t : Int) then nI (s + 1) else nI t) = nI (if s < t then s + 1 else t) := by
        by_cases c : s < t
        · rw [if_pos (by omega), if_pos c]
        · rw [if_neg (by omega), if_neg c]
      rw [e0]
      have gen : ∀ c : Int32, c = (if s < t then f 44 s else -1) → wX7_advance_l101 N (bi (isLe c)) (bi (isDi c)) Q N (va_up g1 20 (nI (if s < t then s + 1 else t))) f := by
        intro c hc
        refine lpU (β := gFG) (fun n x g2 => wX7_advance_l101 N (bi (isLe c)) (bi (isDi c)) Q n g2 f) (fun x g2 => g2 20 = nI x ∧ g2 19 = nI s ∧ (∀ j, j ≠ 19 → j ≠ 20 → g2 j = g j) ∧ s ≤ x ∧ (s < t → s < x)) e ?_ ?_ (if s < t then s + 1 else t) N _ ?_ ?_ ⟨up_s _ _ _, (up_n _ _ (by decide)).trans i1, fun j hj hk => (up_n _ _ hk).trans (i2 j hj), ?_, ?_⟩
        · intro n g2 ⟨k1, k2, k3, k4, k5⟩
          have k18 : g2 18 = nI t := (k3 18 (by decide) (by decide)).trans h18
          unfold wX7_advance_l101
          simp only [wX9_length, k18, k1, wX7_advance_j136, wX7_advance_j157, nI_leI (show t < 2 ^ 31 by omega) (show e < 2 ^ 31 by omega), br1, br2, bi_0]
          by_cases c1 : t ≤ e
          · rw [if_pos c1]; exact h g2 k2 k1 k3
          · simp only [if_neg c1, fun N f Q => q_byte (N := N) (f := f) (Q := Q) (x := e) ht (by omega) k18, q_isLetter, k1, q_isDig, if_pos (show e < t by omega), bi_0]
            rcases t6 with ⟨-, z1, z2⟩ | ⟨z1, z2, z3⟩
            · omega
            · rw [if_pos z1] at hc
              rcases z3 with ⟨-, z4, z5⟩ | ⟨-, z4, z5⟩ | ⟨-, z4, z5, z6⟩
              · have y1 := z4 s (Nat.le_refl s) z2
                have y2 : isDi c = false := by
                  rw [hc]
                  have := of_decide_eq_true y1
                  exact decide_eq_false (by omega)
                rw [← hc] at y1
                rw [y1, y2, z5 (by omega)]
                simp only [if_true, if_false, Bool.true_eq_false]
                exact h g2 k2 k1 k3
              · have y1 := z4 s (Nat.le_refl s) z2
                have y2 : isLe c = false := by
                  rw [hc]
                  have := of_decide_eq_true y1
                  exact decide_eq_false (by omega)
                rw [← hc] at y1
                rw [y1, y2, z5 (by omega)]
                simp only [if_true, if_false, Bool.true_eq_false]
                exact h g2 k2 k1 k3
              · rw [hc, z5, z6]
                simp only [if_true]
                exact h g2 k2 k1 k3
        · intro n x g2 hx ⟨k1, k2, k3, k4, k5⟩ ih
          have k18 : g2 18 = nI t := (k3 18 (by decide) (by decide)).trans h18
          have nxt : wX7_advance_j157 N (wX7_advance_l101 N (bi (isLe c)) (bi (isDi c)) Q n) Q (bi (isLe c)) (bi (isDi c)) g2 f := by
            unfold wX7_advance_j157
            intro y ey g3 eg3
            refine ih g3 ⟨by rw [eg3, up_s, ey, k1, nI_1], by rw [eg3, up_n _ _ (by decide)]; exact k2, fun j hj hk => by rw [eg3, up_n _ _ hk]; exact k3 j hj hk, by omega, fun _ => by omega⟩
          unfold wX7_advance_l101
          simp only [wX9_length, k18, k1, wX7_advance_j136, nI_leI (show t < 2 ^ 31 by omega) (show x < 2 ^ 31 by omega), br1, br2, bi_0]
          simp only [if_neg (show ¬ t ≤ x by omega), fun N f Q => q_byte (N := N) (f := f) (Q := Q) (x := x) ht (by omega) k18, q_isLetter, k1, q_isDig, if_pos (show x < t by omega), bi_0]
          rcases t6 with ⟨-, z1, z2⟩ | ⟨z1, z2, z3⟩
          · omega
          · rw [if_pos z1] at hc
            rcases z3 with ⟨-, z4, z5⟩ | ⟨-, z4, z5⟩ | ⟨-, z4, z5, z6⟩
            · have y1 := z4 s (Nat.le_refl s) z2
              rw [← hc] at y1
              rw [if_neg (by rw [y1]; decide), if_neg (by rw [z4 x k4 hx]; decide)]
              exact nxt
            · have y1 := z4 s (Nat.le_refl s) z2
              have y2 : isLe c = false := by
                rw [hc]
                have := of_decide_eq_true y1
                exact decide_eq_false (by omega)
              rw [← hc] at y1
              rw [if_pos y2, if_neg (by rw [y1]; decide), if_neg (by rw [z4 x k4 hx]; decide)]
              exact nxt
            · have := k5 z1
              omega
        · rcases t6 with ⟨-, z1, z2⟩ | ⟨z1, z2, z3⟩
          · rw [if_neg (by omega)]; omega
          · rw [if_pos z1]; omega
        · split <;> omega
        · split <;> omega
        · intro c1; rw [if_pos c1]; omega
      exact gen _ rfl
    unfold wX7_advance_l8
    simp only [wX9_length, i18, i1, nI_leI (show t < 2 ^ 31 by omega) (show s < 2 ^ 31 by omega), br1, br2]
    by_cases c1 : t ≤ s
    · rw [if_pos c1]; exact fin
    · rw [if_neg c1, q_byte ht (by omega) i18, if_pos (show s < t by omega), if_neg (t5 (by omega))]
      exact fin
  · intro n x g1 hx ⟨i1, i2, i3⟩ ih
    have i18 : g1 18 = nI t := (i2 18 (by decide)).trans h18
    unfold wX7_advance_l8
    simp only [wX9_length, i18, i1, nI_leI (show t < 2 ^ 31 by omega) (show x < 2 ^ 31 by omega), br1, br2]
    rw [if_neg (by omega), q_byte ht (by omega) i18, if_pos (show x < t by omega), if_pos (t4 x i3 hx), i1]
    intro y ey g3 eg3
    exact ih g3 ⟨by rw [eg3, up_s, ey, nI_1], fun j hj => by rw [eg3, up_n _ _ hj]; exact i2 j hj, by omega⟩
