/-! the model's tokens -/
theorem cmp_le (x y : Int64) : (lg_cmp x y ≤ 0) = (x.toInt ≤ y.toInt) := by
  have h := cmp_gt x y
  apply propext
  rw [← Int32.not_lt, h]
  omega
theorem cmp_eq (x y : Int64) : (lg_cmp x y = 0) = (x.toInt = y.toInt) := by
  unfold lg_cmp
  apply propext
  by_cases h1 : y < x
  · have h2 := Int64.lt_iff_toInt_lt.mp h1
    rw [if_pos h1]
    constructor
    · intro h; exact absurd h (by decide)
    · intro h; omega
  · rw [if_neg h1]
    by_cases h3 : x = y
    · rw [if_pos h3]; subst h3; exact ⟨fun _ => rfl, fun _ => rfl⟩
    · rw [if_neg h3]
      constructor
      · intro h; exact absurd h (by decide)
      · intro h; exact absurd (Int64.toInt_inj.mp h) h3
def wl (b : Nat → Int32) (s : Nat) : Nat → Int64
  | 0 => 0
  | j + 1 => if j < 8 then wl b s j * 32 + (b (s + j)).toInt64 - 96 else -1
def wd (b : Nat → Int32) (s : Nat) : Nat → Int64
  | 0 => 0
  | j + 1 => if (wd b s j).toInt ≤ 1000 then wd b s j * 10 + (b (s + j)).toInt64 - 48 else wd b s j
def wor (b : Nat → Int32) (s e k : Nat) : Int64 := if k = 3 then (b s).toInt64 else if k = 1 then wl b s (e - s) else if k = 2 then wd b s (e - s) else 0
theorem q_n243a {N n : Nat} {g : gFG} {f : gFF} {w : Int64} {Q : gFG → gFF → Int64 → Prop} (h34 : ¬ g 34 = 2) (h : Q g f w) : wX12_next_l243 N Q (n + 1) g f w := by
  unfold wX12_next_l243
  exact ⟨fun _ => h, fun c => absurd c h34⟩
theorem q_n149a {N n : Nat} {g : gFG} {f : gFF} {w : Int64} {Q : gFG → gFF → Int64 → Prop} (h34 : ¬ g 34 = 1) (h : wX12_next_l243 N Q N g f w) : wX12_next_l149 N Q (n + 1) g f w := by
  unfold wX12_next_l149
  exact ⟨fun _ => h, fun c => absurd c h34⟩
theorem q_n243b {N t s e : Nat} {b : Nat → Int32} {g : gFG} {f : gFF} {Q : gFG → gFF → Int64 → Prop} (hN : 1000 ≤ N) (ht : t ≤ 300) (hb : ∀ i, i < t → f 20 i = b i) (hse : s ≤ e) (het : e ≤ t) (h1 : ∀ i, s ≤ i → i < e → isDi (b i) = true) (h2 : e < t → isDi (b e) = false) (g34 : g 34 = 2) (g31 : g 31 = nI t) (g33 : g 33 = nI s) (h : ∀ g' : gFG, g' 33 = nI e → (∀ j, j ≠ 33 → g' j = g j) → Q g' f (wd b s (e - s))) : wX12_next_l243 N Q N g f 0 := by
  refine lpU (β := gFG) (fun n x g1 => wX12_next_l243 N Q n g1 f (wd b s (x - s))) (fun x g1 => g1 33 = nI x ∧ (∀ j, j ≠ 33 → g1 j = g j) ∧ s ≤ x) e ?_ ?_ s N g hse (by omega) ⟨g33, fun _ _ => rfl, Nat.le_refl s⟩ |> fun hh => by simpa [wd] using hh
  · intro n g1 ⟨i1, i2, i3⟩
    unfold wX12_next_l243
    have j31 : g1 31 = nI t := (i2 31 (by decide)).trans g31
    have j34 : g1 34 = 2 := (i2 34 (by decide)).trans g34
    simp only [j31, j34, i1, nI_leI (show t < 2 ^ 31 by omega) (show e < 2 ^ 31 by omega), br1, br2, forall_eq, q_isDigM, bi_0, if_true]
    by_cases c1 : t ≤ e
    · rw [if_pos c1]; exact h g1 i1 i2
    · rw [if_neg c1, nI_clamp (by omega), hb e (by omega), h2 (by omega)]
      exact ⟨vp_in_nI (by omega) (by decide), by simp only [if_true]; exact h g1 i1 i2⟩
  · intro n x g1 hx ⟨i1, i2, i3⟩ ih
    unfold wX12_next_l243
    have j31 : g1 31 = nI t := (i2 31 (by decide)).trans g31
    have j34 : g1 34 = 2 := (i2 34 (by decide)).trans g34
    have hin : vp_in (nI x) 300 := vp_in_nI (by omega) (by decide)
    have e1 : x + 1 - s = (x - s) + 1 := by omega
    have e2 : s + (x - s) = x := by omega
    have st : ∀ g3 : gFG, g3 = va_up g1 33 (nI (x + 1)) → wX12_next_l243 N Q n g3 f (wd b s (x + 1 - s)) := fun g3 eg3 => ih g3 ⟨by rw [eg3, up_s], fun j hj => by rw [eg3, up_n _ _ hj]; exact i2 j hj, by omega⟩
    simp only [j31, j34, i1, nI_leI (show t < 2 ^ 31 by omega) (show x < 2 ^ 31 by omega), br1, br2, forall_eq, q_isDigM, bi_0, if_true, nI_clamp (show x < 2 ^ 31 by omega), hb x (by omega), h1 x i3 hx, hin, true_and, Bool.true_eq_false, if_false, cmp_le, show (1000 : Int64).toInt = 1000 from rfl, wX12_next_j319, nI_1]
    rw [if_neg (by omega)]
    have st' := st _ rfl
    rw [e1, wd, e2] at st'
    by_cases c2 : (wd b s (x - s)).toInt ≤ 1000
    · rw [if_pos c2] at st' ⊢; exact st'
    · rw [if_neg c2] at st' ⊢; exact st'
theorem q_n149b {N t s e : Nat} {b : Nat → Int32} {g : gFG} {f : gFF} {Q : gFG → gFF → Int64 → Prop} (hN : 1000 ≤ N) (ht : t ≤ 300) (hb : ∀ i, i < t → f 20 i = b i) (hse : s ≤ e) (het : e ≤ t) (h1 : ∀ i, s ≤ i → i < e → isLe (b i) = true) (h2 : e < t → isLe (b e) = false) (g34 : g 34 = 1) (g31 : g 31 = nI t) (g32 : g 32 = nI s) (g33 : g 33 = nI s) (h : ∀ g' : gFG, g' 33 = nI e → (∀ j, j ≠ 33 → g' j = g j) → Q g' f (wl b s (e - s))) : wX12_next_l149 N Q N g f 0 := by
  obtain ⟨N', hN'⟩ : ∃ k, N = k + 1 := ⟨N - 1, by omega⟩
  refine lpU (β := gFG) (fun n x g1 => wX12_next_l149 N Q n g1 f (wl b s (x - s))) (fun x g1 => g1 33 = nI x ∧ (∀ j, j ≠ 33 → g1 j = g j) ∧ s ≤ x) e ?_ ?_ s N g hse (by omega) ⟨g33, fun _ _ => rfl, Nat.le_refl s⟩ |> fun hh => by simpa [wl] using hh
  · intro n g1 ⟨i1, i2, i3⟩
    unfold wX12_next_l149
    have j31 : g1 31 = nI t := (i2 31 (by decide)).trans g31
    have j34 : g1 34 = 1 := (i2 34 (by decide)).trans g34
    have fin : wX12_next_l243 N Q N g1 f (wl b s (e - s)) := by
      have := q_n243a (N := N) (n := N') (g := g1) (f := f) (w := wl b s (e - s)) (Q := Q) (by rw [j34]; decide) (h g1 i1 i2)
      rw [← hN'] at this
      exact this
    simp only [j31, j34, i1, nI_leI (show t < 2 ^ 31 by omega) (show e < 2 ^ 31 by omega), br1, br2, forall_eq, q_isSmallM, bi_0, if_true]
    by_cases c1 : t ≤ e
    · rw [if_pos c1]; exact fin
    · rw [if_neg c1, nI_clamp (by omega), hb e (by omega), h2 (by omega)]
      exact ⟨vp_in_nI (by omega) (by decide), by simp only [if_true]; exact fin⟩
  · intro n x g1 hx ⟨i1, i2, i3⟩ ih
    unfold wX12_next_l149
    have j31 : g1 31 = nI t := (i2 31 (by decide)).trans g31
    have j32 : g1 32 = nI s := (i2 32 (by decide)).trans g32
    have j34 : g1 34 = 1 := (i2 34 (by decide)).trans g34
    have hin : vp_in (nI x) 300 := vp_in_nI (by omega) (by decide)
    have e1 : x + 1 - s = (x - s) + 1 := by omega
    have e2 : s + (x - s) = x := by omega
    have st : ∀ g3 : gFG, g3 = va_up g1 33 (nI (x + 1)) → wX12_next_l149 N Q n g3 f (wl b s (x + 1 - s)) := fun g3 eg3 => ih g3 ⟨by rw [eg3, up_s], fun j hj => by rw [eg3, up_n _ _ hj]; exact i2 j hj, by omega⟩
    have e8 : (8 ≤ nI x - nI s) = (8 ≤ x - s) := by
      rw [le_I, sub_I (by rw [nI_I (by omega), nI_I (by omega)]; omega) (by rw [nI_I (by omega), nI_I (by omega)]; omega), nI_I (by omega), nI_I (by omega), z_8]
      apply propext
      omega
    simp only [j31, j34, j32, i1, nI_leI (show t < 2 ^ 31 by omega) (show x < 2 ^ 31 by omega), br1, br2, forall_eq, q_isSmallM, bi_0, if_true, nI_clamp (show x < 2 ^ 31 by omega), hb x (by omega), h1 x i3 hx, hin, true_and, Bool.true_eq_false, if_false, e8, wX12_next_j227, nI_1]
    rw [if_neg (by omega)]
    have st' := st _ rfl
    rw [e1, wl, e2] at st'
    by_cases c2 : 8 ≤ x - s
    · rw [if_neg (by omega)] at st'; rw [if_pos c2]; exact st'
    · rw [if_pos (by omega)] at st'; rw [if_neg c2]; exact st'
theorem q_next {N t p s e k : Nat} {b : Nat → Int32} {g : gFG} {f : gFF} {w : Int64} {Q : gFG → gFF → Int64 → Prop} (hN : 1000 ≤ N) (ht : t ≤ 300) (hb : ∀ i, i < t → f 20 i = b i) (hT : Tk b t p s e k) (g31 : g 31 = nI t) (g33 : g 33 = nI p) (h : ∀ g' : gFG, g' 32 = nI s → g' 33 = nI e → g' 34 = nI k → (∀ j, j ≠ 32 → j ≠ 33 → j ≠ 34 → g' j = g j) → Q g' f (wor b s e k)) : wX12_next N g f w Q := by
  obtain ⟨t1, t2, t3, t4, t5, t6⟩ := hT
  obtain ⟨N', hN'⟩ : ∃ k, N = k + 1 := ⟨N - 1, by omega⟩
  unfold wX12_next
  intro y5 e5 g5 eg5
  refine lpU (β := gFG) (fun n x g1 => wX12_next_l8 N Q n g1 f w) (fun x g1 => g1 32 = nI x ∧ (∀ j, j ≠ 32 → g1 j = g j) ∧ p ≤ x) s ?_ ?_ p N g5 t1 (by omega) ⟨by rw [eg5, e5, g33]; simp [va_up], fun j hj => by rw [eg5]; exact up_n _ _ hj, Nat.le_refl p⟩
  · intro n g1 ⟨i1, i2, i3⟩
    have j31 : g1 31 = nI t := (i2 31 (by decide)).trans g31
    have fin : wX12_next_j46 N Q g1 f w := by
      unfold wX12_next_j46
      intro y51 e51 g51 eg51
      rw [i1] at e51
      have k32 : g51 32 = nI s := by rw [eg51, up_n _ _ (by decide)]; exact i1
      have k31 : g51 31 = nI t := by rw [eg51, up_n _ _ (by decide)]; exact j31
      have k33 : g51 33 = nI s := by rw [eg51, up_s, e51]
      have kf : ∀ j, j ≠ 32 → j ≠ 33 → g51 j = g j := fun j h1 h2 => by rw [eg51, up_n _ _ h2]; exact i2 j h1
      simp only [k32, k31, br1, br2, forall_eq, nI_eq (show s < 2 ^ 31 by omega) (show t < 2 ^ 31 by omega), q_isSmallM, q_isDigM, bi_0, nI_clamp (show s < 2 ^ 31 by omega), wX12_next_j114, up_s]
      rcases t6 with ⟨z0, z1, z2⟩ | ⟨z1, z2, z3⟩
      · rw [if_pos z1, if_neg (by decide)]
        rw [hN']
        refine q_n149a (by rw [up_s]; decide) ?_
        refine q_n243a (by rw [up_s]; decide) ?_
        have hz : wor b s e k = 0 := by unfold wor; rw [z0]; rfl
        rw [← hz]
        exact h _ (by rw [up_n _ _ (by decide)]; exact k32) (by rw [up_n _ _ (by decide), k33, z1, z2]) (by rw [up_s, z0]; rfl) (fun j a1 a2 a3 => by rw [up_n _ _ a3]; exact kf j a1 a2)
      · rw [if_neg (by omega), hb s z1]
        refine ⟨vp_in_nI (by omega) (by decide), ?_⟩
        rcases z3 with ⟨z0, z4, z5⟩ | ⟨z0, z4, z5⟩ | ⟨z0, z4, z5, z6⟩
        · rw [z4 s (Nat.le_refl s) z2, if_neg (by decide), if_neg (by decide)]
          refine q_n149b hN ht hb (by omega) t3 z4 z5 (up_s _ _ _) (by rw [up_n _ _ (by decide)]; exact k31) (by rw [up_n _ _ (by decide)]; exact k32) (by rw [up_n _ _ (by decide)]; exact k33) (fun g' a1 a2 => ?_)
          have hz : wor b s e k = wl b s (e - s) := by unfold wor; rw [z0]; rfl
          rw [← hz]
          exact h g' (by rw [a2 _ (by decide), up_n _ _ (by decide)]; exact k32) a1 (by rw [a2 _ (by decide), up_s, z0]; rfl) (fun j b1 b2 b3 => by rw [a2 _ b2, up_n _ _ b3]; exact kf j b1 b2)
        · have y1 := of_decide_eq_true (z4 s (Nat.le_refl s) z2)
          have y2 : isLe (b s) = false := decide_eq_false (by omega)
          rw [y2, if_pos rfl]
          refine ⟨vp_in_nI (by omega) (by decide), ?_⟩
          rw [z4 s (Nat.le_refl s) z2, if_neg (by decide), if_neg (by decide)]
          rw [hN']
          refine q_n149a (by rw [up_s]; decide) ?_
          rw [← hN']
          refine q_n243b hN ht hb (by omega) t3 z4 z5 (up_s _ _ _) (by rw [up_n _ _ (by decide)]; exact k31) (by rw [up_n _ _ (by decide)]; exact k33) (fun g' a1 a2 => ?_)
          have hz : wor b s e k = wd b s (e - s) := by unfold wor; rw [z0]; rfl
          rw [← hz]
          exact h g' (by rw [a2 _ (by decide), up_n _ _ (by decide)]; exact k32) a1 (by rw [a2 _ (by decide), up_s, z0]; rfl) (fun j b1 b2 b3 => by rw [a2 _ b2, up_n _ _ b3]; exact kf j b1 b2)
        · rw [z5, if_pos rfl]
          refine ⟨vp_in_nI (by omega) (by decide), ?_⟩
          rw [z6, if_pos rfl, if_pos trivial]
          simp only [up_n _ _ (show (32 : Nat) ≠ 34 by decide), up_n _ _ (show (33 : Nat) ≠ 34 by decide), k32, k33, nI_1, nI_clamp (show s < 2 ^ 31 by omega), hb s z1]
          refine ⟨vp_in_nI (by omega) (by decide), ?_⟩
          rw [hN']
          refine q_n149a (by rw [up_n _ _ (by decide), up_s]; decide) ?_
          refine q_n243a (by rw [up_n _ _ (by decide), up_s]; decide) ?_
          have hz : wor b s e k = (b s).toInt64 := by unfold wor; rw [z0]; rfl
          rw [← hz]
          exact h _ (by rw [up_n _ _ (by decide), up_n _ _ (by decide)]; exact k32) (by rw [up_s, z4]) (by rw [up_n _ _ (by decide), up_s, z0]; rfl) (fun j a1 a2 a3 => by rw [up_n _ _ a2, up_n _ _ a3]; exact kf j a1 a2)
    unfold wX12_next_l8
    simp only [j31, i1, nI_leI (show t < 2 ^ 31 by omega) (show s < 2 ^ 31 by omega), br1, br2, forall_eq, nI_clamp (show s < 2 ^ 31 by omega)]
    by_cases c1 : t ≤ s
    · rw [if_pos c1]; exact fin
    · rw [if_neg c1, hb s (by omega), if_neg (t5 (by omega))]
      exact ⟨vp_in_nI (by omega) (by decide), fin⟩
  · intro n x g1 hx ⟨i1, i2, i3⟩ ih
    have j31 : g1 31 = nI t := (i2 31 (by decide)).trans g31
    unfold wX12_next_l8
    simp only [j31, i1, nI_leI (show t < 2 ^ 31 by omega) (show x < 2 ^ 31 by omega), br1, br2, forall_eq, nI_clamp (show x < 2 ^ 31 by omega)]
    rw [if_neg (by omega), hb x (by omega), if_pos (t4 x i3 hx)]
    refine ⟨vp_in_nI (by omega) (by decide), ?_⟩
    exact ih _ ⟨by rw [up_s, nI_1], fun j hj => by rw [up_n _ _ hj]; exact i2 j hj, by omega⟩
