/-! mixes: sums, what the lots behind add at least -/
def su (h : Nat → Nat) : Nat → Nat
  | 0 => 0
  | x + 1 => su h x + h x
theorem su_c {h h' : Nat → Nat} {x : Nat} (e : ∀ i, i < x → h i = h' i) : su h x = su h' x := by
  induction x with
  | zero => rfl
  | succ x ih => rw [su, su, ih (fun i hi => e i (by omega)), e x (by omega)]
theorem su_mono (h : Nat → Nat) {x y : Nat} (hxy : x ≤ y) : su h x ≤ su h y := by
  induction y with
  | zero => have : x = 0 := by omega
            subst this; exact Nat.le_refl _
  | succ y ih =>
    by_cases e : x = y + 1
    · subst e; exact Nat.le_refl _
    · rw [su]; have := ih (by omega); omega
theorem su_tail {r U : Nat → Nat} {l K : Nat} (hl : l ≤ K) (h : ∀ i, i < K → r i ≤ U i) : su r K + su U l ≤ su U K + su r l := by
  induction K with
  | zero => have : l = 0 := by omega
            subst this; exact Nat.le_refl _
  | succ K ih =>
    by_cases e : l = K + 1
    · subst e; omega
    · have := ih (by omega) (fun i hi => h i (by omega))
      have := h K (by omega)
      rw [su, su]; omega
abbrev sw (w r : Nat → Nat) (x : Nat) : Nat := su (fun i => r i * w i) x
theorem sw_le {w r : Nat → Nat} {x : Nat} (h : ∀ i, i < x → w i ≤ 1000) : sw w r x ≤ 1000 * su r x := by
  induction x with
  | zero => exact Nat.le_refl _
  | succ x ih =>
    have h1 := ih (fun i hi => h i (by omega))
    have h2 := Nat.mul_le_mul_left (r x) (h x (by omega))
    show su (fun i => r i * w i) x + r x * w x ≤ 1000 * (su r x + r x)
    have h3 : sw w r x = su (fun i => r i * w i) x := rfl
    omega
theorem tele_up {v : Nat → Int} {w : Int} {j : Nat} : ∀ k : Nat, (∀ t, j ≤ t → t < j + k → w ≤ v (t + 1) - v t) → v j + k * w ≤ v (j + k) := by
  intro k
  induction k with
  | zero => intro _; simp
  | succ k ih =>
    intro h
    have h1 := ih (fun t a b => h t a (by omega))
    have h2 := h (j + k) (by omega) (by omega)
    have h3 : ((k + 1 : Nat) : Int) * w = k * w + w := by rw [Int.natCast_add, Int.add_mul]; simp
    rw [h3, show j + (k + 1) = j + k + 1 by omega]
    omega
theorem tele_dn {v : Nat → Int} {w : Int} {j : Nat} : ∀ k : Nat, (∀ t, j ≤ t → t < j + k → v (t + 1) - v t ≤ w) → v (j + k) ≤ v j + k * w := by
  intro k
  induction k with
  | zero => intro _; simp
  | succ k ih =>
    intro h
    have h1 := ih (fun t a b => h t a (by omega))
    have h2 := h (j + k) (by omega) (by omega)
    have h3 : ((k + 1 : Nat) : Int) * w = k * w + w := by rw [Int.natCast_add, Int.add_mul]; simp
    rw [h3, show j + (k + 1) = j + k + 1 by omega]
    omega
/-- one lot set before those behind it: o units of its own among the first rest -/
def FS (n u B : Nat) (w : Int) (v vh : Nat → Int) (rest o : Nat) : Prop := (o ≤ rest ∧ o ≤ u ∧ rest - o ≤ B ∧ rest ≤ n) ∧ vh 0 = 0 ∧ vh rest = o * w + v (rest - o) ∧ (∀ r, r ≤ rest → ∀ o' j' : Nat, o' + j' = r → o' ≤ u → j' ≤ B → vh r ≤ o' * w + v j') ∧ (∀ r, r ≤ rest → 0 ≤ vh r ∧ vh r ≤ 1000 * r) ∧ (∀ r, r + 2 ≤ rest → vh (r + 1) - vh r ≤ vh (r + 2) - vh (r + 1)) ∧ (0 < o → ∀ t, rest - o ≤ t → t + 1 ≤ n → t + 1 ≤ B → w ≤ v (t + 1) - v t) ∧ (o < u → ∀ t, t < rest - o → v (t + 1) - v t ≤ w) ∧ (∀ r, r + 1 = rest → (o < u → vh rest - vh r ≤ w) ∧ (rest - o + 1 ≤ n → rest - o + 1 ≤ B → vh rest - vh r ≤ v (rest - o + 1) - v (rest - o)))
theorem FS_lb {n u B rest o : Nat} {w : Int} {v : Nat → Int} (h1 : o ≤ rest) (h2 : rest ≤ n) (hup : 0 < o → ∀ t, rest - o ≤ t → t + 1 ≤ n → t + 1 ≤ B → w ≤ v (t + 1) - v t) (hdn : o < u → ∀ t, t < rest - o → v (t + 1) - v t ≤ w) (o' j' : Nat) (e : o' + j' = rest) (ho : o' ≤ u) (hj : j' ≤ B) : (o : Int) * w + v (rest - o) ≤ o' * w + v j' := by
  rcases Nat.lt_trichotomy o' o with h | h | h
  · have ht := tele_up (v := v) (w := w) (j := rest - o) (o - o') (fun t a b => hup (by omega) t a (by omega) (by omega))
    rw [show rest - o + (o - o') = j' by omega] at ht
    have e2 : (o : Int) * w = o' * w + ((o - o' : Nat) : Int) * w := by rw [← Int.add_mul]; congr 1; omega
    omega
  · subst h
    rw [show rest - o' = j' by omega]; exact Int.le_refl _
  · have ht := tele_dn (v := v) (w := w) (j := j') (o' - o) (fun t a b => hdn (by omega) t (by omega))
    rw [show j' + (o' - o) = rest - o by omega] at ht
    have e2 : (o' : Int) * w = o * w + ((o' - o : Nat) : Int) * w := by rw [← Int.add_mul]; congr 1; omega
    omega
theorem FS_0 {n u B : Nat} {w : Int} {v vh : Nat → Int} (hv : v 0 = 0) (h0 : vh 0 = 0) : FS n u B w v vh 0 0 := by
  refine ⟨⟨by omega, by omega, by omega, by omega⟩, h0, by rw [h0]; simp [hv], fun r hr o' j' e _ _ => ?_, fun r hr => ?_, fun r hr => by omega, fun c => by omega, fun _ t ht => by omega, fun r hr => by omega⟩
  · have e1 : r = 0 := by omega
    have e2 : o' = 0 := by omega
    have e3 : j' = 0 := by omega
    subst e1; subst e2; subst e3
    rw [h0, hv]; simp
  · have e1 : r = 0 := by omega
    subst e1
    rw [h0]; simp
theorem FS_own {n u B rest o : Nat} {w : Int} {v vh vh' : Nat → Int} (h : FS n u B w v vh rest o) (hw : 0 ≤ w ∧ w ≤ 1000) (hvb : ∀ t, t ≤ n → t ≤ B → 0 ≤ v t ∧ v t ≤ 1000 * t) (hcv : ∀ t, t + 2 ≤ n → t + 2 ≤ B → v (t + 1) - v t ≤ v (t + 2) - v (t + 1)) (hr : rest < n) (ho : o < u) (hD : B ≤ rest - o ∨ w ≤ v (rest - o + 1) - v (rest - o)) (e1 : ∀ r, r ≤ rest → vh' r = vh r) (e2 : vh' (rest + 1) = vh rest + w) : FS n u B w v vh' (rest + 1) (o + 1) := by
  obtain ⟨⟨a1, a2, a3, a4⟩, b, c, d, f, g, p, q, s⟩ := h
  have hup : ∀ t, rest - o ≤ t → t + 1 ≤ n → t + 1 ≤ B → w ≤ v (t + 1) - v t := by
    intro t
    induction t with
    | zero =>
      intro t1 t2 t3
      rcases hD with hD | hD
      · omega
      · rw [show rest - o = 0 by omega] at hD; exact hD
    | succ t ih =>
      intro t1 t2 t3
      by_cases e : rest - o = t + 1
      · rcases hD with hD | hD
        · omega
        · rw [e] at hD; exact hD
      · have h1 := ih (by omega) (by omega) (by omega)
        have h2 : v (t + 1) - v t ≤ v (t + 1 + 1) - v (t + 1) := hcv t (by omega) (by omega)
        omega
  have ej : rest + 1 - (o + 1) = rest - o := by omega
  have ew : ((o + 1 : Nat) : Int) * w = o * w + w := by rw [Int.natCast_add, Int.add_mul]; simp
  have ec : vh' (rest + 1) = ((o + 1 : Nat) : Int) * w + v (rest + 1 - (o + 1)) := by rw [e2, c, ej, ew]; omega
  refine ⟨⟨by omega, by omega, by omega, by omega⟩, by rw [e1 0 (by omega)]; exact b, ec, fun r hr' o' j' e h1 h2 => ?_, fun r hr' => ?_, fun r hr' => ?_, fun _ t t1 t2 t3 => hup t (by omega) t2 t3, fun h1 t ht => q (by omega) t (by omega), fun r hr' => ?_⟩
  · by_cases er : r = rest + 1
    · subst er
      rw [ec]
      exact FS_lb (n := n) (u := u) (B := B) (by omega) (by omega) (fun _ t t1 t2 t3 => hup t (by omega) t2 t3) (fun h1 t ht => q (by omega) t (by omega)) o' j' e h1 h2
    · rw [e1 r (by omega)]; exact d r (by omega) o' j' e h1 h2
  · by_cases er : r = rest + 1
    · subst er
      have := f rest (Nat.le_refl _)
      rw [e2]; omega
    · rw [e1 r (by omega)]; exact f r (by omega)
  · by_cases er : r + 2 = rest + 1
    · rw [er, e1 (r + 1) (by omega), e1 r (by omega), e2]
      have h1 := (s r (by omega)).1 ho
      rw [show r + 1 = rest by omega]
      omega
    · rw [e1 (r + 2) (by omega), e1 (r + 1) (by omega), e1 r (by omega)]; exact g r (by omega)
  · have er : r = rest := by omega
    subst er
    rw [e2, e1 r (Nat.le_refl _), ej]
    refine ⟨fun _ => by omega, fun h1 h2 => ?_⟩
    have := hup (r - o) (by omega) h1 h2
    omega
theorem FS_beh {n u B rest o : Nat} {w : Int} {v vh vh' : Nat → Int} (h : FS n u B w v vh rest o) (hw : 0 ≤ w ∧ w ≤ 1000) (hvb : ∀ t, t ≤ n → t ≤ B → 0 ≤ v t ∧ v t ≤ 1000 * t) (hcv : ∀ t, t + 2 ≤ n → t + 2 ≤ B → v (t + 1) - v t ≤ v (t + 2) - v (t + 1)) (hr : rest < n) (hB : rest - o < B) (hD : u ≤ o ∨ v (rest - o + 1) - v (rest - o) < w) (e1 : ∀ r, r ≤ rest → vh' r = vh r) (e2 : vh' (rest + 1) = vh rest + v (rest - o + 1) - v (rest - o)) : FS n u B w v vh' (rest + 1) o := by
  obtain ⟨⟨a1, a2, a3, a4⟩, b, c, d, f, g, p, q, s⟩ := h
  have ej : rest + 1 - o = rest - o + 1 := by omega
  have ec : vh' (rest + 1) = (o : Int) * w + v (rest + 1 - o) := by rw [e2, c, ej]; omega
  have hdn : o < u → ∀ t, t < rest + 1 - o → v (t + 1) - v t ≤ w := by
    intro h1 t ht
    by_cases e : t = rest - o
    · rcases hD with hD | hD
      · omega
      · rw [e]; omega
    · exact q h1 t (by omega)
  have hbd : (o : Int) * w ≤ 1000 * o ∧ 0 ≤ (o : Int) * w := by
    constructor
    · have := Int.mul_le_mul_of_nonneg_left hw.2 (show (0 : Int) ≤ o by omega)
      omega
    · exact Int.mul_nonneg (by omega) hw.1
  refine ⟨⟨by omega, by omega, by omega, by omega⟩, by rw [e1 0 (by omega)]; exact b, ec, fun r hr' o' j' e h1 h2 => ?_, fun r hr' => ?_, fun r hr' => ?_, fun h1 t t1 t2 t3 => p h1 t (by omega) t2 t3, hdn, fun r hr' => ?_⟩
  · by_cases er : r = rest + 1
    · subst er
      rw [ec]
      exact FS_lb (n := n) (u := u) (B := B) (by omega) (by omega) (fun h1 t t1 t2 t3 => p h1 t (by omega) t2 t3) hdn o' j' e h1 h2
    · rw [e1 r (by omega)]; exact d r (by omega) o' j' e h1 h2
  · by_cases er : r = rest + 1
    · subst er
      have := hvb (rest + 1 - o) (by omega) (by omega)
      rw [ec]; omega
    · rw [e1 r (by omega)]; exact f r (by omega)
  · by_cases er : r + 2 = rest + 1
    · rw [er, e1 (r + 1) (by omega), e1 r (by omega), e2]
      have h1 := (s r (by omega)).2 (by omega) (by omega)
      rw [show r + 1 = rest by omega]
      omega
    · rw [e1 (r + 2) (by omega), e1 (r + 1) (by omega), e1 r (by omega)]; exact g r (by omega)
  · have er : r = rest := by omega
    subst er
    rw [e2, e1 r (Nat.le_refl _), ej]
    refine ⟨fun h1 => ?_, fun h1 h2 => ?_⟩
    · rcases hD with hD | hD
      · omega
      · omega
    · have : v (r - o + 1) - v (r - o) ≤ v (r - o + 1 + 1) - v (r - o + 1) := hcv (r - o) (by omega) (by omega)
      omega
/-- the least that the lots from one on add -/
def LV (n : Nat) (U w : Nat → Nat) (K lot : Nat) (v : Nat → Int) : Prop := v 0 = 0 ∧ (∀ r, r ≤ n → r + su U lot ≤ su U K → 0 ≤ v r ∧ v r ≤ 1000 * r) ∧ (∀ r, r + 2 ≤ n → r + 2 + su U lot ≤ su U K → v (r + 1) - v r ≤ v (r + 2) - v (r + 1)) ∧ ∀ rw : Nat → Nat, (∀ i, i < K → rw i ≤ U i) → ∀ rest, rest ≤ n → su rw K = su rw lot + rest → v rest + (sw w rw lot : Int) ≤ sw w rw K
theorem LV_K {n K : Nat} {U w : Nat → Nat} : LV n U w K K (fun _ => 0) := by
  refine ⟨rfl, fun r _ h => ?_, fun r _ h => by omega, fun rw _ rest _ h => by simp⟩
  have : r = 0 := by omega
  subst this; simp
theorem LV_of {n K lot rest o : Nat} {U w : Nat → Nat} {v vh : Nat → Int} (hl : lot < K) (hv : LV n U w K (lot + 1) v) (h : FS n (U lot) (su U K - su U (lot + 1)) (w lot : Int) v vh rest o) (hr : rest = n ∨ rest + su U lot = su U K) : LV n U w K lot vh := by
  obtain ⟨⟨a1, a2, a3, a4⟩, b, c, d, f, g, -⟩ := h
  have hm := su_mono U (show lot + 1 ≤ K by omega)
  have hs : su U (lot + 1) = su U lot + U lot := rfl
  have hle : ∀ r, r ≤ n → r + su U lot ≤ su U K → r ≤ rest := by
    intro r h1 h2
    rcases hr with hr | hr <;> omega
  refine ⟨b, fun r h1 h2 => f r (hle r h1 h2), fun r h1 h2 => g r (by have := hle (r + 2) h1 h2; omega), fun rw hrw rs hrs e => ?_⟩
  have e1 : su rw (lot + 1) = su rw lot + rw lot := rfl
  have h1 := su_mono rw (show lot + 1 ≤ K by omega)
  have h2 := su_tail (show lot + 1 ≤ K by omega) hrw
  have h3 := su_tail (show lot ≤ K by omega) hrw
  have h4 := hrw lot hl
  have h5 := d rs (hle rs hrs (by omega)) (rw lot) (rs - rw lot) (by omega) h4 (by omega)
  have h6 := hv.2.2.2 rw hrw (rs - rw lot) (by omega) (by omega)
  have e2 : (sw w rw (lot + 1) : Int) = sw w rw lot + (rw lot : Int) * (w lot : Int) := by
    have : sw w rw (lot + 1) = sw w rw lot + rw lot * w lot := rfl
    rw [this]; simp
  omega
