/-! the mixer's find -/
def Fe (n a b c : Nat) (T E U r : Nat → Nat) : Prop := (∀ i, i < 6 → r i ≤ U i) ∧ su r 6 = n ∧ a * n ≤ sw T r 6 ∧ sw T r 6 ≤ b * n ∧ sw E r 6 ≤ c * n
def Cx (n a b c : Nat) (s : Nat) : Nat := if s = 1 then n * b else if s = 2 then n * (1000 - a) else if s = 3 then n * c else 0
theorem su_z {h : Nat → Nat} {x y : Nat} (hxy : x ≤ y) (e : ∀ i, x ≤ i → i < y → h i = 0) : su h y = su h x := by
  induction y with
  | zero => have : x = 0 := by omega
            subst this; rfl
  | succ y ih =>
    by_cases c : x = y + 1
    · subst c; rfl
    · rw [su, ih (by omega) (fun i a b => e i a (by omega)), e y (by omega) (by omega)]; omega
theorem sw_co {T r : Nat → Nat} {x : Nat} (h : ∀ i, i < x → T i ≤ 1000) : su (fun i => r i * (1000 - T i)) x + sw T r x = 1000 * su r x := by
  induction x with
  | zero => rfl
  | succ x ih =>
    have h1 := ih (fun i hi => h i (by omega))
    have h2 : r x * (1000 - T x) + r x * T x = r x * 1000 := by rw [← Nat.mul_add]; congr 1; have := h x (by omega); omega
    show su (fun i => r i * (1000 - T i)) x + r x * (1000 - T x) + (su (fun i => r i * T i) x + r x * T x) = 1000 * (su r x + r x)
    have h3 : sw T r x = su (fun i => r i * T i) x := rfl
    omega
theorem FF_ok {n a b c M : Nat} {P T E U : Nat → Nat} (hn : n ≤ 40) (ha : a ≤ 1000) (hb : b ≤ 1000) (hc : c ≤ 1000) (hM : M ≤ 4) (hT : ∀ i, i < 6 → T i ≤ 1000) (hU0 : ∀ i, M + 2 ≤ i → i < 6 → U i = 0) : FF n M P T E U (Cx n a b c) (Fe n a b c T E U) (fun r => sw P r 6) := by
  have z : ∀ r : Nat → Nat, (∀ i, i < 6 → r i ≤ U i) → su r 6 = su r (M + 2) ∧ ∀ w : Nat → Nat, sw w r 6 = sw w r (M + 2) := by
    intro r hr
    have h0 : ∀ i, M + 2 ≤ i → i < 6 → r i = 0 := fun i h1 h2 => by have := hr i h2; have := hU0 i h1 h2; omega
    exact ⟨su_z (by omega) h0, fun w => su_z (by omega) (fun i h1 h2 => by rw [h0 i h1 h2, Nat.zero_mul])⟩
  have b1 : n * b ≤ 40000 := by have := Nat.mul_le_mul hn hb; omega
  have b2 : n * (1000 - a) ≤ 40000 := by have := Nat.mul_le_mul hn (show 1000 - a ≤ 1000 by omega); omega
  have b3 : n * c ≤ 40000 := by have := Nat.mul_le_mul hn hc; omega
  have m1 : n * (1000 - a) + a * n = 1000 * n := by rw [Nat.mul_comm a n, ← Nat.mul_add, Nat.mul_comm n]; congr 1; omega
  have m2 : b * n = n * b := Nat.mul_comm b n
  have m3 : c * n = n * c := Nat.mul_comm c n
  refine ⟨fun r => ⟨?_, ?_⟩, fun r hr => ?_, hU0, fun s => ?_⟩
  · rintro ⟨h1, h2, h3, h4, h5⟩
    obtain ⟨z1, z2⟩ := z r h1
    have co := sw_co (T := T) (r := r) (x := M + 2) (fun i hi => hT i (by omega))
    rw [z1] at h2
    rw [z2 T] at h3 h4
    rw [z2 E] at h5
    refine ⟨h1, h2, fun s s1 s4 => ?_⟩
    have : s = 1 ∨ s = 2 ∨ s = 3 := by omega
    rcases this with rfl | rfl | rfl
    · show sw T r (M + 2) ≤ n * b
      omega
    · show su (fun i => r i * (1000 - T i)) (M + 2) ≤ n * (1000 - a)
      rw [h2] at co
      omega
    · show sw E r (M + 2) ≤ n * c
      omega
  · rintro ⟨h1, h2, h3⟩
    obtain ⟨z1, z2⟩ := z r h1
    have co := sw_co (T := T) (r := r) (x := M + 2) (fun i hi => hT i (by omega))
    have k1 : sw T r (M + 2) ≤ n * b := h3 1 (by omega) (by omega)
    have k2 : su (fun i => r i * (1000 - T i)) (M + 2) ≤ n * (1000 - a) := h3 2 (by omega) (by omega)
    have k3 : sw E r (M + 2) ≤ n * c := h3 3 (by omega) (by omega)
    rw [h2] at co
    refine ⟨h1, by rw [z1]; exact h2, by rw [z2 T]; omega, by rw [z2 T]; omega, by rw [z2 E]; omega⟩
  · obtain ⟨z1, z2⟩ := z r hr.1
    show sw P r 6 = sw P r (M + 2)
    exact z2 P
  · unfold Cx
    split
    · exact b1
    · split
      · exact b2
      · split
        · exact b3
        · omega
/-- what a find leaves -/
def FD (n a b c : Nat) (P T E U : Nat → Nat) (fd C0 : Int32) (br : Nat → Int32) : Prop := (fd = 0 ∧ ∀ r, ¬ Fe n a b c T E U r) ∨ (fd = 1 ∧ ∃ r, Bst (Fe n a b c T E U) (fun r => sw P r 6) (fun _ => True) r ∧ (∀ i, i < 6 → br i = nI (r i)) ∧ C0.toInt = (sw P r 6 : Int) - 1)
theorem q_find {N n a b c L M : Nat} {P T E U : Nat → Nat} {g : gFG} {f : gFF} {Q : Int32 → gFG → gFF → Prop} (hN : 1000 ≤ N) (hn : n ≤ 40) (ha : a ≤ 1000) (hb : b ≤ 1000) (hc : c ≤ 1000) (hL : L ≤ 6) (hM : M + 2 = max L 2) (h13 : g 13 = nI L) (hR : LR P T E U g f) (hU0 : ∀ i, L ≤ i → i < 6 → U i = 0) (hrz : ∀ i, i < 6 → 2 ≤ i → L ≤ i → f 29 i = 0) (hs0 : ∀ s, s < 4 → f (39 + s) 0 = 0) (h : ∀ g' f', (∀ j, j ≠ 14 → j ≠ 15 → j ≠ 16 → j ≠ 17 → g' j = g j) → (∀ j, ¬ (27 ≤ j ∧ j < 43) → f' j = f j) → (∀ i, i < 6 → 2 ≤ i → L ≤ i → f' 29 i = 0) → (∀ s, s < 4 → f' (39 + s) 0 = 0) → FD n a b c P T E U (g' 17) (f' 27 0) (f' 30) → Q (g' 17) g' f') : wX5_find N (nI n) (nI a) (nI b) (nI c) g f Q := by
  have mI : ∀ a b : Nat, nI a * nI b = nI (a * b) := fun a b => (Int32.ofNat_mul a b).symm
  have hM4 : M ≤ 4 := by omega
  have hv : ∀ k : Nat, k < 4 → vp_in (nI k) 4 := fun k hk => vp_in_nI hk (by decide)
  have hFF := FF_ok (P := P) (E := E) (U := U) (T := T) (M := M) (n := n) (a := a) (b := b) (c := c) hn ha hb hc hM4 (fun i hi => (hR i hi).2.2.1) (fun i h1 h2 => hU0 i (by omega) h2)
  unfold wX5_find
  rintro _ rfl
  have e1000 : nI n * 1000 = nI (1000 * n) := by rw [Nat.mul_comm]; exact mI n 1000
  have ea : (1000 : Int32) - nI a = nI (1000 - a) := nI_subn (a := a) (b := 1000) ha
  rw [e1000, mI, ea, mI, mI]
  rintro _ rfl
  refine ⟨hv 0 (by omega), ?_⟩
  rintro _ rfl _ rfl
  refine ⟨hv 1 (by omega), ?_⟩
  rintro _ rfl _ rfl
  refine ⟨hv 2 (by omega), ?_⟩
  rintro _ rfl _ rfl
  refine ⟨hv 3 (by omega), ?_⟩
  rintro _ rfl
  rw [cl_0, cl_1, cl_2, cl_3, up_s, up_up, up_s, up_up, up_s, up_up]
  unfold wX5_lastOfLots wX4_length
  dsimp only
  have g13 : (va_up g 17 0) 13 = nI L := h13
  rw [g13, q_max, q_min]
  have el : (if (if (1 : Int32).toInt ≤ (nI L - 1).toInt then nI L - 1 else 1).toInt ≤ (5 : Int32).toInt then (if (1 : Int32).toInt ≤ (nI L - 1).toInt then nI L - 1 else 1) else 5) = nI (M + 1) := by
    have e5 : (5 : Int32).toInt = 5 := rfl
    have e1 : (nI L - 1).toInt = (L : Int) - 1 := by rw [sub_I (by rw [nI_I (by omega), z_1]; omega) (by rw [nI_I (by omega), z_1]; omega), nI_I (by omega), z_1]
    by_cases c : 2 ≤ L
    · have e2 : nI L - 1 = nI (L - 1) := by
        have := nI_pred (L - 1)
        rw [show L - 1 + 1 = L by omega] at this
        exact this
      rw [if_pos (show (1 : Int32).toInt ≤ (nI L - 1).toInt by rw [e1, z_1]; omega), if_pos (by rw [e1, e5]; omega), e2, show M + 1 = L - 1 by omega]
    · rw [if_neg (show ¬ (1 : Int32).toInt ≤ (nI L - 1).toInt by rw [e1, z_1]; omega), if_pos (by rw [z_1, e5]; omega), show M + 1 = 1 by omega]; rfl
  rw [el]
  rintro _ rfl
  generalize hfC : va_up f 27 (upd (upd (upd (upd (f 27) 0 (nI (1000 * n))) 1 (nI (n * b))) 2 (nI (n * (1000 - a)))) 3 (nI (n * c))) = fC
  have fCn : ∀ j, j ≠ 27 → fC j = f j := fun j hj => by rw [← hfC]; exact up_n _ _ hj
  have fC27 : fC 27 0 = nI (1000 * n) ∧ fC 27 1 = nI (n * b) ∧ fC 27 2 = nI (n * (1000 - a)) ∧ fC 27 3 = nI (n * c) := by
    rw [← hfC, up_s]
    refine ⟨?_, ?_, ?_, ?_⟩
    · rw [upd_ne _ _ (by decide), upd_ne _ _ (by decide), upd_ne _ _ (by decide), upd_at]
    · rw [upd_ne _ _ (by decide), upd_ne _ _ (by decide), upd_at]
    · rw [upd_ne _ _ (by decide), upd_at]
    · rw [upd_at]
  have hR1 : LR P T E U (va_up (va_up g 17 0) 14 (nI (M + 1))) fC := LR_f hR rfl (fCn 20 (by decide)) (fCn 21 (by decide)) (fCn 22 (by decide)) (fCn 23 (by decide))
  refine q_weigh hN hR1 (fun f2 w1 w2 => ?_)
  have hR2 : LR P T E U (va_up (va_up g 17 0) 14 (nI (M + 1))) f2 := LR_f hR1 rfl (w2 20 (by omega)) (w2 21 (by omega)) (w2 22 (by omega)) (w2 23 (by omega))
  refine q_foresee (K := M + 2) hN hn (by omega) (by omega) rfl hR2 w1 (fun f3 o1 o2 => ?_)
  have f3n : ∀ j, ¬ (27 ≤ j ∧ j < 43) → f3 j = f j := fun j hj => by rw [o2 j (by omega) (by omega), w2 j (by omega), fCn j (by omega)]
  have f3a : ∀ j, j = 27 ∨ j = 29 ∨ (39 ≤ j ∧ j < 43) → f3 j = fC j := fun j hj => by rw [o2 j (by omega) (by omega), w2 j (by omega)]
  have hR3 : LR P T E U (va_up (va_up g 17 0) 14 (nI (M + 1))) f3 := LR_f hR rfl (f3n 20 (by omega)) (f3n 21 (by omega)) (f3n 22 (by omega)) (f3n 23 (by omega))
  have hS : SS n M P T E U (Cx n a b c) (va_up (va_up g 17 0) 14 (nI (M + 1))) f3 := by
    refine ⟨rfl, hR3, fun s i hs hi => ?_, o1, fun s s1 s4 => ?_⟩
    · rw [o2 (31 + s) (by omega) (by omega)]; exact w1 s i hs hi
    · rw [f3a 27 (by omega)]
      have : s = 1 ∨ s = 2 ∨ s = 3 := by omega
      rcases this with rfl | rfl | rfl
      · exact fC27.2.1
      · exact fC27.2.2.1
      · exact fC27.2.2.2
  refine q_search hN hn hM4 hFF M 0 n 7 (fun _ => 0) _ f3 _ (by omega) (by omega) hS ?_ (fun i hi => absurd hi (by omega)) (fun i hi => absurd hi (by omega)) (fun i h1 h2 => ?_) (fun s hs => ?_) (Or.inl ⟨rfl, ?_, ?_⟩) (fun g4 f4 x1 x2 x3 x4 x5 => ?_)
  · show 0 + n = n
    omega
  · rw [f3a 29 (by omega), fCn 29 (by decide)]; exact hrz i h2 (by omega) (by omega)
  · rw [f3a (39 + s) (by omega), fCn (39 + s) (by omega)]; exact hs0 s hs
  · rw [f3a 27 (by omega)]; exact fC27.1
  · rintro r ⟨i, hi, -⟩
    omega
  · have hgz : gz (g4 17) := by
      rcases x5 with ⟨q, -⟩ | ⟨q, -⟩
      · exact Or.inl q
      · exact Or.inr q
    refine ⟨hgz, h g4 f4 (fun j j1 j2 j3 j4 => ?_) (fun j hj => ?_) (fun i i1 i2 i3 => x3 i (by omega) i1) (fun s hs => ?_) ?_⟩
    · rw [x1.1 j j2 j3 j4, up_n _ _ j1, up_n _ _ j4]
    · rw [x1.2.1 j (by omega) (by omega) (by omega) (by omega)]; exact f3n j hj
    · rw [x4 s 0 hs (by omega), f3a (39 + s) (by omega), fCn (39 + s) (by omega)]; exact hs0 s hs
    · rcases x5 with ⟨q1, q2, q3⟩ | ⟨q1, r, ⟨b1, b2, b3⟩, q2, q3⟩
      · exact Or.inl ⟨q1, fun r => q3 r (Or.inr (fun j hj => absurd hj (by omega)))⟩
      · exact Or.inr ⟨q1, r, ⟨trivial, b2, fun r' _ hF' => b3 r' (Or.inr (fun j hj => absurd hj (by omega))) hF'⟩, q2, q3⟩
/-- the best is one alone -/
theorem Bst_u {F : (Nat → Nat) → Prop} {prc : (Nat → Nat) → Nat} {r r' : Nat → Nat} (h : Bst F prc (fun _ => True) r) (h' : Bst F prc (fun _ => True) r') : prc r = prc r' ∧ ∀ i, i < 6 → r i = r' i := by
  have h1 := h.2.2 r' trivial h'.2.1
  have h2 := h'.2.2 r trivial h.2.1
  have e : prc r = prc r' := by omega
  refine ⟨e, lx_tri ?_ ?_⟩
  · rcases h2 with c | c
    · omega
    · exact c.2
  · rcases h1 with c | c
    · omega
    · exact c.2
