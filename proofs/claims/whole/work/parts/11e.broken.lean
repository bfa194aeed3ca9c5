/-! broken -/
def outB (s a c t : Int32) : Bool := decide (t = 0 ∨ s < a * t ∨ ¬ s ≤ c * t)
def brk (k a c tot tin lead wl air dry stuck pcs spc cor : Int32) : Bool := if k = 0 then outB tin a c tot else if k = 1 then outB lead a c tot else if k = 2 then outB (tot * 1000 - tin - lead) a c tot else if k = 3 then decide (¬ a ≤ wl) else if k = 4 then decide (¬ air ≤ a) else if k = 5 then decide (¬ dry ≤ a) else if k = 6 then decide (¬ stuck ≤ a) else if k = 7 then decide (¬ pcs ≤ a) else decide (¬ a * cor ≤ spc * c)
theorem sm_c {h h' : Nat → Int32} {n : Nat} (e : ∀ i, i < n → h i = h' i) : sm h n = sm h' n := by
  induction n with
  | zero => rfl
  | succ n ih => rw [sm, sm, ih (fun i hi => e i (by omega)), e n (by omega)]
theorem sm_z {h : Nat → Int32} {L : Nat} (e : ∀ i, L ≤ i → h i = 0) : ∀ d, sm h (L + d) = sm h L := by
  intro d
  induction d with
  | zero => rfl
  | succ d ih => rw [Nat.add_succ, sm, ih, e (L + d) (by omega), Int32.add_zero]
theorem sm_cop (k t e : Nat → Int32) : ∀ x, sm (fun l => k l * (1000 - t l - e l)) x = sm k x * 1000 - sm (fun l => k l * t l) x - sm (fun l => k l * e l) x := by
  intro x
  induction x with
  | zero => show (0 : Int32) = 0 * 1000 - 0 - 0; decide
  | succ x ih =>
    simp only [sm]
    rw [ih]
    grind
theorem q_out {N : Nat} {s a c : Int32} {g : gFG} {f : gFF} {Q : Int32 → gFG → gFF → Prop} (hN : 1000 ≤ N) (h : Q (bi (outB s a c (sm (f 43) 6))) g f) : wX3_isOutside N s a c g f (fun r g f => (gz r) ∧ Q r g f) := by
  unfold wX3_isOutside wX3_isOutside_j30
  refine q_total hN ?_
  unfold outB at h
  refine ⟨fun c1 => ⟨Or.inr rfl, ?_⟩, fun c1 => ⟨fun c2 => ⟨Or.inr rfl, ?_⟩, fun c2 => ⟨fun c3 => ⟨Or.inl rfl, ?_⟩, fun c3 => ⟨Or.inr rfl, ?_⟩⟩⟩⟩
  · rw [decide_eq_true (Or.inl c1)] at h; exact h
  · rw [decide_eq_true (Or.inr (Or.inl c2))] at h; exact h
  · rw [decide_eq_false (by rintro (q | q | q) <;> contradiction)] at h; exact h
  · rw [decide_eq_true (Or.inr (Or.inr c3))] at h; exact h
theorem q_tinC {N L : Nat} {g : gFG} {f : gFF} {Q : Int32 → gFG → gFF → Prop} (hN : 1000 ≤ N) (hL : L ≤ 6) (h13 : g 13 = nI L) (h : Q (sm (fun i => f 43 i * (if i < L then f 20 i else 0)) 6) g f) : wX0_tin N g f Q := by
  refine lpU (β := Unit) (fun n x _ => wX0_tin_l4 N Q n (sm (fun i => f 43 i * (if i < L then f 20 i else 0)) x) (nI x) g f) (fun _ _ => True) 6 ?_ ?_ 0 N () (by omega) (by omega) trivial
  · intro n b _
    unfold wX0_tin_l4
    exact ⟨fun _ => h, fun c => absurd (nI_le (Nat.le_refl 6) (by decide)) c⟩
  · intro n x b hx _ ih
    unfold wX0_tin_l4
    refine ⟨fun c => absurd c (nI_ge hx (by decide)), fun c => ⟨vp_in_nI (by omega) (by decide), ?_⟩⟩
    rw [q_tinAt]
    have e : (if lhB (g 13) (nI x) = true then f 20 (nI x).toNatClampNeg else 0) = (if x < L then f 20 x else 0) := by
      unfold lhB
      rw [h13, nI_I (by omega), nI_I (by omega), nI_clamp (by omega)]
      by_cases q : x < L
      · rw [decide_eq_true (by omega), if_pos rfl, if_pos q]
      · rw [decide_eq_false (by omega), if_neg (by decide), if_neg q]
    rw [e, nI_clamp (by omega)]
    rintro _ rfl _ rfl
    rw [nI_1]
    exact ih () trivial
theorem q_leadC {N L : Nat} {g : gFG} {f : gFF} {Q : Int32 → gFG → gFF → Prop} (hN : 1000 ≤ N) (hL : L ≤ 6) (h13 : g 13 = nI L) (h : Q (sm (fun i => f 43 i * (if i < L then f 21 i else 0)) 6) g f) : wX0_lead N g f Q := by
  refine lpU (β := Unit) (fun n x _ => wX0_lead_l4 N Q n (sm (fun i => f 43 i * (if i < L then f 21 i else 0)) x) (nI x) g f) (fun _ _ => True) 6 ?_ ?_ 0 N () (by omega) (by omega) trivial
  · intro n b _
    unfold wX0_lead_l4
    exact ⟨fun _ => h, fun c => absurd (nI_le (Nat.le_refl 6) (by decide)) c⟩
  · intro n x b hx _ ih
    unfold wX0_lead_l4
    refine ⟨fun c => absurd c (nI_ge hx (by decide)), fun c => ⟨vp_in_nI (by omega) (by decide), ?_⟩⟩
    rw [q_leadAt]
    have e : (if lhB (g 13) (nI x) = true then f 21 (nI x).toNatClampNeg else 0) = (if x < L then f 21 x else 0) := by
      unfold lhB
      rw [h13, nI_I (by omega), nI_I (by omega), nI_clamp (by omega)]
      by_cases q : x < L
      · rw [decide_eq_true (by omega), if_pos rfl, if_pos q]
      · rw [decide_eq_false (by omega), if_neg (by decide), if_neg q]
    rw [e, nI_clamp (by omega)]
    rintro _ rfl _ rfl
    rw [nI_1]
    exact ih () trivial
theorem q_brC {N W H L k : Nat} {a c : Int32} {g : gFG} {f : gFF} {Q : Int32 → gFG → gFF → Prop} (hN : 1000 ≤ N) (h4 : g 4 = nI W) (h5 : g 5 = nI H) (hW : W ≤ 12) (hH : H ≤ 12) (hL : L ≤ 6) (h13 : g 13 = nI L) (hk : k ≤ 8) (h : Q (bi (brk (nI k) a c (sm (f 43) 6) (sm (fun i => f 43 i * (if i < L then f 20 i else 0)) 6) (sm (fun i => f 43 i * (if i < L then f 21 i else 0)) 6) (nI (lwo (wvl W H (f 14)) W H)) (nI (cg (fun x y => decide (f 14 (12 * y + x) = 3)) W H)) (nI (cg (fun x y => decide (f 14 (12 * y + x) = 2)) W H)) (bcI (g 10) - bcI (g 11)) (bcI (g 10)) (nI (cg (fun x y => decide ((2 : Int32).toInt ≤ (f 13 (12 * y + x)).toInt ∧ (f 13 (12 * y + x)).toInt ≤ (2 : Int32).toInt)) W H)) (nI (cg (fun x y => decide ((1 : Int32).toInt ≤ (f 13 (12 * y + x)).toInt ∧ (f 13 (12 * y + x)).toInt ≤ (1 : Int32).toInt)) W H)))) g f) : wX3_isBroken N (nI k) a c g f Q := by
  have le : ∀ {u v : Int32} {g : gFG} {f : gFF}, Q (bi (decide (¬ u ≤ v))) g f → ((u ≤ v) → Q 0 g f) ∧ ((¬ u ≤ v) → Q 1 g f) := by
    intro u v g f hq
    refine ⟨fun c => ?_, fun c => ?_⟩
    · rw [decide_eq_false (fun q => q c)] at hq; exact hq
    · rw [decide_eq_true c] at hq; exact hq
  unfold brk at h
  unfold wX3_isBroken
  refine ⟨fun c0 => ?_, fun c0 => ⟨fun c1 => ?_, fun c1 => ⟨fun c2 => ?_, fun c2 => ⟨fun c3 => ?_, fun c3 => ⟨fun c4 => ?_, fun c4 => ⟨fun c5 => ?_, fun c5 => ⟨fun c6 => ?_, fun c6 => ⟨fun c7 => ?_, fun c7 => ⟨fun c8 => ?_, fun c8 => ?_⟩⟩⟩⟩⟩⟩⟩⟩⟩
  · rw [if_pos c0] at h
    exact q_tinC hN hL h13 (q_out hN h)
  · rw [if_neg c0, if_pos c1] at h
    exact q_leadC hN hL h13 (q_out hN h)
  · rw [if_neg c0, if_neg c1, if_pos c2] at h
    unfold wX0_copper
    exact q_total hN (q_tinC hN hL h13 (q_leadC hN hL h13 (q_out hN h)))
  · rw [if_neg c0, if_neg c1, if_neg c2, if_pos c3] at h
    exact q_leastW hN h4 h5 hW hH (le h)
  · rw [if_neg c0, if_neg c1, if_neg c2, if_neg c3, if_pos c4] at h
    exact q_howC hN h4 h5 hW hH (le h)
  · rw [if_neg c0, if_neg c1, if_neg c2, if_neg c3, if_neg c4, if_pos c5] at h
    exact q_howC hN h4 h5 hW hH (le h)
  · rw [if_neg c0, if_neg c1, if_neg c2, if_neg c3, if_neg c4, if_neg c5, if_pos c6] at h
    unfold wX8_stuckCount wX8_pieceCount wX8_goneCount
    rw [q_bc]
    dsimp only
    rw [q_bc]
    exact le h
  · rw [if_neg c0, if_neg c1, if_neg c2, if_neg c3, if_neg c4, if_neg c5, if_neg c6, if_pos c7] at h
    unfold wX8_pieceCount
    rw [q_bc]
    exact le h
  · rw [if_neg c0, if_neg c1, if_neg c2, if_neg c3, if_neg c4, if_neg c5, if_neg c6, if_neg c7] at h
    unfold wX1_howManySpacers wX1_howManyCores
    exact q_howG hN h4 h5 hW hH (q_howG hN h4 h5 hW hH (le h))
  · exfalso
    have : k = 0 ∨ k = 1 ∨ k = 2 ∨ k = 3 ∨ k = 4 ∨ k = 5 ∨ k = 6 ∨ k = 7 ∨ k = 8 := by omega
    rcases this with rfl | rfl | rfl | rfl | rfl | rfl | rfl | rfl | rfl
    · exact c0 rfl
    · exact c1 rfl
    · exact c2 rfl
    · exact c3 rfl
    · exact c4 rfl
    · exact c5 rfl
    · exact c6 rfl
    · exact c7 rfl
    · exact c8 rfl
theorem q_brM {N W H L k r n : Nat} {tot : Int32} {g : gFG} {f : gFF} {w : Int64} {Q : Int32 → gFG → gFF → Int64 → Prop} (hN : 1000 ≤ N) (h2 : g 2 = nI W) (h3 : g 3 = nI H) (hW : W ≤ 12) (hH : H ≤ 12) (hL : L ≤ 6) (h15 : g 15 = nI L) (hr : r < 20) (hk : k ≤ 8) (h16 : f 16 r = nI k) (htot : (g 21 = -1 ∧ tot = 0) ∨ (1 ≤ n ∧ n ≤ 40 ∧ g 21 = nI n ∧ tot = nI n ∧ tot = sm (f 13) L)) (h : Q (bi (brk (nI k) (f 17 r) (f 18 r) tot (sm (fun l => f 13 l * f 9 l) L) (sm (fun l => f 13 l * f 10 l) L) (nI (lwo (wvl W H (f 3)) W H)) (nI (cg (cpd 2 (f 1) (f 3)) W H)) (nI (cg (cpd 1 (f 1) (f 3)) W H)) (g 14 - g 13) (g 14) (nI (cg (cpd 4 (f 1) (f 3)) W H)) (nI (cg (cpd 3 (f 1) (f 3)) W H)))) g f w) : wX12_isBroken N (nI r) g f w Q := by
  have hin : vp_in (nI r) 20 := vp_in_nI hr (by decide)
  have le : ∀ {u v : Int32} {g : gFG} {f : gFF} {w : Int64}, Q (bi (decide (¬ u ≤ v))) g f w → ((u ≤ v) → Q 0 g f w) ∧ ((¬ u ≤ v) → Q 1 g f w) := by
    intro u v g f w hq
    refine ⟨fun c => ?_, fun c => ?_⟩
    · rw [decide_eq_false (fun q => q c)] at hq; exact hq
    · rw [decide_eq_true c] at hq; exact hq
  have ne : ∀ j : Nat, j ≤ 8 → ((nI k = nI j) ↔ k = j) := fun j hj => ⟨fun q => nI_inj (by omega) (by omega) q, fun q => by rw [q]⟩
  have e0 : (nI k = 0) ↔ k = 0 := ne 0 (by omega)
  have e1 : (nI k = 1) ↔ k = 1 := ne 1 (by omega)
  have e2 : (nI k = 2) ↔ k = 2 := ne 2 (by omega)
  have e3 : (nI k = 3) ↔ k = 3 := ne 3 (by omega)
  have e4 : (nI k = 4) ↔ k = 4 := ne 4 (by omega)
  have e5 : (nI k = 5) ↔ k = 5 := ne 5 (by omega)
  have e6 : (nI k = 6) ↔ k = 6 := ne 6 (by omega)
  have e7 : (nI k = 7) ↔ k = 7 := ne 7 (by omega)
  unfold wX12_isBroken
  refine ⟨hin, ?_⟩
  rw [nI_clamp (show r < 2 ^ 31 by omega), h16]
  unfold brk at h
  refine ⟨fun c => ⟨hin, ?_⟩, fun c => ?_⟩
  · rw [le_I, nI_I (by omega), show (3 : Int32).toInt = 3 from rfl] at c
    have d0 : ¬ nI k = 0 := fun q => by have := e0.mp q; omega
    have d1 : ¬ nI k = 1 := fun q => by have := e1.mp q; omega
    have d2 : ¬ nI k = 2 := fun q => by have := e2.mp q; omega
    rw [if_neg d0, if_neg d1, if_neg d2] at h
    refine ⟨fun c3 => ?_, fun c3 => ⟨fun c4 => ?_, fun c4 => ⟨fun c5 => ?_, fun c5 => ⟨fun c6 => ?_, fun c6 => ⟨fun c7 => ?_, fun c7 => ?_⟩⟩⟩⟩⟩
    · rw [if_pos c3] at h
      exact q_wallOfM hN h2 h3 hW hH ⟨hin, le h⟩
    · rw [if_neg c3, if_pos c4] at h
      exact q_cellsM (k := 2) hN h2 h3 hW hH (by omega) ⟨hin, le h⟩
    · rw [if_neg c3, if_neg c4, if_pos c5] at h
      exact q_cellsM (k := 1) hN h2 h3 hW hH (by omega) ⟨hin, le h⟩
    · rw [if_neg c3, if_neg c4, if_neg c5, if_pos c6] at h
      exact ⟨hin, le h⟩
    · rw [if_neg c3, if_neg c4, if_neg c5, if_neg c6, if_pos c7] at h
      exact ⟨hin, le h⟩
    · rw [if_neg c3, if_neg c4, if_neg c5, if_neg c6, if_neg c7] at h
      exact q_cellsM (k := 4) hN h2 h3 hW hH (by omega) ⟨hin, hin, q_cellsM (k := 3) hN h2 h3 hW hH (by omega) (le h)⟩
  · rw [le_I, nI_I (by omega), show (3 : Int32).toInt = 3 from rfl] at c
    -- the sum that is asked for
    have j99 : ∀ s : Int32, (¬ tot = 0 → Q (bi (outB s (f 17 r) (f 18 r) tot)) g f w) → (tot = 0 → Q 1 g f w) → wX12_isBroken_j99 N Q (nI r) s g f w := by
      intro s hq hz
      unfold wX12_isBroken_j99 wX12_isBroken_j136
      rw [nI_clamp (show r < 2 ^ 31 by omega)]
      rcases htot with ⟨t1, t2⟩ | ⟨n1, n2, t1, t2, -⟩
      · rw [t1]
        exact ⟨fun _ => hz t2, fun c => absurd (show (-1 : Int32) < 0 by decide) c⟩
      · have hn0 : ¬ tot = 0 := by rw [t2, eq_I, nI_I (by omega), z_0]; omega
        have hq := hq hn0
        rw [t1, ← t2]
        refine ⟨fun c => ?_, fun _ => ⟨hin, fun c2 => ?_, fun c2 => ⟨hin, fun c3 => ?_, fun c3 => ?_⟩⟩⟩
        · rw [t2, lt_I, nI_I (by omega), z_0] at c; omega
        · unfold outB at hq
          rw [decide_eq_true (Or.inr (Or.inl c2))] at hq; exact hq
        · unfold outB at hq
          rw [decide_eq_false (by rintro (q | q | q) <;> contradiction)] at hq; exact hq
        · unfold outB at hq
          rw [decide_eq_true (Or.inr (Or.inr c3))] at hq; exact hq
    rcases htot with ⟨t1, t2⟩ | ⟨n1, n2, t1, t2, t3⟩
    · -- no mix
      have hz : Q 1 g f w := by
        have hto : ∀ s a c, outB s a c tot = true := fun s a c => by unfold outB; exact decide_eq_true (Or.inl t2)
        have : k = 0 ∨ k = 1 ∨ k = 2 := by omega
        rcases this with rfl | rfl | rfl
        · rw [if_pos (show nI 0 = 0 from rfl)] at h
          rw [hto] at h; exact h
        · rw [if_neg (show ¬ nI 1 = 0 by decide), if_pos (show nI 1 = 1 from rfl)] at h
          rw [hto] at h; exact h
        · rw [if_neg (show ¬ nI 2 = 0 by decide), if_neg (show ¬ nI 2 = 1 by decide), if_pos (show nI 2 = 2 from rfl)] at h
          rw [hto] at h; exact h
      obtain ⟨N2, hN2⟩ : ∃ q, N = q + 1 := ⟨N - 1, by omega⟩
      have := j99 0 (fun q => absurd t2 q) (fun _ => hz)
      have key : ∀ M, wX12_isBroken_l14 N (nI r) Q (M + 1) 0 0 g f w := by
        intro M
        unfold wX12_isBroken_l14
        rw [h15, t1]
        exact ⟨fun _ => this, fun _ => ⟨fun _ => this, fun c => absurd (show (-1 : Int32) < 0 by decide) c⟩⟩
      have k2 := key N2
      rw [← hN2] at k2
      exact k2
    · have hn0 : ¬ tot = 0 := by rw [t2, eq_I, nI_I (by omega), z_0]; omega
      have hneg : ¬ g 21 < 0 := by rw [t1, lt_I, nI_I (by omega), z_0]; omega
      have go : ∀ co : Nat → Int32, (∀ x, x < L → ∀ (v2 : Int32) (n : Nat), wX12_isBroken_l14 N (nI r) Q n (v2 + f 13 x * co x) (nI (x + 1)) g f w → wX12_isBroken_l14 N (nI r) Q (n + 1) v2 (nI x) g f w) → Q (bi (outB (sm (fun l => f 13 l * co l) L) (f 17 r) (f 18 r) tot)) g f w → wX12_isBroken_l14 N (nI r) Q N 0 0 g f w := by
        intro co hstep hq
        refine lpU (β := Unit) (fun n x _ => wX12_isBroken_l14 N (nI r) Q n (sm (fun l => f 13 l * co l) x) (nI x) g f w) (fun _ _ => True) L ?_ ?_ 0 N () (by omega) (by omega) trivial
        · intro n b _
          unfold wX12_isBroken_l14
          rw [h15]
          exact ⟨fun _ => j99 _ (fun _ => hq) (fun q => absurd q hn0), fun c => absurd (nI_le (Nat.le_refl L) (by omega)) c⟩
        · intro n x b hx _ ih
          exact hstep x hx _ n (ih () trivial)
      have pre : ∀ x, x < L → ¬ nI L ≤ nI x := fun x hx => nI_ge hx (by omega)
      have : k = 0 ∨ k = 1 ∨ k = 2 := by omega
      rcases this with rfl | rfl | rfl
      · rw [if_pos (show nI 0 = 0 from rfl)] at h
        refine go (f 9) (fun x hx v2 n hgo => ?_) h
        have hin6 : vp_in (nI x) 6 := vp_in_nI (by omega) (by decide)
        unfold wX12_isBroken_l14
        rw [h15, nI_clamp (show x < 2 ^ 31 by omega), nI_clamp (show r < 2 ^ 31 by omega), h16]
        refine ⟨fun c => absurd c (pre x hx), fun _ => ⟨fun c => absurd c hneg, fun _ => ⟨hin6, hin, fun c => absurd rfl c, fun _ => ⟨hin6, ?_⟩⟩⟩⟩
        unfold wX12_isBroken_j90
        rintro _ rfl _ rfl
        rw [nI_1]; exact hgo
      · rw [if_neg (show ¬ nI 1 = 0 by decide), if_pos (show nI 1 = 1 from rfl)] at h
        refine go (f 10) (fun x hx v2 n hgo => ?_) h
        have hin6 : vp_in (nI x) 6 := vp_in_nI (by omega) (by decide)
        unfold wX12_isBroken_l14
        rw [h15, nI_clamp (show x < 2 ^ 31 by omega), nI_clamp (show r < 2 ^ 31 by omega), h16]
        refine ⟨fun c => absurd c (pre x hx), fun _ => ⟨fun c => absurd c hneg, fun _ => ⟨hin6, hin, fun _ => ⟨hin, fun c => absurd rfl c, fun _ => ⟨hin6, ?_⟩⟩, fun c => absurd c (by decide)⟩⟩⟩
        unfold wX12_isBroken_j90
        rintro _ rfl _ rfl
        rw [nI_1]; exact hgo
      · rw [if_neg (show ¬ nI 2 = 0 by decide), if_neg (show ¬ nI 2 = 1 by decide), if_pos (show nI 2 = 2 from rfl), t3, ← sm_cop, ← t3] at h
        refine go (fun l => 1000 - f 9 l - f 10 l) (fun x hx v2 n hgo => ?_) h
        have hin6 : vp_in (nI x) 6 := vp_in_nI (by omega) (by decide)
        unfold wX12_isBroken_l14
        rw [h15, nI_clamp (show x < 2 ^ 31 by omega), nI_clamp (show r < 2 ^ 31 by omega), h16]
        refine ⟨fun c => absurd c (pre x hx), fun _ => ⟨fun c => absurd c hneg, fun _ => ⟨hin6, hin, fun _ => ⟨hin, fun _ => ⟨hin6, hin6, ?_⟩, fun c => absurd c (by decide)⟩, fun c => absurd c (by decide)⟩⟩⟩
        unfold wX12_isBroken_j90
        rintro _ rfl _ rfl
        rw [nI_1]; exact hgo
