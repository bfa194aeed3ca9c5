/-! words and numbers -/
theorem nI_subn {a b : Nat} (h : a ≤ b) : nI b - nI a = nI (b - a) := by
  have e : b = (b - a) + a := by omega
  conv => lhs; rw [e, ← nI_add]
  exact Int32.add_sub_cancel _ _
abbrev eqs (b : Nat → Int32) (s : Nat) (c : List Int32) : Prop := ∀ i, i < c.length → b (s + i) = c.getD i 0
def isW (b : Nat → Int32) (s e : Nat) (c : List Int32) : Bool := decide (e = s + c.length ∧ eqs b s c)
theorem gs_len : ∀ r : Nat, r < 14 → gsl.getD r 0 = (gsb.getD r []).length := by decide
theorem q_isWord {N t p s e k r : Nat} {g : gFG} {f : gFF} {Q : Int32 → gFG → gFF → Prop} (hN : 1000 ≤ N) (ht : t ≤ 300) (hr : r < 14) (hT : Tk (f 44) t p s e k) (h18 : g 18 = nI t) (h19 : g 19 = nI s) (h20 : g 20 = nI e) (h : Q (bi (isW (f 44) s e (gsb.getD r []))) g f) : wX7_isWord N r g f Q := by
  obtain ⟨t1, t2, t3, t4, t5, t6⟩ := hT
  have hse : s ≤ e := by rcases t6 with ⟨-, z1, z2⟩ | ⟨z1, z2, z3⟩ <;> omega
  have hl := gs_len r hr
  have hl8 := gsl_ok r hr
  have en : gsN r = nI (gsb.getD r []).length := by unfold gsN; rw [hl]; rfl
  unfold wX7_isWord
  rw [h19, h20, nI_subn hse, en, nI_eq (by omega) (by omega)]
  refine ⟨hr, fun c1 => ?_, fun c1 => ?_⟩
  · refine lpU (β := Unit) (fun n x _ => wX7_isWord_l20 N r Q n (nI x) g f) (fun x _ => ∀ i, i < x → f 44 (s + i) = (gsb.getD r []).getD i 0) (gsb.getD r []).length ?_ ?_ 0 N () (by omega) (by omega) (fun i hi => absurd hi (by omega))
    · intro n _ hi
      unfold wX7_isWord_l20
      rw [en]
      refine ⟨hr, fun _ => ?_, fun c => absurd (nI_le (Nat.le_refl _) (by omega)) c⟩
      have : isW (f 44) s e (gsb.getD r []) = true := decide_eq_true ⟨by omega, hi⟩
      rw [this] at h
      exact h
    · intro n x _ hx hi ih
      unfold wX7_isWord_l20
      rw [en]
      refine ⟨hr, fun c => absurd c (nI_ge hx (by omega)), fun c => ?_⟩
      rw [h19, nI_add, q_byte ht (by omega) h18, if_pos (by omega)]
      refine ⟨⟨hr, vp_in_nI (by omega) (by omega)⟩, ?_⟩
      have e2 : gsC r (nI x) = (gsb.getD r []).getD x 0 := by unfold gsC; rw [nI_clamp (by omega)]
      rw [e2]
      refine ⟨fun c2 y ey => ?_, fun c2 => ?_⟩
      · rw [ey, nI_1]
        refine ih () (fun i hi2 => ?_)
        by_cases h4 : i = x
        · rw [h4]; exact c2
        · exact hi i (by omega)
      · have : isW (f 44) s e (gsb.getD r []) = false := decide_eq_false (fun q => c2 (q.2 x hx))
        rw [this] at h
        exact h
  · have : isW (f 44) s e (gsb.getD r []) = false := decide_eq_false (fun q => c1 (by omega))
    rw [this] at h
    exact h
theorem isW_inj {b : Nat → Int32} {s e : Nat} {c c' : List Int32} (h1 : isW b s e c = true) (h2 : isW b s e c' = true) : c = c' := by
  obtain ⟨a1, a2⟩ := of_decide_eq_true h1
  obtain ⟨b1, b2⟩ := of_decide_eq_true h2
  apply List.ext_getElem (by omega)
  intro i hi hj
  have x1 := a2 i hi
  have x2 := b2 i hj
  rw [x1] at x2
  simpa [List.getD_eq_getElem?_getD, hi, hj] using x2
theorem gsb_inj : ∀ i j : Nat, i < 14 → j < 14 → gsb.getD i [] = gsb.getD j [] → i = j := by
  have : ∀ i : Fin 14, ∀ j : Fin 14, gsb.getD i.val [] = gsb.getD j.val [] → i.val = j.val := by decide
  exact fun i j hi hj h => this ⟨i, hi⟩ ⟨j, hj⟩ h
/-- which kind's name the token is -/
def KD (b : Nat → Int32) (s e : Nat) (v : Int32) : Prop := (v = -1 ∧ ∀ j, j < 9 → isW b s e (gsb.getD j []) = false) ∨ ∃ i, i < 9 ∧ v = nI i ∧ ∀ j, j < 14 → isW b s e (gsb.getD j []) = decide (j = i)
theorem KD_ex (b : Nat → Int32) (s e : Nat) : ∃ v, KD b s e v := by
  by_cases h : ∃ i, i < 9 ∧ isW b s e (gsb.getD i []) = true
  · obtain ⟨i, hi, h1⟩ := h
    refine ⟨nI i, Or.inr ⟨i, hi, rfl, fun j hj => ?_⟩⟩
    by_cases h2 : j = i
    · rw [h2, h1]; simp
    · rw [decide_eq_false h2]
      cases h3 : isW b s e (gsb.getD j []) with
      | false => rfl
      | true => exact absurd (gsb_inj j i (by omega) (by omega) (isW_inj h3 h1)) h2
  · refine ⟨-1, Or.inl ⟨rfl, fun j hj => ?_⟩⟩
    cases h3 : isW b s e (gsb.getD j []) with
    | false => rfl
    | true => exact absurd ⟨j, hj, h3⟩ h
theorem q_nameOf {N x : Nat} {g : gFG} {f : gFF} {Q : Nat → gFG → gFF → Prop} (hx : x < 9) (h : Q x g f) : wX7_nameOf N (nI x) g f Q := by
  have : x = 0 ∨ x = 1 ∨ x = 2 ∨ x = 3 ∨ x = 4 ∨ x = 5 ∨ x = 6 ∨ x = 7 ∨ x = 8 := by omega
  unfold wX7_nameOf
  rcases this with rfl | rfl | rfl | rfl | rfl | rfl | rfl | rfl | rfl <;> simp [nI] <;> exact h
theorem q_kindHere {N t p s e k : Nat} {v : Int32} {g : gFG} {f : gFF} {Q : Int32 → gFG → gFF → Prop} (hN : 1000 ≤ N) (ht : t ≤ 300) (hT : Tk (f 44) t p s e k) (h18 : g 18 = nI t) (h19 : g 19 = nI s) (h20 : g 20 = nI e) (hv : KD (f 44) s e v) (h : Q v g f) : wX7_kindHere N g f Q := by
  refine lpU (β := Unit) (fun n x _ => wX7_kindHere_l2 N Q n (nI x) g f) (fun x _ => ∀ i, i < x → isW (f 44) s e (gsb.getD i []) = false) 9 ?_ ?_ 0 N () (by omega) (by omega) (fun i hi => absurd hi (by omega))
  · intro n _ hi
    unfold wX7_kindHere_l2
    refine ⟨fun _ => ?_, fun c => absurd (nI_le (Nat.le_refl 9) (by decide)) c⟩
    rcases hv with ⟨e1, -⟩ | ⟨i, h1, h2, h3⟩
    · rw [← e1]; exact h
    · have := hi i h1
      rw [h3 i (by omega)] at this
      simp at this
  · intro n x _ hx hi ih
    unfold wX7_kindHere_l2
    refine ⟨fun c => absurd c (nI_ge hx (by decide)), fun c => ?_⟩
    refine q_nameOf hx ?_
    refine q_isWord hN ht (by omega) hT h18 h19 h20 ?_
    simp only [bi_0, nI_1, forall_eq, br1]
    cases hw : isW (f 44) s e (gsb.getD x []) with
    | false =>
      rw [if_pos rfl]
      refine ih () (fun i hi2 => ?_)
      by_cases h4 : i = x
      · rw [h4]; exact hw
      · exact hi i (by omega)
    | true =>
      rw [if_neg (by decide)]
      rcases hv with ⟨-, e2⟩ | ⟨i, h1, h2, h3⟩
      · rw [e2 x hx] at hw; contradiction
      · rw [h3 x (by omega)] at hw
        rw [of_decide_eq_true hw, ← h2]
        exact h
/-- words by their worth -/
def wi (h : Nat → Int) : Nat → Int
  | 0 => 0
  | j + 1 => wi h j * 32 + h j
theorem wi_inj (h h' : Nat → Int) (j : Nat) : ∀ m, (∀ i, i < j → 1 ≤ h i ∧ h i ≤ 26) → (∀ i, i < m → 1 ≤ h' i ∧ h' i ≤ 26) → wi h j = wi h' m → j = m ∧ ∀ i, i < j → h i = h' i := by
  have pos : ∀ (h : Nat → Int) (j : Nat), (∀ i, i < j → 1 ≤ h i ∧ h i ≤ 26) → 0 ≤ wi h j := by
    intro h j
    induction j with
    | zero => intro _; simp [wi]
    | succ j ih =>
      intro hh
      have a := ih (fun i hi => hh i (by omega))
      have b := hh j (by omega)
      simp only [wi]
      omega
  induction j with
  | zero =>
    intro m h1 h2 h3
    cases m with
    | zero => exact ⟨rfl, fun i hi => absurd hi (by omega)⟩
    | succ m =>
      have a := pos h' m (fun i hi => h2 i (by omega))
      have b := h2 m (by omega)
      simp only [wi] at h3
      omega
  | succ j ih =>
    intro m h1 h2 h3
    have a1 := pos h j (fun i hi => h1 i (by omega))
    have b1 := h1 j (by omega)
    cases m with
    | zero =>
      simp only [wi] at h3
      omega
    | succ m =>
      have a := pos h' m (fun i hi => h2 i (by omega))
      have b := h2 m (by omega)
      simp only [wi] at h3
      obtain ⟨q1, q2⟩ := ih m (fun i hi => h1 i (by omega)) (fun i hi => h2 i (by omega)) (by omega)
      subst q1
      refine ⟨rfl, fun i hi => ?_⟩
      by_cases h4 : i = j
      · rw [h4]; omega
      · exact q2 i (by omega)
theorem bmL {z : Int} (h1 : -9223372036854775808 ≤ z) (h2 : z < 9223372036854775808) : z.bmod (2 ^ 64) = z := by
  rw [Int.bmod_eq_of_le (by omega) (by omega)]
theorem wl_wi (b : Nat → Int32) (s : Nat) : ∀ j, j ≤ 8 → (∀ i, i < j → isLe (b (s + i)) = true) → (wl b s j).toInt = wi (fun i => (b (s + i)).toInt - 96) j ∧ 0 ≤ (wl b s j).toInt ∧ (wl b s j).toInt < 32 ^ j := by
  intro j
  induction j with
  | zero => intro _ _; exact ⟨rfl, Int.le_refl 0, by show (0 : Int) < 1; decide⟩
  | succ j ih =>
    intro h1 h2
    obtain ⟨a1, a2, a3⟩ := ih (by omega) (fun i hi => h2 i (by omega))
    have a4 := of_decide_eq_true (h2 j (by omega))
    have a5 : (32 : Int) ^ j ≤ 32 ^ 7 := by
      have : j = 0 ∨ j = 1 ∨ j = 2 ∨ j = 3 ∨ j = 4 ∨ j = 5 ∨ j = 6 ∨ j = 7 := by omega
      rcases this with rfl | rfl | rfl | rfl | rfl | rfl | rfl | rfl <;> decide
    have a6 : (32 : Int) ^ (j + 1) = 32 ^ j * 32 := Int.pow_succ ..
    have a7 : (32 : Int) ^ 7 = 34359738368 := by decide
    have e1 : (wl b s j * 32).toInt = (wl b s j).toInt * 32 := by
      rw [Int64.toInt_mul, show (32 : Int64).toInt = 32 from rfl]; exact bmL (by omega) (by omega)
    have e2 : (wl b s j * 32 + (b (s + j)).toInt64).toInt = (wl b s j).toInt * 32 + (b (s + j)).toInt := by
      rw [Int64.toInt_add, e1, l_I]; exact bmL (by omega) (by omega)
    have e3 : (wl b s (j + 1)).toInt = (wl b s j).toInt * 32 + ((b (s + j)).toInt - 96) := by
      simp only [wl]
      rw [if_pos (by omega), Int64.toInt_sub, e2, show (96 : Int64).toInt = 96 from rfl, bmL (by omega) (by omega)]
      omega
    rw [e3, a6]
    refine ⟨?_, by omega, by omega⟩
    simp only [wi]
    rw [← a1]
theorem wl_m1 (b : Nat → Int32) (s j : Nat) (h : 9 ≤ j) : wl b s j = -1 := by
  obtain ⟨k, rfl⟩ : ∃ k, j = k + 1 := ⟨j - 1, by omega⟩
  simp only [wl]
  rw [if_neg (by omega)]
theorem isLe_t {x : Int32} (h : 97 ≤ x.toInt ∧ x.toInt ≤ 122) : isLe x = true := decide_eq_true h
theorem wi_c {b : Nat → Int32} {s : Nat} {c : List Int32} (q2 : eqs b s c) : ∀ m, m ≤ c.length → wi (fun i => (b (s + i)).toInt - 96) m = wi (fun i => (c.getD i 0).toInt - 96) m := by
  intro m
  induction m with
  | zero => intro _; simp only [wi]
  | succ m ih =>
    intro hm
    have h1 := q2 m (by omega)
    simp only [wi]
    rw [ih (by omega), h1]
theorem wordM {b : Nat → Int32} {t p s e k : Nat} (hT : Tk b t p s e k) (c : List Int32) (hc1 : 1 ≤ c.length) (hc2 : c.length ≤ 7) (hc3 : ∀ i, i < c.length → 97 ≤ (c.getD i 0).toInt ∧ (c.getD i 0).toInt ≤ 122) (V : Int64) (hV : V.toInt = wi (fun i => (c.getD i 0).toInt - 96) c.length) (hV0 : 0 ≤ V.toInt) : decide (nI k = 1 ∧ (wor b s e k).toInt = V.toInt) = isW b s e c := by
  obtain ⟨t1, t2, t3, t4, t5, t6⟩ := hT
  unfold isW
  apply decide_eq_decide.mpr
  have hc0 := hc3 0 hc1
  constructor
  · rintro ⟨q1, q2⟩
    rcases t6 with ⟨z0, z1, z2⟩ | ⟨z1, z2, z3⟩
    · subst z0; exact absurd q1 (by decide)
    · rcases z3 with ⟨z0, z4, z5⟩ | ⟨z0, z4, z5⟩ | ⟨z0, z4, z5, z6⟩
      · subst z0
        have e1 : wor b s e 1 = wl b s (e - s) := by unfold wor; rw [if_neg (by decide), if_pos rfl]
        rw [e1] at q2
        by_cases h9 : 9 ≤ e - s
        · rw [wl_m1 b s _ h9] at q2
          exact absurd hV0 (by rw [← q2]; decide)
        · have z4' : ∀ i, i < e - s → isLe (b (s + i)) = true := fun i hi => z4 (s + i) (by omega) (by omega)
          obtain ⟨a1, -, -⟩ := wl_wi b s (e - s) (by omega) z4'
          rw [a1, hV] at q2
          obtain ⟨b1, b2⟩ := wi_inj _ _ _ _ (fun i hi => by have := of_decide_eq_true (z4' i hi); omega) (fun i hi => by have := hc3 i hi; omega) q2
          refine ⟨by omega, fun i hi => ?_⟩
          have := b2 i (by omega)
          rw [eq_I]
          omega
      · subst z0; exact absurd q1 (by decide)
      · subst z0; exact absurd q1 (by decide)
  · rintro ⟨q1, q2⟩
    have h0 := q2 0 hc1
    have h0' : isLe (b s) = true := isLe_t (by rw [Nat.add_zero] at h0; rw [h0]; exact hc0)
    have h0d : isDi (b s) = false := by
      have := of_decide_eq_true h0'
      exact decide_eq_false (by omega)
    rcases t6 with ⟨z0, z1, z2⟩ | ⟨z1, z2, z3⟩
    · omega
    · rcases z3 with ⟨z0, z4, z5⟩ | ⟨z0, z4, z5⟩ | ⟨z0, z4, z5, z6⟩
      · subst z0
        refine ⟨rfl, ?_⟩
        have e1 : wor b s e 1 = wl b s (e - s) := by unfold wor; rw [if_neg (by decide), if_pos rfl]
        have z4' : ∀ i, i < e - s → isLe (b (s + i)) = true := fun i hi => z4 (s + i) (by omega) (by omega)
        obtain ⟨a1, -, -⟩ := wl_wi b s (e - s) (by omega) z4'
        rw [e1, a1, hV]
        have e2 : e - s = c.length := by omega
        rw [e2]
        exact wi_c q2 _ (Nat.le_refl _)
      · rw [z4 s (Nat.le_refl s) z2] at h0d; contradiction
      · rw [z5] at h0'; contradiction
