/-! the latest mix: mixed, pour -/
theorem lpU {β : Type} (F : Nat → Nat → β → Prop) (I : Nat → β → Prop) (W : Nat) (hl : ∀ n b, I W b → F (n + 1) W b) (hs : ∀ n x b, x < W → I x b → (∀ b', I (x + 1) b' → F n (x + 1) b') → F (n + 1) x b) : ∀ x n b, x ≤ W → W - x < n → I x b → F n x b := by
  intro x
  have key : ∀ d x n b, W - x = d → x ≤ W → W - x < n → I x b → F n x b := by
    intro d
    induction d with
    | zero =>
      intro x n b h1 h2 h3 hi
      obtain ⟨n, rfl⟩ : ∃ k, n = k + 1 := ⟨n - 1, by omega⟩
      have : x = W := by omega
      subst this
      exact hl n b hi
    | succ d ih =>
      intro x n b h1 h2 h3 hi
      obtain ⟨n, rfl⟩ : ∃ k, n = k + 1 := ⟨n - 1, by omega⟩
      exact hs n x b (by omega) hi (fun b' hb' => ih (x + 1) n b' (by omega) (by omega) (by omega) hb')
  intro n b h1 h2 h3
  exact key _ x n b rfl h1 h2 h3
def sm (h : Nat → Int32) : Nat → Int32
  | 0 => 0
  | x + 1 => sm h x + h x
def si (h : Nat → Int) : Nat → Int
  | 0 => 0
  | x + 1 => si h x + h x
theorem si_rng (h : Nat → Int) (b : Int) (x : Nat) (hb : ∀ i, i < x → 0 ≤ h i ∧ h i ≤ b) : 0 ≤ si h x ∧ si h x ≤ b * x := by
  induction x with
  | zero => simp [si]
  | succ x ih =>
    have h1 := ih (fun i hi => hb i (by omega))
    have h2 := hb x (by omega)
    have h3 : b * ((x + 1 : Nat) : Int) = b * x + b := by rw [Int.natCast_add, Int.mul_add]; simp
    rw [h3]
    simp only [si]
    omega
theorem sm_si (h : Nat → Int32) (x : Nat) (hx : x ≤ 6) (hb : ∀ i, i < x → 0 ≤ (h i).toInt ∧ (h i).toInt ≤ 40000) : (sm h x).toInt = si (fun i => (h i).toInt) x := by
  induction x with
  | zero => rfl
  | succ x ih =>
    have h1 := ih (by omega) (fun i hi => hb i (by omega))
    have h2 := hb x (by omega)
    have h4 := si_rng (fun i => (h i).toInt) 40000 x (fun i hi => hb i (by omega))
    simp only [sm, si]
    rw [← h1] at h4 ⊢
    exact add_I (by omega) (by omega)
theorem q_total {N : Nat} {g : gFG} {f : gFF} {Q : Int32 → gFG → gFF → Prop} (hN : 1000 ≤ N) (h : Q (sm (f 43) 6) g f) : wX0_total N g f Q := by
  refine lpU (β := Unit) (fun n x _ => wX0_total_l4 N Q n (sm (f 43) x) (nI x) g f) (fun _ _ => True) 6 ?_ ?_ 0 N () (by omega) (by omega) trivial
  · intro n b _
    unfold wX0_total_l4
    exact ⟨fun _ => h, fun c => absurd (nI_le (Nat.le_refl 6) (by decide)) c⟩
  · intro n x b hx _ ih
    unfold wX0_total_l4
    refine ⟨fun c => absurd c (nI_ge hx (by decide)), fun c => ⟨vp_in_nI (by omega) (by decide), ?_⟩⟩
    rw [nI_clamp (by omega)]
    simp only [forall_eq, nI_1]
    exact ih () trivial
theorem sm_0 {b : Nat → Int32} (h : ∀ i, i < 6 → b i = 0) : sm b 6 = 0 := by
  simp only [sm, h 0 (by omega), h 1 (by omega), h 2 (by omega), h 3 (by omega), h 4 (by omega), h 5 (by omega)]
  rfl
theorem sm_n {b : Nat → Int32} {n : Nat} (hn : n ≤ 40) (h1 : ∀ i, i < 6 → 0 ≤ (b i).toInt ∧ (b i).toInt ≤ 40) (h2 : (b 0).toInt + (b 1).toInt + (b 2).toInt + (b 3).toInt + (b 4).toInt + (b 5).toInt = (n : Int)) : sm b 6 = nI n := by
  rw [eq_I, nI_I (by omega), sm_si b 6 (by omega) (fun i hi => by have := h1 i hi; omega)]
  simp only [si]
  omega
theorem q_isThere {N : Nat} {g : gFG} {f : gFF} {Q : Int32 → gFG → gFF → Prop} (hN : 1000 ≤ N) (h : Q (bi (decide (0 < (sm (f 43) 6).toInt))) g f) : wX0_isThere N g f Q := by
  unfold wX0_isThere
  refine q_total hN ?_
  simp only [le_I, z_0]
  by_cases h1 : 0 < (sm (f 43) 6).toInt
  · rw [decide_eq_true h1] at h
    exact ⟨fun c => by omega, fun _ => h⟩
  · rw [decide_eq_false h1] at h
    exact ⟨fun _ => h, fun c => by omega⟩
theorem ok_mixed {GC : gGC} (hG : GCok GC) {N : Nat} (hN : 1000 ≤ N) : ls_mixed N (InvP GC) := by
  intro n a gS fS gT fT wT hn hI
  have hI' := inv_same hG hI 0
  obtain ⟨⟨L, hL, e1, e2, hl⟩, ⟨-, i2⟩, -⟩ := hI
  have v1 : (gS 13).toInt = L := by rw [e1]; exact nI_I (by omega)
  have v2 : ((va_up gT 0 0) 15).toInt = L := by show (gT 15).toInt = L; rw [e2]; exact nI_I (by omega)
  unfold wX11_mixed
  refine q_isThere hN ?_
  rcases i2 with ⟨q1, q2⟩ | ⟨k, q1, q2, q3, q4, q5, q6⟩
  · rw [sm_0 q2]
    have e3 : (va_up gT 0 0) 21 = -1 := q1
    simp only [wX12_mixed, forall_eq, e3, le_I, z_m1, z_0, br1, br2]
    simp [hI', bi]
  · rw [sm_n q2 (fun i hi => (q4 i hi).2) q5]
    have e3 : (va_up gT 0 0) 21 = nI k := q3
    have e4 : decide (0 < (nI k).toInt) = true := decide_eq_true (by rw [nI_I (by omega)]; omega)
    have e5 : (0 : Int) ≤ (nI k).toInt := by rw [nI_I (by omega)]; omega
    rw [e4]
    simp only [wX12_mixed, forall_eq, e3, le_I, z_m1, z_0, br1, br2, e5, q_lhas, q_in, bi_0, l_I, sub1L, v2, z0L, lhB, v1, if_true, if_false, Bool.true_eq_false]
    by_cases h1 : a = -1
    · rw [if_pos h1]
      refine q_total hN ?_
      rw [sm_n q2 (fun i hi => (q4 i hi).2) q5]
      simp [h1, hI']
    · rw [if_neg h1]
      by_cases h2 : 0 ≤ a.toInt ∧ a.toInt < L
      · rw [decide_eq_true (show 0 ≤ a.toInt ∧ a.toInt < L ∧ a.toInt < 6 by omega), decide_eq_true (show 0 ≤ a.toInt ∧ a.toInt ≤ (L : Int) - 1 by omega)]
        have h4 : vp_in a 6 := by rw [in_I]; omega
        have h5 : a.toNatClampNeg < 6 := by show a.toInt.toNat < 6; omega
        simp only [wX0_unitsOf, br1, lt_I, le_I, z_0, z_6, if_neg h1, if_neg (show ¬ a.toInt < 0 by omega), if_neg (show ¬ 6 ≤ a.toInt by omega)]
        simp [h4, hI', (q4 _ h5).1]
      · rw [decide_eq_false (show ¬ (0 ≤ a.toInt ∧ a.toInt < L ∧ a.toInt < 6) by omega), decide_eq_false (show ¬ (0 ≤ a.toInt ∧ a.toInt ≤ (L : Int) - 1) by omega)]
        simp [h1, hI']
def tkf (m b : Nat → Int32) (x : Nat) : Nat → Int32 := fun i => if i < x then m i - b i else m i
theorem tkf_0 (m b : Nat → Int32) : tkf m b 0 = m := by funext i; simp [tkf]
theorem tkf_s (m b : Nat → Int32) (x : Nat) : upd (tkf m b x) x (m x - b x) = tkf m b (x + 1) := by
  funext i
  by_cases h : i = x
  · subst h; rw [upd_at]; simp [tkf]
  · rw [upd_ne _ _ h]
    simp only [tkf]
    by_cases h2 : i < x
    · rw [if_pos h2, if_pos (by omega)]
    · rw [if_neg h2, if_neg (by omega)]
theorem tkf_x (m b : Nat → Int32) (x : Nat) : tkf m b x x = m x := by simp [tkf]
theorem q_take {N L : Nat} {g : gFG} {f : gFF} {Q : Int32 → gFG → gFF → Prop} (hN : 1000 ≤ N) (hL : L ≤ 6) (hg : g 13 = nI L) (h : Q (sm (f 43) 6) g (va_up f 23 (tkf (f 23) (f 43) L))) : wX0_takeFromLots_l35 N Q N 0 g f := by
  have v1 : (g 13).toInt = L := by rw [hg]; exact nI_I (by omega)
  have hh := lpU (β := Unit) (fun n x _ => wX0_takeFromLots_l35 N Q n (nI x) g (va_up f 23 (tkf (f 23) (f 43) (if x < L then x else L)))) (fun _ _ => True) 6 ?_ ?_ 0 N () (by omega) (by omega) trivial
  · have e6 : (if 0 < L then 0 else L) = 0 := by split <;> omega
    simp only [e6, tkf_0, up_id] at hh
    exact hh
  · intro n b _
    unfold wX0_takeFromLots_l35
    refine ⟨fun _ => ?_, fun c => absurd (nI_le (Nat.le_refl 6) (by decide)) c⟩
    refine q_total hN ?_
    rw [if_neg (show ¬ 6 < L by omega)]
    exact h
  · intro n x b hx _ ih
    unfold wX0_takeFromLots_l35
    refine ⟨fun c => absurd c (nI_ge hx (by decide)), fun c => ⟨vp_in_nI (by omega) (by decide), ?_⟩⟩
    have hi := ih () trivial
    have hin : vp_in (nI x) 6 := vp_in_nI (by omega) (by decide)
    simp only [wX4_take, q_lhas, lhB, v1, br1, bi_0, forall_eq, nI_clamp (show x < 2 ^ 31 by omega), nI_I (show x < 2 ^ 31 by omega), nI_1]
    by_cases h2 : x < L
    · rw [decide_eq_true (show 0 ≤ (x : Int) ∧ (x : Int) < L ∧ (x : Int) < 6 by omega)]
      simp only [hin, true_and, Bool.true_eq_false, if_false, if_pos h2, up_s, up_n _ _ (show (43 : Nat) ≠ 23 by decide), tkf_x, tkf_s]
      rw [up_up]
      have e5 : (if x + 1 < L then x + 1 else L) = x + 1 := by split <;> omega
      rw [e5] at hi
      exact hi
    · rw [decide_eq_false (show ¬ (0 ≤ (x : Int) ∧ (x : Int) < L ∧ (x : Int) < 6) by omega)]
      simp only [if_true, if_neg h2]
      have e5 : (if x + 1 < L then x + 1 else L) = L := by split <;> omega
      rw [e5] at hi
      exact hi
theorem q_takeFrom {N L : Nat} {g : gFG} {f : gFF} {Q : Int32 → gFG → gFF → Prop} (hN : 1000 ≤ N) (hL : L ≤ 6) (hg : g 13 = nI L) (hz : ∀ i : Nat, i < 6 → L ≤ i → f 43 i = 0) (h1 : (∀ i, i < L → (f 43 i).toInt ≤ (f 23 i).toInt) → Q (sm (f 43) 6) g (va_up f 23 (tkf (f 23) (f 43) L))) (h2 : (¬ ∀ i, i < L → (f 43 i).toInt ≤ (f 23 i).toInt) → Q (-1) g f) : wX0_takeFromLots N g f Q := by
  have v1 : (g 13).toInt = L := by rw [hg]; exact nI_I (by omega)
  refine lpU (β := Unit) (fun n x _ => wX0_takeFromLots_l2 N Q n (nI x) g f) (fun x _ => ∀ i, i < x → i < L → (f 43 i).toInt ≤ (f 23 i).toInt) 6 ?_ ?_ 0 N () (by omega) (by omega) (fun i hi => absurd hi (by omega))
  · intro n b hb
    unfold wX0_takeFromLots_l2
    exact ⟨fun _ => q_take hN hL hg (h1 (fun i hi => hb i (by omega) hi)), fun c => absurd (nI_le (Nat.le_refl 6) (by decide)) c⟩
  · intro n x b hx hb ih
    unfold wX0_takeFromLots_l2
    refine ⟨fun c => absurd c (nI_ge hx (by decide)), fun c => ⟨vp_in_nI (by omega) (by decide), ?_⟩⟩
    simp only [q_unitsAt, lhB, v1, br1, forall_eq, nI_clamp (show x < 2 ^ 31 by omega), nI_I (show x < 2 ^ 31 by omega), nI_1, le_I]
    by_cases hxL : x < L
    · rw [decide_eq_true (show 0 ≤ (x : Int) ∧ (x : Int) < L ∧ (x : Int) < 6 by omega), if_pos rfl]
      by_cases h3 : (f 43 x).toInt ≤ (f 23 x).toInt
      · rw [if_pos h3]
        refine ih () (fun i hi hj => ?_)
        by_cases h4 : i = x
        · rw [h4]; exact h3
        · exact hb i (by omega) hj
      · rw [if_neg h3]
        exact h2 (fun q => h3 (q x hxL))
    · rw [decide_eq_false (show ¬ (0 ≤ (x : Int) ∧ (x : Int) < L ∧ (x : Int) < 6) by omega), hz x (by omega) (by omega), if_neg (show ¬ (false = true) by decide), if_pos (Int.le_refl _)]
      exact ih () (fun i hi hj => hb i (by omega) hj)
theorem q_pourM2 {N L : Nat} {v : Int32} {g : gFG} {f : gFF} {w : Int64} {Q : Int32 → gFG → gFF → Int64 → Prop} (hN : 1000 ≤ N) (hL : L ≤ 6) (hg : g 15 = nI L) (h : wX12_told N v g (va_up f 12 (tkf (f 12) (f 13) L)) w Q) : wX12_pour_l79 N v Q N 0 g f w := by
  have hh := lpU (β := Unit) (fun n x _ => wX12_pour_l79 N v Q n (nI x) g (va_up f 12 (tkf (f 12) (f 13) x)) w) (fun _ _ => True) L ?_ ?_ 0 N () (by omega) (by omega) trivial
  · simp only [tkf_0, up_id] at hh
    exact hh
  · intro n b _
    unfold wX12_pour_l79
    rw [hg]
    exact ⟨fun _ => h, fun c => absurd (nI_le (Nat.le_refl L) (by omega)) c⟩
  · intro n x b hx _ ih
    unfold wX12_pour_l79
    rw [hg]
    have hin : vp_in (nI x) 6 := vp_in_nI (by omega) (by decide)
    refine ⟨fun c => absurd c (nI_ge hx (by omega)), fun c => ?_⟩
    rw [nI_clamp (by omega)]
    simp only [hin, true_and, forall_eq, nI_1, up_s, up_n _ _ (show (13 : Nat) ≠ 12 by decide), tkf_x, tkf_s, up_up]
    exact ih () trivial
theorem q_pourM {N L : Nat} {v : Int32} {b : Bool} {g : gFG} {f : gFF} {w : Int64} {Q : Int32 → gFG → gFF → Int64 → Prop} (hN : 1000 ≤ N) (hL : L ≤ 6) (hg : g 15 = nI L) (h1 : b = true → (∀ i, i < L → (f 13 i).toInt ≤ (f 12 i).toInt) → wX12_told N v (va_up g 21 (-1)) (va_up f 12 (tkf (f 12) (f 13) L)) w Q) (h2 : (b = true → ¬ ∀ i, i < L → (f 13 i).toInt ≤ (f 12 i).toInt) → wX12_told N (-6) (va_up g 21 (-1)) f w Q) : wX12_pour_l22 N v Q N (bi b) 0 g f w := by
  refine lpU (β := Bool) (fun n x c => wX12_pour_l22 N v Q n (bi c) (nI x) g f w) (fun x c => c = true ↔ (b = true ∧ ∀ i, i < x → (f 13 i).toInt ≤ (f 12 i).toInt)) L ?_ ?_ 0 N b (by omega) (by omega) ⟨fun q => ⟨q, fun i hi => absurd hi (by omega)⟩, fun q => q.1⟩
  · intro n c hc
    unfold wX12_pour_l22
    rw [hg]
    refine ⟨fun _ => ?_, fun c => absurd (nI_le (Nat.le_refl L) (by omega)) c⟩
    simp only [forall_eq, br1, br2, bi_0]
    cases c with
    | true =>
      have hb := hc.mp rfl
      rw [if_neg (by decide)]
      exact q_pourM2 hN hL (by rw [up_n _ _ (by decide)]; exact hg) (h1 hb.1 hb.2)
    | false =>
      rw [if_pos rfl]
      exact h2 (fun q1 q2 => by have := hc.mpr ⟨q1, q2⟩; contradiction)
  · intro n x c hx hc ih
    unfold wX12_pour_l22 wX12_pour_j53 wX12_pour_j54
    rw [hg]
    have hin : vp_in (nI x) 6 := vp_in_nI (by omega) (by decide)
    refine ⟨fun c => absurd c (nI_ge hx (by omega)), fun _ => ?_⟩
    rw [nI_clamp (by omega)]
    simp only [hin, true_and, forall_eq, nI_1, br1, br2, bi_0, lt_I]
    cases c with
    | false =>
      rw [if_pos rfl]
      refine ih false ⟨fun q => by contradiction, fun q => hc.mpr ⟨q.1, fun i hi => q.2 i (by omega)⟩⟩
    | true =>
      have hb := hc.mp rfl
      rw [if_neg (by decide)]
      by_cases h3 : (f 12 x).toInt < (f 13 x).toInt
      · rw [if_pos h3]
        refine ih false ⟨fun q => by contradiction, fun q => absurd (q.2 x (by omega)) (by omega)⟩
      · rw [if_neg h3]
        refine ih true ⟨fun _ => ⟨hb.1, fun i hi => ?_⟩, fun _ => rfl⟩
        by_cases h4 : i = x
        · rw [h4]; omega
        · exact hb.2 i (by omega)
theorem ok_pour {GC : gGC} (hG : GCok GC) {N : Nat} (hN : 1000 ≤ N) : ls_pour N (InvP GC) := by
  intro n gS fS gT fT wT hn hI
  obtain ⟨⟨L, hL, e1, e2, hl⟩, ⟨i2r, i2⟩, i3, i4, i5, ⟨j6, j7⟩, j8⟩ := hI
  have v1 : (gS 13).toInt = L := by rw [e1]; exact nI_I (by omega)
  have fg : ∀ {gS' : gFG} {fS' : gFF} {gT' : gFG} {fT' : gFF}, (gS' 4 = gS 4 ∧ gS' 5 = gS 5 ∧ gS' 6 = gS 6 ∧ gS' 9 = gS 9 ∧ gS' 10 = gS 10 ∧ gS' 11 = gS 11 ∧ gS' 12 = gS 12) → (fS' 13 = fS 13 ∧ fS' 14 = fS 14 ∧ fS' 18 = fS 18 ∧ fS' 19 = fS 19 ∧ fS' 39 = fS 39 ∧ fS' 40 = fS 40 ∧ fS' 41 = fS 41 ∧ fS' 42 = fS 42) → (gT' 2 = gT 2 ∧ gT' 3 = gT 3 ∧ gT' 6 = gT 6) → (fT' 1 = fT 1 ∧ fT' 2 = fT 2) → GC (n + 1) gS' fS' gT' fT' := fun a b c d => GCk hG j8 a b c d
  unfold wX11_pour
  refine q_isThere hN ?_
  have e2' : (va_up gT 0 0) 15 = nI L := e2
  rcases i2 with ⟨q1, q2⟩ | ⟨k, q1, q2, q3, q4, q5, q6⟩
  · rw [sm_0 q2]
    have e3 : (va_up gT 0 0) 21 = -1 := q1
    simp only [wX12_pour, wX12_pour_j19, forall_eq, e3, lt_I, z_m1, z_0, br1, br2, q_answered, bi_0]
    refine q_pourM (b := false) hN hL e2' (fun q => by contradiction) (fun _ => ?_)
    rw [q_told]
    refine ⟨rfl, ⟨L, hL, e1, e2, hl⟩, ⟨i2r, Or.inl ⟨rfl, q2⟩⟩, i3, i4, i5, ⟨rfl, j7⟩, fg ⟨rfl, rfl, rfl, rfl, rfl, rfl, rfl⟩ ⟨rfl, rfl, rfl, rfl, rfl, rfl, rfl, rfl⟩ ⟨rfl, rfl, rfl⟩ ⟨rfl, rfl⟩⟩
  · rw [sm_n q2 (fun i hi => (q4 i hi).2) q5]
    have e3 : (va_up gT 0 0) 21 = nI k := q3
    have e4 : decide (0 < (nI k).toInt) = true := decide_eq_true (by rw [nI_I (by omega)]; omega)
    have e5 : ¬ (nI k).toInt < 0 := by rw [nI_I (by omega)]; omega
    have e7 : (0 : Int) ≤ (nI k).toInt := by rw [nI_I (by omega)]; omega
    have e8 : ¬ nI k = -1 := by rw [eq_I, nI_I (by omega), z_m1]; omega
    rw [e4]
    simp only [bi_0, br1, br2, Bool.true_eq_false, if_false]
    have hsame : (∀ i, i < L → (fS 43 i).toInt ≤ (fS 23 i).toInt) ↔ (∀ i, i < L → (fT 13 i).toInt ≤ (fT 12 i).toInt) := by
      constructor
      · intro q i hi
        rw [(q4 i (by omega)).1, (hl i hi).1.2.2.2]; exact q i hi
      · intro q i hi
        have := q i hi
        rw [(q4 i (by omega)).1, (hl i hi).1.2.2.2] at this; exact this
    refine q_takeFrom hN hL e1 (fun i hi hj => q6 i hi (by rw [v1]; omega)) (fun hf => ?_) (fun hf => ?_)
    · rw [sm_n q2 (fun i hi => (q4 i hi).2) q5]
      unfold wX0_clear
      refine q_fill hN (by decide) rfl (show lnC 43 = 6 from rfl) (by decide) ?_
      simp only [if_neg e8, wX11_pour_j44, q_answered, wX12_pour, wX12_pour_j19, forall_eq, e3, lt_I, z_0, br1, if_neg e5]
      refine q_pourM (b := true) hN hL e2' (fun _ _ => ?_) (fun q => absurd (hsame.mp hf) (q rfl))
      rw [q_told]
      refine ⟨rfl, ⟨L, hL, e1, e2, fun i hi => ?_⟩, ⟨i2r, Or.inl ⟨rfl, fun i hi => ?_⟩⟩, i3, i4, i5, ⟨rfl, j7⟩, fg ⟨rfl, rfl, rfl, rfl, rfl, rfl, rfl⟩ ⟨rfl, rfl, rfl, rfl, rfl, rfl, rfl, rfl⟩ ⟨rfl, rfl, rfl⟩ ⟨rfl, rfl⟩⟩
      · have r1 := hl i hi
        have r2 := q4 i (by omega)
        have r3 := hf i hi
        have r4 : (fS 23 i - fS 43 i).toInt = (fS 23 i).toInt - (fS 43 i).toInt := sub_I (by omega) (by omega)
        show (fT 9 i = fS 20 i ∧ fT 10 i = fS 21 i ∧ fT 11 i = fS 22 i ∧ tkf (fT 12) (fT 13) L i = tkf (fS 23) (fS 43) L i) ∧ _ ∧ _ ∧ _ ∧ 0 ≤ (tkf (fS 23) (fS 43) L i).toInt ∧ (tkf (fS 23) (fS 43) L i).toInt ≤ 40
        simp only [tkf, if_pos hi, r1.1.2.2.2, r2.1, r4]
        exact ⟨⟨r1.1.1, r1.1.2.1, r1.1.2.2.1, by trivial⟩, r1.2.1, r1.2.2.1, r1.2.2.2.1, by omega, by omega⟩
      · show fz _ 0 6 i = 0
        simp [fz, hi]
    · unfold wX0_clear
      refine q_fill hN (by decide) rfl (show lnC 43 = 6 from rfl) (by decide) ?_
      simp only [wX11_pour_j44, q_answered, wX12_pour, wX12_pour_j19, forall_eq, e3, lt_I, z_0, br1, if_neg e5, if_true]
      refine q_pourM (b := true) hN hL e2' (fun _ q => absurd (hsame.mpr q) hf) (fun _ => ?_)
      rw [q_told]
      refine ⟨rfl, ⟨L, hL, e1, e2, hl⟩, ⟨i2r, Or.inl ⟨rfl, fun i hi => ?_⟩⟩, i3, i4, i5, ⟨rfl, j7⟩, fg ⟨rfl, rfl, rfl, rfl, rfl, rfl, rfl⟩ ⟨rfl, rfl, rfl, rfl, rfl, rfl, rfl, rfl⟩ ⟨rfl, rfl, rfl⟩ ⟨rfl, rfl⟩⟩
      show fz _ 0 6 i = 0
      simp [fz, hi]
