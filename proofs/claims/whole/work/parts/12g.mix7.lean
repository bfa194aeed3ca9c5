/-! the model's mix -/
theorem Fe_c {n a b c : Nat} {T E U r r' : Nat → Nat} (e : ∀ i, i < 6 → r i = r' i) (h : Fe n a b c T E U r) : Fe n a b c T E U r' := by
  have s1 : ∀ w : Nat → Nat, sw w r 6 = sw w r' 6 := fun w => su_c (fun i hi => by rw [e i hi])
  obtain ⟨h1, h2, h3, h4, h5⟩ := h
  exact ⟨fun i hi => by rw [← e i hi]; exact h1 i hi, by rw [← su_c e]; exact h2, by rw [← s1]; exact h3, by rw [← s1]; exact h4, by rw [← s1]; exact h5⟩
/-- what the model has read of the lots -/
def LM (L : Nat) (P T E U : Nat → Nat) (f : gFF) : Prop := (∀ i, i < L → f 11 i = nI (P i) ∧ f 9 i = nI (T i) ∧ f 10 i = nI (E i) ∧ f 12 i = nI (U i)) ∧ (∀ i, i < 6 → P i ≤ 1000 ∧ T i ≤ 1000 ∧ E i ≤ 1000 ∧ U i ≤ 40) ∧ ∀ i, L ≤ i → U i = 0
theorem LM_f {L : Nat} {P T E U : Nat → Nat} {f f' : gFF} (h : LM L P T E U f) (e9 : f' 9 = f 9) (e10 : f' 10 = f 10) (e11 : f' 11 = f 11) (e12 : f' 12 = f 12) : LM L P T E U f' := by
  unfold LM
  rw [e9, e10, e11, e12]; exact h
theorem q_priceOf {N n a b c L : Nat} {P T E U r : Nat → Nat} {g : gFG} {f : gFF} {w : Int64} {Q : Int32 → gFG → gFF → Int64 → Prop} (hN : 1000 ≤ N) (hn : n ≤ 40) (ha : a ≤ 1000) (hb : b ≤ 1000) (hc : c ≤ 1000) (hL : L ≤ 6) (h15 : g 15 = nI L) (hM : LM L P T E U f) (hr : ∀ i, i < L → f 14 i = nI (r i)) (hr0 : ∀ i, L ≤ i → i < 6 → r i = 0) (hrU : ∀ i, i < 6 → r i ≤ U i) (hsum : su r 6 = n) (h1 : Fe n a b c T E U r → Q (nI (sw P r 6)) g f w) (h0 : ¬ Fe n a b c T E U r → Q (-1) g f w) : wX12_priceOf N (nI n) (nI a) (nI b) (nI c) g f w Q := by
  have mI : ∀ a b : Nat, nI a * nI b = nI (a * b) := fun a b => (Int32.ofNat_mul a b).symm
  have z : su r 6 = su r L := su_z hL hr0
  have zw : ∀ w : Nat → Nat, sw w r 6 = sw w r L := fun w => su_z hL (fun i h1 h2 => by rw [hr0 i h1 h2, Nat.zero_mul])
  have bT : sw T r L ≤ 40000 := by have := sw_le (w := T) (r := r) (x := L) (fun i hi => (hM.2.1 i (by omega)).2.1); omega
  have bE : sw E r L ≤ 40000 := by have := sw_le (w := E) (r := r) (x := L) (fun i hi => (hM.2.1 i (by omega)).2.2.1); omega
  have ban : a * n ≤ 40000 := by have := Nat.mul_le_mul ha hn; omega
  have bbn : b * n ≤ 40000 := by have := Nat.mul_le_mul hb hn; omega
  have bcn : c * n ≤ 40000 := by have := Nat.mul_le_mul hc hn; omega
  unfold wX12_priceOf
  refine lpU (β := Unit) (fun fu x _ => wX12_priceOf_l15 N (nI n) (nI a) (nI b) (nI c) Q fu (nI (su r x)) (nI (sw T r x)) (nI (sw E r x)) (nI (sw P r x)) (nI x) g f w) (fun _ _ => True) L ?_ ?_ 0 N () (by omega) (by omega) trivial
  · intro fu _ _
    unfold wX12_priceOf_l15
    rw [h15, mI, mI, mI]
    refine ⟨fun _ => ⟨fun q => absurd (by rw [← z, hsum]) q, fun _ => ⟨fun q => ?_, fun q => ⟨fun q2 => ?_, fun q2 => ⟨fun q3 => ?_, fun q3 => ?_⟩⟩⟩⟩, fun q => absurd (nI_le (Nat.le_refl L) (by omega)) q⟩
    · rw [nI_ltI (by omega) (by omega)] at q
      exact h0 (fun hF => by have := hF.2.2.1; rw [zw T] at this; omega)
    · rw [nI_ltI (by omega) (by omega)] at q2
      exact h0 (fun hF => by have := hF.2.2.2.1; rw [zw T] at this; omega)
    · rw [nI_ltI (by omega) (by omega)] at q3
      exact h0 (fun hF => by have := hF.2.2.2.2; rw [zw E] at this; omega)
    · rw [nI_ltI (by omega) (by omega)] at q q2 q3
      have := h1 ⟨hrU, hsum, by rw [zw T]; omega, by rw [zw T]; omega, by rw [zw E]; omega⟩
      rw [zw P] at this
      exact this
  · intro fu x _ hx _ ih
    obtain ⟨k1, k2, k3, -⟩ := hM.1 x hx
    have v7 : vp_in (nI x) 7 := vp_in_nI (by omega) (by decide)
    have v6 : vp_in (nI x) 6 := vp_in_nI (by omega) (by decide)
    unfold wX12_priceOf_l15
    rw [h15, nI_clamp (show x < 2 ^ 31 by omega), hr x hx, k1, k2, k3]
    simp only [mI, nI_add, nI_1]
    refine ⟨fun q => absurd q (nI_ge hx (by omega)), fun _ => ⟨v7, ?_⟩⟩
    rintro _ rfl
    refine ⟨v7, v6, ?_⟩
    rintro _ rfl
    refine ⟨v7, v6, ?_⟩
    rintro _ rfl
    refine ⟨v7, v6, ?_⟩
    rintro _ rfl _ rfl
    exact ih () trivial
def BM (F : (Nat → Nat) → Prop) (prc : (Nat → Nat) → Nat) (L : Nat) (D : (Nat → Nat) → Prop) (v : Int32) (best : Nat → Int32) : Prop := (v = -1 ∧ ∀ r, D r → ¬ F r) ∨ (∃ r, Bst F prc D r ∧ v = nI (prc r) ∧ ∀ i, i < L → best i = nI (r i))
theorem BM_c {F : (Nat → Nat) → Prop} {prc : (Nat → Nat) → Nat} {L : Nat} {D D' : (Nat → Nat) → Prop} {v : Int32} {best : Nat → Int32} (h : BM F prc L D v best) (e : ∀ r, F r → (D r ↔ D' r)) : BM F prc L D' v best := by
  rcases h with ⟨a1, a2⟩ | ⟨r, ⟨b1, b2, b3⟩, a2⟩
  · exact Or.inl ⟨a1, fun r hr hF => a2 r ((e r hF).mpr hr) hF⟩
  · exact Or.inr ⟨r, ⟨(e r b2).mp b1, b2, fun r' h1 h2 => b3 r' ((e r' h2).mpr h1) h2⟩, a2⟩
def vl (p : Nat → Nat) : Nat := p 0 * 2825761 + p 1 * 68921 + p 2 * 1681 + p 3 * 41 + p 4
def np (p : Nat → Nat) (l : Nat) : Nat → Nat := fun i => if i < l then p i else if i = l then p l + 1 else 0
theorem vl_lt {p : Nat → Nat} {l : Nat} (hl : l ≤ 4) (h : ∀ i, p i ≤ 40) : vl p < vl (np p l) := by
  have h0 := h 0
  have h1 := h 1
  have h2 := h 2
  have h3 := h 3
  have h4 := h 4
  have : l = 0 ∨ l = 1 ∨ l = 2 ∨ l = 3 ∨ l = 4 := by omega
  unfold vl
  rcases this with rfl | rfl | rfl | rfl | rfl <;> simp [np] <;> omega
theorem vl_r {p : Nat → Nat} (h : ∀ i, p i ≤ 40) : vl p ≤ 115856200 := by
  have h0 := h 0
  have h1 := h 1
  have h2 := h 2
  have h3 := h 3
  have h4 := h 4
  unfold vl; omega
/-- the row that a beginning has -/
def rr (p : Nat → Nat) (k left : Nat) : Nat → Nat := fun i => if i < k then p i else if i = k then left else 0
theorem rr_su (p : Nat → Nat) (k left : Nat) (hk : k < 6) : su (rr p k left) 6 = su p k + left := by
  have e1 : su (rr p k left) 6 = su (rr p k left) (k + 1) := su_z (by omega) (fun i h1 h2 => by unfold rr; rw [if_neg (by omega), if_neg (by omega)])
  have e2 : su (rr p k left) k = su p k := su_c (fun i hi => by unfold rr; rw [if_pos hi])
  rw [e1]
  show su (rr p k left) k + rr p k left k = _
  rw [e2]
  unfold rr
  rw [if_neg (by omega), if_pos rfl]
/-- between a beginning and the next there is none -/
theorem np_no {n a b c k l : Nat} {T E U p r : Nat → Nat} (hk : k < 6) (hlk : l < k) (hz : ∀ i, l < i → i < k → p i = U i ∨ n ≤ su p (i + 1)) (hF : Fe n a b c T E U r) : Bf (np p l) k r ↔ Bf p k r ∨ Ag p k r := by
  obtain ⟨f1, f2, -⟩ := hF
  have hnp : ∀ i, np p l i = if i < l then p i else if i = l then p l + 1 else 0 := fun _ => rfl
  -- above a zeroed place
  have above : ∀ i, l < i → i < k → (∀ j, j < i → r j = p j) → ¬ p i < r i := by
    intro i h1 h2 h3 h4
    rcases hz i h1 h2 with e | e
    · have := f1 i (by omega); omega
    · have e1 : su r (i + 1) = su r i + r i := rfl
      have e2 : su p (i + 1) = su p i + p i := rfl
      have e3 : su r i = su p i := su_c h3
      have := su_mono r (show i + 1 ≤ 6 by omega)
      omega
  -- agreeing up to l, below or alike behind
  have tail : (∀ j, j ≤ l → r j = p j) → Bf p k r ∨ Ag p k r := by
    intro h
    have key : ∀ m, l + 1 + m ≤ k → (∀ j, j < l + 1 + m → r j = p j) ∨ Bf p k r := by
      intro m
      induction m with
      | zero => intro _; exact Or.inl (fun j hj => h j (by omega))
      | succ m ih =>
        intro hm
        rcases ih (by omega) with q | q
        · rcases Nat.lt_trichotomy (r (l + 1 + m)) (p (l + 1 + m)) with d | d | d
          · exact Or.inr ⟨l + 1 + m, by omega, q, d⟩
          · refine Or.inl (fun j hj => ?_)
            by_cases e : j = l + 1 + m
            · rw [e]; exact d
            · exact q j (by omega)
          · exact absurd d (above _ (by omega) (by omega) q)
        · exact Or.inr q
    rcases key (k - (l + 1)) (by omega) with q | q
    · exact Or.inr (fun j hj => q j (by omega))
    · exact Or.inl q
  constructor
  · rintro ⟨i, h1, h2, h3⟩
    rw [hnp] at h3
    by_cases c1 : i < l
    · rw [if_pos c1] at h3
      exact Or.inl ⟨i, h1, fun j hj => by rw [h2 j hj, hnp, if_pos (by omega)], h3⟩
    · rw [if_neg c1] at h3
      by_cases c2 : i = l
      · rw [if_pos c2] at h3
        have hlt : ∀ j, j < l → r j = p j := fun j hj => by rw [h2 j (by omega), hnp, if_pos hj]
        by_cases c3 : r l = p l
        · refine tail (fun j hj => ?_)
          by_cases e : j = l
          · rw [e]; exact c3
          · exact hlt j (by omega)
        · exact Or.inl ⟨l, by omega, hlt, by rw [c2] at h3; omega⟩
      · rw [if_neg c2] at h3; omega
  · rintro (⟨i, h1, h2, h3⟩ | h)
    · by_cases c1 : i < l
      · exact ⟨i, h1, fun j hj => by rw [h2 j hj, hnp, if_pos (by omega)], by rw [hnp, if_pos c1]; exact h3⟩
      · by_cases c2 : i = l
        · exact ⟨i, h1, fun j hj => by rw [h2 j hj, hnp, if_pos (by omega)], by rw [hnp, if_neg c1, if_pos c2, ← c2]; omega⟩
        · exact ⟨l, by omega, fun j hj => by rw [h2 j (by omega), hnp, if_pos hj], by rw [hnp, if_neg (by omega), if_pos rfl, h2 l (by omega)]; omega⟩
    · exact ⟨l, by omega, fun j hj => by rw [h j (by omega), hnp, if_pos hj], by rw [hnp, if_neg (by omega), if_pos rfl, h l (by omega)]; omega⟩
theorem np_end {n a b c k : Nat} {T E U p r : Nat → Nat} (hk : k < 6) (hz : ∀ i, i < k → p i = U i ∨ n ≤ su p (i + 1)) (hF : Fe n a b c T E U r) : Bf p k r ∨ Ag p k r := by
  obtain ⟨f1, f2, -⟩ := hF
  have key : ∀ m, m ≤ k → (∀ j, j < m → r j = p j) ∨ Bf p k r := by
    intro m
    induction m with
    | zero => intro _; exact Or.inl (fun j hj => absurd hj (by omega))
    | succ m ih =>
      intro hm
      rcases ih (by omega) with q | q
      · rcases Nat.lt_trichotomy (r m) (p m) with d | d | d
        · exact Or.inr ⟨m, by omega, q, d⟩
        · refine Or.inl (fun j hj => ?_)
          by_cases e : j = m
          · rw [e]; exact d
          · exact q j (by omega)
        · exfalso
          rcases hz m (by omega) with e | e
          · have := f1 m (by omega); omega
          · have e1 : su r (m + 1) = su r m + r m := rfl
            have e2 : su p (m + 1) = su p m + p m := rfl
            have e3 : su r m = su p m := su_c q
            have := su_mono r (show m + 1 ≤ 6 by omega)
            omega
      · exact Or.inr q
  rcases key k (Nat.le_refl _) with q | q
  · exact Or.inr q
  · exact Or.inl q
