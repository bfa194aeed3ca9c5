/-! the invariant, by modules -/
def IL (l l' : Int32) (t e p u t' e' p' u' : Nat → Int32) : Prop := ∃ L : Nat, L ≤ 6 ∧ l = nI L ∧ l' = nI L ∧ ∀ i, i < L → (t' i = t i ∧ e' i = e i ∧ p' i = p i ∧ u' i = u i) ∧ (0 ≤ (t i).toInt ∧ (t i).toInt ≤ 1000) ∧ (0 ≤ (e i).toInt ∧ (t i).toInt + (e i).toInt ≤ 1000) ∧ (0 ≤ (p i).toInt ∧ (p i).toInt ≤ 1000) ∧ 0 ≤ (u i).toInt ∧ (u i).toInt ≤ 40
def IB (l ku : Int32) (bu kp rw : Nat → Int32) : Prop := (∀ i : Nat, i < 6 → 2 ≤ i → l.toInt ≤ (i : Int) → rw i = 0) ∧ ((ku = -1 ∧ ∀ i, i < 6 → bu i = 0) ∨ ∃ n : Nat, 1 ≤ n ∧ n ≤ 40 ∧ ku = nI n ∧ (∀ i, i < 6 → kp i = bu i ∧ 0 ≤ (bu i).toInt ∧ (bu i).toInt ≤ 40) ∧ (bu 0).toInt + (bu 1).toInt + (bu 2).toInt + (bu 3).toInt + (bu 4).toInt + (bu 5).toInt = (n : Int) ∧ ∀ i : Nat, i < 6 → l.toInt ≤ (i : Int) → bu i = 0)
def IT (t t' : Int32) (b b' : Nat → Int32) : Prop := ∃ n : Nat, n ≤ 300 ∧ t = nI n ∧ t' = nI n ∧ ∀ i, i < n → b' i = b i ∧ 0 ≤ (b i).toInt ∧ (b i).toInt ≤ 255
def IR1 (l l' : Int32) (k a c k' a' c' : Nat → Int32) : Prop := ∃ r : Nat, r ≤ 20 ∧ l = nI r ∧ l' = nI r ∧ ∀ i, i < r → (k' i = k i ∧ a' i = a i ∧ c' i = c i) ∧ (0 ≤ (k i).toInt ∧ (k i).toInt ≤ 8) ∧ (0 ≤ (a i).toInt ∧ (a i).toInt ≤ 1000) ∧ 0 ≤ (c i).toInt ∧ (c i).toInt ≤ 1000
def IR (b d l0 l1 : Int32) (k0 a0 c0 k1 a1 c1 : Nat → Int32) (l' : Int32) (k' a' c' : Nat → Int32) : Prop := (b = 0 ∧ d = 1 ∧ IR1 l0 l' k0 a0 c0 k' a' c') ∨ (b = 1 ∧ d = 0 ∧ IR1 l1 l' k1 a1 c1 k' a' c')
def IV (v v' t t' : Int32) (m m' tv tv' tw tw' ty ty' : Nat → Int32) : Prop := ∃ V T : Nat, V ≤ 40 ∧ T ≤ 150 ∧ v = nI V ∧ v' = nI V ∧ t = nI T ∧ t' = nI T ∧ (∀ k, k < 8 * V → m' k = m k ∧ 0 ≤ (m k).toInt ∧ (m k).toInt ≤ 9) ∧ ∀ i, i < T → (tv' i = tv i ∧ tw' i = tw i ∧ ty' i = ty i) ∧ (0 ≤ (tv i).toInt ∧ (tv i).toInt < V) ∧ (-1 ≤ (tw i).toInt ∧ (tw i).toInt ≤ 7) ∧ 0 ≤ (ty i).toInt ∧ (ty i).toInt ≤ 3000
abbrev gGC : Type := Nat → gFG → gFF → gFG → gFF → Prop
def InvP (GC : gGC) (n : Nat) (gS : gFG) (fS : gFF) (gT : gFG) (fT : gFF) (_ : Int64) : Prop :=
  IL (gS 13) (gT 15) (fS 20) (fS 21) (fS 22) (fS 23) (fT 9) (fT 10) (fT 11) (fT 12) ∧ IB (gS 13) (gT 21) (fS 43) (fT 13) (fS 29) ∧ IT (gS 18) (gT 31) (fS 44) (fT 20) ∧
  IR (gS 2) (gS 3) (gS 23) (gS 24) (fS 45) (fS 46) (fS 47) (fS 48) (fS 49) (fS 50) (gT 24) (fT 16) (fT 17) (fT 18) ∧
  IV (gS 21) (gT 38) (gS 22) (gT 40) (fS 51) (fT 21) (fS 52) (fT 22) (fS 53) (fT 23) (fS 54) (fT 24) ∧ (gT 1 = gS 1 ∧ gT 36 = gS 0) ∧ GC n gS fS gT fT
/-- what is asked of the grid's part: it may be counted on, it reads its own places alone, the sides are alike -/
def GCok (GC : gGC) : Prop := (∀ n gS fS gT fT, GC n gS fS gT fT → GC (n + 1) gS fS gT fT) ∧
  (∀ n gS fS gT fT gS' fS' gT' fT', (gS' 4 = gS 4 ∧ gS' 5 = gS 5 ∧ gS' 6 = gS 6 ∧ gS' 9 = gS 9 ∧ gS' 10 = gS 10 ∧ gS' 11 = gS 11 ∧ gS' 12 = gS 12) → (fS' 13 = fS 13 ∧ fS' 14 = fS 14 ∧ fS' 18 = fS 18 ∧ fS' 19 = fS 19 ∧ fS' 39 = fS 39 ∧ fS' 40 = fS 40 ∧ fS' 41 = fS 41 ∧ fS' 42 = fS 42) → (gT' 2 = gT 2 ∧ gT' 3 = gT 3 ∧ gT' 6 = gT 6) → (fT' 1 = fT 1 ∧ fT' 2 = fT 2) → GC n gS fS gT fT → GC n gS' fS' gT' fT') ∧
  ∀ n gS fS gT fT, GC n gS fS gT fT → gT 2 = gS 4 ∧ gT 3 = gS 5
theorem GCk {GC : gGC} (h : GCok GC) {n : Nat} {gS : gFG} {fS : gFF} {gT : gFG} {fT : gFF} {gS' : gFG} {fS' : gFF} {gT' : gFG} {fT' : gFF} (hc : GC n gS fS gT fT) (h1 : gS' 4 = gS 4 ∧ gS' 5 = gS 5 ∧ gS' 6 = gS 6 ∧ gS' 9 = gS 9 ∧ gS' 10 = gS 10 ∧ gS' 11 = gS 11 ∧ gS' 12 = gS 12) (h2 : fS' 13 = fS 13 ∧ fS' 14 = fS 14 ∧ fS' 18 = fS 18 ∧ fS' 19 = fS 19 ∧ fS' 39 = fS 39 ∧ fS' 40 = fS 40 ∧ fS' 41 = fS 41 ∧ fS' 42 = fS 42) (h3 : gT' 2 = gT 2 ∧ gT' 3 = gT 3 ∧ gT' 6 = gT 6) (h4 : fT' 1 = fT 1 ∧ fT' 2 = fT 2) : GC (n + 1) gS' fS' gT' fT' := h.2.1 _ _ _ _ _ _ _ _ _ h1 h2 h3 h4 (h.1 _ _ _ _ _ hc)
theorem ok_skip {GC : gGC} (hG : GCok GC) : ∀ (n : Nat) (gS : gFG) (fS : gFF) (gT : gFG) (fT : gFF) (wT : Int64), InvP GC n gS fS gT fT wT → InvP GC (n + 1) gS fS gT fT wT := fun n gS fS gT fT wT h => ⟨h.1, h.2.1, h.2.2.1, h.2.2.2.1, h.2.2.2.2.1, h.2.2.2.2.2.1, hG.1 _ _ _ _ _ h.2.2.2.2.2.2⟩
theorem ok_status {GC : gGC} (hG : GCok GC) (N : Nat) : ls_status N (InvP GC) := by
  intro n gS fS gT fT wT hn hI
  obtain ⟨i1, i2, i3, i4, i5, ⟨i6, i7⟩, i8⟩ := hI
  simp only [wX11_status, wX12_status, forall_eq]
  exact ⟨i6.symm, i1, i2, i3, i4, i5, ⟨i6, i7⟩, GCk hG i8 ⟨rfl, rfl, rfl, rfl, rfl, rfl, rfl⟩ ⟨rfl, rfl, rfl, rfl, rfl, rfl, rfl, rfl⟩ ⟨rfl, rfl, rfl⟩ ⟨rfl, rfl⟩⟩
theorem ok_fault {GC : gGC} (hG : GCok GC) (N : Nat) : ls_fault N (InvP GC) := by
  intro n gS fS gT fT wT hn hI
  obtain ⟨i1, i2, i3, i4, i5, ⟨i6, i7⟩, i8⟩ := hI
  simp only [wX11_fault, wX12_fault, forall_eq]
  exact ⟨i7.symm, i1, i2, i3, i4, i5, ⟨i6, i7⟩, GCk hG i8 ⟨rfl, rfl, rfl, rfl, rfl, rfl, rfl⟩ ⟨rfl, rfl, rfl, rfl, rfl, rfl, rfl, rfl⟩ ⟨rfl, rfl, rfl⟩ ⟨rfl, rfl⟩⟩
