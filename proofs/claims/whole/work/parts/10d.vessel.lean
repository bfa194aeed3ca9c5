/-! vessels: marks, likeness -/
def mput (m : Nat → Int32) (V R j : Nat) : Nat → Int32 := fun i => if 8 * V ≤ i ∧ i < 8 * V + j then nI (R / 10 ^ (i - 8 * V) % 10) else m i
theorem mput_0 (m : Nat → Int32) (V R : Nat) : mput m V R 0 = m := by
  funext i
  unfold mput
  rw [if_neg (by omega)]
theorem mput_s (m : Nat → Int32) (V R j : Nat) : upd (mput m V R j) (8 * V + j) (nI (R / 10 ^ j % 10)) = mput m V R (j + 1) := by
  funext i
  by_cases h : i = 8 * V + j
  · subst h
    rw [upd_at]
    unfold mput
    rw [if_pos (by omega), Nat.add_sub_cancel_left]
  · rw [upd_ne _ _ h]
    unfold mput
    by_cases h2 : 8 * V ≤ i ∧ i < 8 * V + j
    · rw [if_pos h2, if_pos (by omega)]
    · rw [if_neg h2, if_neg (by omega)]
theorem up_id {α : Type} (f : Nat → α) (k : Nat) : va_up f k (f k) = f := by
  funext j
  unfold va_up
  split
  · next h => rw [h]
  · rfl
theorem up_up {α : Type} (f : Nat → α) (k : Nat) (a b : α) : va_up (va_up f k a) k b = va_up f k b := bx_uu f k a b
theorem dg_1 {R x : Nat} (h : R < 2 ^ 31) : nI (R / 10 ^ x) - nI (R / 10 ^ x) / 10 * 10 = nI (R / 10 ^ x % 10) := pk_rem (Nat.lt_of_le_of_lt (Nat.div_le_self _ _) h) (by decide) (by decide)
theorem dg_2 {R x : Nat} (h : R < 2 ^ 31) : nI (R / 10 ^ x) / 10 = nI (R / 10 ^ (x + 1)) := by
  have h1 : nI (R / 10 ^ x) / nI 10 = nI (R / 10 ^ x / 10) := pk_div (Nat.lt_of_le_of_lt (Nat.div_le_self _ _) h) (by decide) (by decide)
  rw [Nat.div_div_eq_div_mul, ← Nat.pow_succ] at h1
  exact h1
theorem q_vadd {N V R : Nat} {g : gFG} {f : gFF} {Q : Int32 → gFG → gFF → Prop} (hN : 100 ≤ N) (hV : V < 40) (hg : g 21 = nI V) (hR : R < 2 ^ 31) (h : Q (nI V) (va_up g 21 (nI (V + 1))) (va_up f 51 (mput (f 51) V R 8))) : wX10_add_l13 N Q N (nI R) 0 g f := by
  have key := dn (W := 8) (P := fun x => ∀ n, 8 - x < n → wX10_add_l13 N Q n (nI (R / 10 ^ x)) (nI x) g (va_up f 51 (mput (f 51) V R x))) ?_ ?_ 0 (by omega) N (by omega)
  · rw [mput_0, up_id, Nat.pow_zero, Nat.div_one] at key
    exact key
  · intro n hn
    obtain ⟨n, rfl⟩ : ∃ k, n = k + 1 := ⟨n - 1, by omega⟩
    unfold wX10_add_l13
    refine ⟨fun c => ?_, fun c => absurd (show (8 : Int32) ≤ nI 8 by decide) c⟩
    rintro _ rfl _ rfl
    rw [hg, nI_1, up_s]
    have e : nI (V + 1) - 1 = nI V := nI_pred V
    rw [e]
    exact h
  · intro x hx ih n hn
    obtain ⟨n, rfl⟩ : ∃ k, n = k + 1 := ⟨n - 1, by omega⟩
    unfold wX10_add_l13
    refine ⟨fun c => absurd c (nI_ge (a := x) (b := 8) hx (by decide)), fun c => ?_⟩
    rintro _ rfl _ rfl
    have e1 : g 21 * 8 + nI x = nI (8 * V + x) := by
      rw [hg, show (8 : Int32) = nI 8 from rfl, pk_mul, nI_add, Nat.mul_comm]
    rw [e1]
    refine ⟨vp_in_nI (by omega) (by decide), ?_⟩
    rintro _ rfl _ rfl _ rfl
    rw [nI_clamp (by omega), up_s, up_up, dg_1 hR, mput_s, dg_2 hR, nI_1]
    exact ih n (by omega)
theorem q_vaddM {N V R : Nat} {g : gFG} {f : gFF} {w : Int64} {Q : Int32 → gFG → gFF → Int64 → Prop} (hN : 100 ≤ N) (hV : V < 40) (hg : g 38 = nI V) (hR : R < 2 ^ 31) (h : wX12_told N (nI V) (va_up g 38 (nI (V + 1))) (va_up f 21 (mput (f 21) V R 8)) w Q) : wX12_vessel_l43 N Q N (nI R) 0 g f w := by
  have key := dn (W := 8) (P := fun x => ∀ n, 8 - x < n → wX12_vessel_l43 N Q n (nI (R / 10 ^ x)) (nI x) g (va_up f 21 (mput (f 21) V R x)) w) ?_ ?_ 0 (by omega) N (by omega)
  · rw [mput_0, up_id, Nat.pow_zero, Nat.div_one] at key
    exact key
  · intro n hn
    obtain ⟨n, rfl⟩ : ∃ k, n = k + 1 := ⟨n - 1, by omega⟩
    unfold wX12_vessel_l43
    refine ⟨fun c => ?_, fun c => absurd (show (8 : Int32) ≤ nI 8 by decide) c⟩
    rintro _ rfl _ rfl
    rw [hg, nI_1, up_s]
    have e : nI (V + 1) - 1 = nI V := nI_pred V
    rw [e]
    exact h
  · intro x hx ih n hn
    obtain ⟨n, rfl⟩ : ∃ k, n = k + 1 := ⟨n - 1, by omega⟩
    unfold wX12_vessel_l43
    refine ⟨fun c => absurd c (nI_ge (a := x) (b := 8) hx (by decide)), fun c => ?_⟩
    rintro _ rfl _ rfl
    have e1 : 8 * g 38 + nI x = nI (8 * V + x) := by
      rw [hg, show (8 : Int32) = nI 8 from rfl, pk_mul, nI_add]
    rw [e1]
    refine ⟨vp_in_nI (by omega) (by decide), ?_⟩
    rintro _ rfl _ rfl _ rfl
    rw [nI_clamp (by omega), up_s, up_up, dg_1 hR, mput_s, dg_2 hR, nI_1]
    exact ih n (by omega)
/-- likeness: the sum of the first x marks -/
def lkt (m : Nat → Int32) (a b k : Nat) : Int32 := if m (8 * a + k) = 0 ∨ m (8 * b + k) = 0 then 0 else if m (8 * a + k) = m (8 * b + k) then 1 else -1
def lks (m : Nat → Int32) (a b : Nat) : Nat → Int32
  | 0 => 0
  | k + 1 => lks m a b k + lkt m a b k
theorem lkt_sym (m : Nat → Int32) (a b k : Nat) : lkt m a b k = lkt m b a k := by
  unfold lkt
  by_cases h1 : m (8 * a + k) = 0
  · simp [h1]
  · by_cases h2 : m (8 * b + k) = 0
    · simp [h2]
    · by_cases h3 : m (8 * a + k) = m (8 * b + k)
      · simp [h1, h2, h3]
      · simp [h1, h2, h3, Ne.symm h3]
theorem lks_sym (m : Nat → Int32) (a b : Nat) : ∀ k, lks m a b k = lks m b a k
  | 0 => rfl
  | k + 1 => by rw [lks, lks, lks_sym m a b k, lkt_sym]
theorem lks_cong {m m' : Nat → Int32} {a b V : Nat} (ha : a < V) (hb : b < V) (h : ∀ k, k < 8 * V → m' k = m k) : ∀ k, k ≤ 8 → lks m' a b k = lks m a b k
  | 0, _ => rfl
  | k + 1, hk => by rw [lks, lks, lks_cong ha hb h k (by omega), lkt, lkt, h _ (by omega), h _ (by omega)]
theorem q_lik {N a b : Nat} {g : gFG} {f : gFF} {Q : Int32 → gFG → gFF → Prop} (hN : 100 ≤ N) (ha : a < 40) (hb : b < 40) (h : Q (lks (f 51) a b 8) g f) : wX10_likeness_l23 N (nI a) (nI b) Q N 0 0 g f := by
  have key := dn (W := 8) (P := fun x => ∀ n, 8 - x < n → wX10_likeness_l23 N (nI a) (nI b) Q n (lks (f 51) a b x) (nI x) g f) ?_ ?_ 0 (by omega) N (by omega)
  · exact key
  · intro n hn
    obtain ⟨n, rfl⟩ : ∃ k, n = k + 1 := ⟨n - 1, by omega⟩
    unfold wX10_likeness_l23
    exact ⟨fun c => h, fun c => absurd (show (8 : Int32) ≤ nI 8 by decide) c⟩
  · intro x hx ih n hn
    obtain ⟨n, rfl⟩ : ∃ k, n = k + 1 := ⟨n - 1, by omega⟩
    unfold wX10_likeness_l23
    refine ⟨fun c => absurd c (nI_ge (a := x) (b := 8) hx (by decide)), fun c => ?_⟩
    rintro _ rfl
    have e1 : nI a * 8 + nI x = nI (8 * a + x) := by
      rw [show (8 : Int32) = nI 8 from rfl, pk_mul, nI_add, Nat.mul_comm]
    have e2 : nI b * 8 + nI x = nI (8 * b + x) := by
      rw [show (8 : Int32) = nI 8 from rfl, pk_mul, nI_add, Nat.mul_comm]
    rw [e1]
    refine ⟨vp_in_nI (by omega) (by decide), ?_⟩
    rintro _ rfl _ rfl
    rw [e2]
    refine ⟨vp_in_nI (by omega) (by decide), ?_⟩
    rintro _ rfl
    rw [nI_clamp (by omega), nI_clamp (by omega)]
    have st := ih n (by omega)
    rw [lks, lkt] at st
    unfold wX10_likeness_j83 wX10_likeness_j81 wX10_likeness_j83
    simp only [forall_eq, nI_1, br1, br2]
    by_cases h1 : f 51 (8 * a + x) = 0
    · rw [if_pos (Or.inl h1), Int32.add_zero] at st
      rw [if_pos h1]; exact st
    rw [if_neg h1]
    by_cases h2 : f 51 (8 * b + x) = 0
    · rw [if_pos (Or.inr h2), Int32.add_zero] at st
      rw [if_pos h2]; exact st
    rw [if_neg h2]
    rw [if_neg (fun q => q.elim h1 h2)] at st
    by_cases h3 : f 51 (8 * a + x) = f 51 (8 * b + x)
    · rw [if_pos h3] at st
      rw [if_pos h3]; exact st
    · rw [if_neg h3] at st
      rw [if_neg h3]; exact st
theorem q_likM {N a b : Nat} {g : gFG} {f : gFF} {w : Int64} {Q : Int32 → gFG → gFF → Int64 → Prop} (hN : 100 ≤ N) (ha : a < 40) (hb : b < 40) (h : Q (lks (f 21) a b 8) g f w) : wX12_likeness N (nI a) (nI b) g f w Q := by
  have key := dn (W := 8) (P := fun x => ∀ n, 8 - x < n → wX12_likeness_l5 N (nI a) (nI b) Q n (lks (f 21) a b x) (nI x) g f w) ?_ ?_ 0 (by omega) N (by omega)
  · exact key
  · intro n hn
    obtain ⟨n, rfl⟩ : ∃ k, n = k + 1 := ⟨n - 1, by omega⟩
    unfold wX12_likeness_l5
    exact ⟨fun c => h, fun c => absurd (show (8 : Int32) ≤ nI 8 by decide) c⟩
  · intro x hx ih n hn
    obtain ⟨n, rfl⟩ : ∃ k, n = k + 1 := ⟨n - 1, by omega⟩
    unfold wX12_likeness_l5
    refine ⟨fun c => absurd c (nI_ge (a := x) (b := 8) hx (by decide)), fun c => ?_⟩
    rintro _ rfl
    have e1 : 8 * nI a + nI x = nI (8 * a + x) := by
      rw [show (8 : Int32) = nI 8 from rfl, pk_mul, nI_add]
    have e2 : 8 * nI b + nI x = nI (8 * b + x) := by
      rw [show (8 : Int32) = nI 8 from rfl, pk_mul, nI_add]
    rw [e1]
    refine ⟨vp_in_nI (by omega) (by decide), ?_⟩
    rintro _ rfl _ rfl
    rw [e2]
    refine ⟨vp_in_nI (by omega) (by decide), ?_⟩
    rintro _ rfl
    rw [nI_clamp (by omega), nI_clamp (by omega)]
    have st := ih n (by omega)
    rw [lks, lkt] at st
    unfold wX12_likeness_j51 wX12_likeness_j67
    simp only [forall_eq, nI_1, br1, br2]
    by_cases h1 : f 21 (8 * a + x) = 0
    · rw [if_pos (Or.inl h1)] at st
      rw [if_pos h1]; exact st
    rw [if_neg h1]
    by_cases h2 : f 21 (8 * b + x) = 0
    · rw [if_pos (Or.inr h2)] at st
      rw [if_pos h2]; exact st
    rw [if_neg h2]
    rw [if_neg (fun q => q.elim h1 h2)] at st
    by_cases h3 : f 21 (8 * a + x) = f 21 (8 * b + x)
    · rw [if_pos h3] at st
      rw [if_pos h3]; exact st
    · rw [if_neg h3] at st
      rw [if_neg h3]; exact st
