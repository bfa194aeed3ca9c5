theorem mput_rng (m : Nat → Int32) (V R : Nat) (i : Nat) (h : 8 * V ≤ i) (h2 : i < 8 * V + 8) : 0 ≤ (mput m V R 8 i).toInt ∧ (mput m V R 8 i).toInt ≤ 9 := by
  unfold mput
  rw [if_pos ⟨h, h2⟩, nI_I (by omega)]
  omega
theorem mput_old (m : Nat → Int32) (V R j : Nat) (i : Nat) (h : i < 8 * V) : mput m V R j i = m i := by
  unfold mput
  rw [if_neg (by omega)]
theorem ok_vessel {GC : gGC} (hG : GCok GC) {N : Nat} (hN : 100 ≤ N) : ls_vessel N (InvP GC) := by
  intro n a gS fS gT fT wT hn hI
  obtain ⟨i1, i2, i3, i4, ⟨V, T, hV, hT, e1, e2, e3, e4, hm, ht⟩, ⟨j6, j7⟩, i8⟩ := hI
  have v1 : (gS 21).toInt = V := by rw [e1]; exact nI_I (by omega)
  have v2 : ((va_up gT 0 0) 38) = nI V := e2
  have hst : ∀ x : Int32, InvP GC (n + 1) (va_up gS 1 x) fS (va_up (va_up gT 0 0) 1 x) fT wT := fun x => ⟨i1, i2, i3, i4, ⟨V, T, hV, hT, e1, e2, e3, e4, hm, ht⟩, ⟨rfl, j7⟩, GCk hG i8 ⟨rfl, rfl, rfl, rfl, rfl, rfl, rfl⟩ ⟨rfl, rfl, rfl, rfl, rfl, rfl, rfl, rfl⟩ ⟨rfl, rfl, rfl⟩ ⟨rfl, rfl⟩⟩
  simp only [wX11_vessel, wX12_vessel, wX10_isFull, wX10_add, forall_eq, q_isWithin, q_in, q_told, q_answered, br1, br2, bi_0, lt_I, le_I, l_I, z_40, z0L, withinB, show (99999999 : Int32).toInt = 99999999 from rfl, show (99999999 : Int64).toInt = 99999999 from rfl, v1]
  by_cases h1 : 0 ≤ a.toInt ∧ a.toInt ≤ 99999999
  · by_cases h2 : (V : Int) < 40
    · have h2a : ¬ (va_up gT 0 0) 38 = 40 := by rw [v2, eq_I, nI_I (by omega), z_40]; omega
      have ea : a = nI a.toInt.toNat := by rw [eq_I, nI_I (by omega)]; omega
      simp only [h1, h2, h2a, decide_true, if_true, if_false, and_self, Bool.true_eq_false]
      generalize hR : a.toInt.toNat = R at ea
      have hR2 : R < 2 ^ 31 := by omega
      rw [ea]
      refine q_vadd hN (by omega) e1 hR2 ?_
      refine q_vaddM hN (by omega) v2 hR2 ?_
      rw [q_told, nI_I (by omega), if_pos (by omega)]
      refine ⟨rfl, i1, i2, i3, i4, ⟨V + 1, T, by omega, hT, rfl, rfl, e3, e4, fun k hk => ?_, fun i hi => ?_⟩, ⟨rfl, j7⟩, GCk hG i8 ⟨rfl, rfl, rfl, rfl, rfl, rfl, rfl⟩ ⟨rfl, rfl, rfl, rfl, rfl, rfl, rfl, rfl⟩ ⟨rfl, rfl, rfl⟩ ⟨rfl, rfl⟩⟩
      · show mput (fT 21) V R 8 k = mput (fS 51) V R 8 k ∧ 0 ≤ (mput (fS 51) V R 8 k).toInt ∧ (mput (fS 51) V R 8 k).toInt ≤ 9
        by_cases hk2 : k < 8 * V
        · rw [mput_old _ _ _ _ _ hk2, mput_old _ _ _ _ _ hk2]
          exact hm k hk2
        · refine ⟨?_, mput_rng _ _ _ _ (by omega) (by omega)⟩
          unfold mput
          rw [if_pos (by omega), if_pos (by omega)]
      · have := ht i hi
        refine ⟨this.1, ⟨this.2.1.1, ?_⟩, this.2.2⟩
        have h9 := this.2.1.2
        show (fS 52 i).toInt < ((V + 1 : Nat) : Int)
        omega
    · have h2a : (va_up gT 0 0) 38 = 40 := by rw [v2, eq_I, nI_I (by omega), z_40]; omega
      simp [h1, h2, h2a, hst]
  · simp [h1, hst]
theorem ok_like {GC : gGC} (hG : GCok GC) {N : Nat} (hN : 100 ≤ N) : ls_like N (InvP GC) := by
  intro n a b gS fS gT fT wT hn hI
  have hI' := inv_same hG hI 0
  obtain ⟨-, -, -, -, ⟨V, T, hV, hT, e1, e2, e3, e4, hm, ht⟩, -⟩ := hI
  have v1 : (gS 21).toInt = V := by rw [e1]; exact nI_I (by omega)
  have v2 : ((va_up gT 0 0) 38).toInt = V := by show (gT 38).toInt = V; rw [e2]; exact nI_I (by omega)
  simp only [wX11_like, wX12_like, wX10_likeness, forall_eq, q_vhas, q_isVessel, br1, br2, bi_0, vhB, v1, v2]
  by_cases h1 : 0 ≤ a.toInt ∧ a.toInt < V
  · have h1a : 0 ≤ a.toInt ∧ a.toInt < V ∧ a.toInt < 40 := by omega
    have h1b : 0 ≤ a.toInt ∧ a.toInt ≤ (V : Int) - 1 := by omega
    by_cases h2 : 0 ≤ b.toInt ∧ b.toInt < V
    · have h2a : 0 ≤ b.toInt ∧ b.toInt < V ∧ b.toInt < 40 := by omega
      have h2b : 0 ≤ b.toInt ∧ b.toInt ≤ (V : Int) - 1 := by omega
      have ea : a = nI a.toInt.toNat := by rw [eq_I, nI_I (by omega)]; omega
      have eb : b = nI b.toInt.toNat := by rw [eq_I, nI_I (by omega)]; omega
      simp only [h1a, h1b, h2a, h2b, decide_true, if_false, and_self, Bool.true_eq_false]
      generalize hA : a.toInt.toNat = A at ea
      generalize hB : b.toInt.toNat = B at eb
      rw [ea, eb]
      refine q_lik hN (by omega) (by omega) ?_
      refine q_likM hN (by omega) (by omega) ?_
      exact ⟨(lks_cong (V := V) (by omega) (by omega) (fun k hk => (hm k hk).1) 8 (Nat.le_refl 8)).symm, hI'⟩
    · have h2a : ¬ (0 ≤ b.toInt ∧ b.toInt < V ∧ b.toInt < 40) := by omega
      have h2b : ¬ (0 ≤ b.toInt ∧ b.toInt ≤ (V : Int) - 1) := by omega
      simp [h1a, h1b, h2a, h2b, hI']
  · have h1a : ¬ (0 ≤ a.toInt ∧ a.toInt < V ∧ a.toInt < 40) := by omega
    have h1b : ¬ (0 ≤ a.toInt ∧ a.toInt ≤ (V : Int) - 1) := by omega
    simp [h1a, h1b, hI']
/-- the workshop as known in a year: of the first t told, the last that counts -/
def shp (tv tw ty : Nat → Int32) (v y : Int32) : Nat → Int32
  | 0 => -1
  | t + 1 => if tv t = v ∧ (ty t).toInt ≤ y.toInt then tw t else shp tv tw ty v y t
theorem shp_cong {tv tw ty tv' tw' ty' : Nat → Int32} {v y : Int32} : ∀ {t : Nat}, (∀ i, i < t → tv' i = tv i ∧ tw' i = tw i ∧ ty' i = ty i) → shp tv' tw' ty' v y t = shp tv tw ty v y t
  | 0, _ => rfl
  | t + 1, h => by
    obtain ⟨h1, h2, h3⟩ := h t (by omega)
    rw [shp, shp, h1, h2, h3, shp_cong (fun i hi => h i (by omega))]
theorem q_shopOf {N T : Nat} {v y : Int32} {g : gFG} {f : gFF} {Q : Int32 → gFG → gFF → Prop} (hN : 1000 ≤ N) (hT : T ≤ 150) (hg : g 22 = nI T) (h : Q (shp (f 52) (f 53) (f 54) v y T) g f) : wX10_workshopOf N v y g f Q := by
  have key : ∀ t : Nat, t ≤ T → shp (f 52) (f 53) (f 54) v y t = shp (f 52) (f 53) (f 54) v y T → ∀ n, t < n → wX10_workshopOf_l7 N v y Q n (nI t - 1) g f := by
    intro t
    induction t with
    | zero =>
      intro _ he n hn
      obtain ⟨n, rfl⟩ : ∃ k, n = k + 1 := ⟨n - 1, by omega⟩
      unfold wX10_workshopOf_l7
      refine ⟨fun c => ?_, fun c => absurd (show nI 0 - 1 < 0 by decide) c⟩
      rw [shp] at he
      rw [he]; exact h
    | succ t ih =>
      intro ht he n hn
      obtain ⟨n, rfl⟩ : ∃ k, n = k + 1 := ⟨n - 1, by omega⟩
      rw [nI_pred]
      unfold wX10_workshopOf_l7 wX10_workshopOf_j38
      refine ⟨fun c => absurd c (nI_pos (by omega)), fun c => ?_⟩
      have hin : vp_in (nI t) 150 := vp_in_nI (by omega) (by decide)
      rw [nI_clamp (by omega)]
      have e9 : nI t + (-1) = nI t - 1 := by rw [Int32.sub_eq_add_neg]
      simp only [hin, true_and, forall_eq, br1, br2, lt_I, e9]
      rw [shp] at he
      by_cases h1 : f 52 t = v
      · rw [if_pos h1]
        by_cases h2 : y.toInt < (f 54 t).toInt
        · rw [if_pos h2]
          rw [if_neg (fun q => by omega)] at he
          exact ih (by omega) he n (by omega)
        · rw [if_neg h2]
          rw [if_pos ⟨h1, by omega⟩] at he
          rw [he]; exact h
      · rw [if_neg h1]
        rw [if_neg (fun q => h1 q.1)] at he
        exact ih (by omega) he n (by omega)
  unfold wX10_workshopOf
  rintro _ rfl
  rw [hg]
  exact key T (Nat.le_refl T) rfl N (by omega)
