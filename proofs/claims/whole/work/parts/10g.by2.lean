/-- the workshop of the greatest quotient among the first x -/
def bo (A C : Nat → Int32) : Nat → Option Nat
  | 0 => none
  | x + 1 => if C x ≤ 0 then bo A C x else match bo A C x with
    | none => some x
    | some j => if A x * C j ≤ A j * C x then some j else some x
def oi : Option Nat → Int32
  | none => -1
  | some j => nI j
def oA (A : Nat → Int32) : Option Nat → Int32
  | none => 0
  | some j => A j
def oC (C : Nat → Int32) : Option Nat → Int32
  | none => 1
  | some j => C j
theorem bo_lt (A C : Nat → Int32) : ∀ (x j : Nat), bo A C x = some j → j < x
  | 0, j, h => by simp [bo] at h
  | x + 1, j, h => by
    rw [bo] at h
    by_cases h1 : C x ≤ 0
    · rw [if_pos h1] at h
      have := bo_lt A C x j h
      omega
    · rw [if_neg h1] at h
      cases hb : bo A C x with
      | none => rw [hb] at h; simp at h; omega
      | some i =>
        rw [hb] at h
        have := bo_lt A C x i hb
        simp only at h
        split at h <;> simp at h <;> omega
theorem bo_cong {A C A' C' : Nat → Int32} : ∀ {x : Nat}, (∀ i, i < x → A i = A' i ∧ C i = C' i) → bo A C x = bo A' C' x
  | 0, _ => rfl
  | x + 1, h => by
    have ih := bo_cong (x := x) (fun i hi => h i (by omega))
    obtain ⟨h1, h2⟩ := h x (by omega)
    rw [bo, bo, ← ih, h2]
    by_cases hc : C' x ≤ 0
    · rw [if_pos hc, if_pos hc]
    · rw [if_neg hc, if_neg hc]
      cases hb : bo A C x with
      | none => rfl
      | some j =>
        have hj := bo_lt A C x j hb
        obtain ⟨h3, h4⟩ := h j (by omega)
        simp only [h1, h3, h4]
theorem q_best {N : Nat} {g : gFG} {f : gFF} {Q : Int32 → gFG → gFF → Prop} (hN : 1000 ≤ N) (h : Q (oi (bo (f 55) (f 56) 8)) g f) : wX10_workshopByMarks_l11 N Q N (-1) 0 g f := by
  have key := dn (W := 8) (P := fun x => ∀ n, 8 - x < n → wX10_workshopByMarks_l11 N Q n (oi (bo (f 55) (f 56) x)) (nI x) g f) ?_ ?_ 0 (by omega) N (by omega)
  · exact key
  · intro n hn
    obtain ⟨n, rfl⟩ : ∃ k, n = k + 1 := ⟨n - 1, by omega⟩
    unfold wX10_workshopByMarks_l11
    exact ⟨fun c => h, fun c => absurd (show (8 : Int32) ≤ nI 8 by decide) c⟩
  · intro x hx ih n hn
    obtain ⟨n, rfl⟩ : ∃ k, n = k + 1 := ⟨n - 1, by omega⟩
    have st := ih n (by omega)
    rw [bo] at st
    unfold wX10_workshopByMarks_l11 wX10_workshopByMarks_j43 wX10_workshopByMarks_j46
    simp only [forall_eq, nI_1]
    have hin : vp_in (nI x) 8 := vp_in_nI hx (by decide)
    refine ⟨fun c => absurd c (nI_ge (a := x) (b := 8) hx (by decide)), fun c => ⟨hin, ?_⟩⟩
    rw [nI_clamp (by omega)]
    refine ⟨fun c2 => ?_, fun c2 => ?_⟩
    · rw [if_pos c2] at st; exact st
    · rw [if_neg c2] at st
      cases hb : bo (f 55) (f 56) x with
      | none =>
        rw [hb] at st
        exact ⟨fun _ => st, fun c3 => absurd rfl c3⟩
      | some j =>
        rw [hb] at st
        have hj := bo_lt _ _ x j hb
        have hinj : vp_in (nI j) 8 := vp_in_nI (by omega) (by decide)
        have hne : ¬ oi (some j) = -1 := by
          show ¬ nI j = -1
          rw [eq_I, nI_I (by omega), z_m1]; omega
        refine ⟨fun c3 => absurd c3 hne, fun _ => ?_⟩
        show wX10_isLiker N (nI x) (nI j) g f _
        unfold wX10_isLiker
        rw [nI_clamp (by omega), nI_clamp (by omega)]
        refine ⟨hin, hinj, hinj, hin, fun c4 => ?_, fun c4 => ?_⟩
        · simp only [if_pos c4] at st
          exact ⟨fun _ => st, fun c5 => absurd rfl c5⟩
        · simp only [if_neg c4] at st
          exact ⟨fun c5 => absurd c5 (by decide), fun _ => st⟩
theorem q_byM {N V T vv : Nat} {y : Int32} {g : gFG} {f : gFF} {w : Int64} {Q : Int32 → gFG → gFF → Int64 → Prop} (hN : 1000 ≤ N) (hV : V ≤ 40) (hvv : vv < V) (hg : g 38 = nI V) (hT : T ≤ 150) (hg2 : g 40 = nI T)
    (h : Q (oi (bo (fun w => lsm (fun o => shp (f 22) (f 23) (f 24) (nI o) y T) (fun o => lks (f 21) vv o 8) vv w V) (fun w => cnm (fun o => shp (f 22) (f 23) (f 24) (nI o) y T) vv w V) 8)) g f w) : wX12_by_l39 N (nI vv) y Q N (-1) 0 1 0 g f w := by
  generalize hs : (fun o : Nat => shp (f 22) (f 23) (f 24) (nI o) y T) = sh at h
  have hse : ∀ o, shp (f 22) (f 23) (f 24) (nI o) y T = sh o := fun o => by rw [← hs]
  generalize hA : (fun w => lsm sh (fun o => lks (f 21) vv o 8) vv w V) = A at h
  generalize hC : (fun w => cnm sh vv w V) = C at h
  have hAe : ∀ w, lsm sh (fun o => lks (f 21) vv o 8) vv w V = A w := fun w => by rw [← hA]
  have hCe : ∀ w, cnm sh vv w V = C w := fun w => by rw [← hC]
  have key := dn (W := 8) (P := fun x => ∀ n, 8 - x < n → wX12_by_l39 N (nI vv) y Q n (oi (bo A C x)) (oA A (bo A C x)) (oC C (bo A C x)) (nI x) g f w) ?_ ?_ 0 (by omega) N (by omega)
  · exact key
  · intro n hn
    obtain ⟨n, rfl⟩ : ∃ k, n = k + 1 := ⟨n - 1, by omega⟩
    unfold wX12_by_l39
    exact ⟨fun c => h, fun c => absurd (show (8 : Int32) ≤ nI 8 by decide) c⟩
  · intro x hx ih n hn
    obtain ⟨n, rfl⟩ : ∃ k, n = k + 1 := ⟨n - 1, by omega⟩
    have st := ih n (by omega)
    rw [bo] at st
    unfold wX12_by_l39
    refine ⟨fun c => absurd c (nI_ge (a := x) (b := 8) hx (by decide)), fun c => ?_⟩
    generalize wX12_by_l39 N (nI vv) y Q n = K at st ⊢
    generalize hb : bo A C x = B at st ⊢
    have hB : ∀ j, B = some j → j < x := fun j hj => bo_lt A C x j (hb.trans hj)
    have inner := dn (W := V) (P := fun o => ∀ n, V - o < n → wX12_by_l55 N (nI vv) y (oi B) (oA A B) (oC C B) (nI x) K Q n (lsm sh (fun o => lks (f 21) vv o 8) vv x o) (cnm sh vv x o) (nI o) g f w) ?_ ?_ 0 (by omega) N (by omega)
    · exact inner
    · intro n hn
      obtain ⟨n, rfl⟩ : ∃ k, n = k + 1 := ⟨n - 1, by omega⟩
      unfold wX12_by_l55 wX12_by_j125 wX12_by_j136
      rw [hg, hAe, hCe]
      simp only [forall_eq, nI_1]
      refine ⟨fun c => ⟨fun c2 => ?_, fun c2 => ⟨fun c3 => ?_, fun c3 => ?_⟩⟩, fun c => absurd (nI_le (Nat.le_refl V) (by omega)) c⟩
      · rw [if_pos c2] at st; exact st
      · rw [if_neg c2] at st
        cases B with
        | none => exact st
        | some j => exact absurd c3 (by have := hB j rfl; exact nI_pos (by omega))
      · rw [if_neg c2] at st
        cases B with
        | none => exact absurd (show oi none < 0 by decide) c3
        | some j =>
          refine ⟨fun c4 => ?_, fun c4 => ?_⟩
          · have c5 : A x * C j ≤ A j * C x := c4
            simp only [if_pos c5] at st; exact st
          · have c5 : ¬ A x * C j ≤ A j * C x := c4
            simp only [if_neg c5] at st; exact st
    · intro o ho ih2 n hn
      obtain ⟨n, rfl⟩ : ∃ k, n = k + 1 := ⟨n - 1, by omega⟩
      have st2 := ih2 n (by omega)
      rw [lsm, cnm] at st2
      unfold wX12_by_l55 wX12_by_j97
      rw [hg]
      simp only [forall_eq, nI_1]
      refine ⟨fun c => absurd c (nI_ge ho (by omega)), fun c => ⟨fun c2 => ?_, fun c2 => ?_⟩⟩
      · have hov : o = vv := (nI_eq (by omega) (by omega)).mp c2
        rw [if_neg (fun q => q.1 hov), if_neg (fun q => q.1 hov)] at st2
        exact st2
      · have hov : o ≠ vv := fun q => c2 (by rw [q])
        refine q_shopOfM (T := T) hN hT hg2 ?_
        rw [hse o]
        refine ⟨fun c3 => ?_, fun c3 => ?_⟩
        · rw [if_neg (fun q => c3 q.2), if_neg (fun q => c3 q.2)] at st2
          exact st2
        · rw [if_pos ⟨hov, c3⟩, if_pos ⟨hov, c3⟩] at st2
          refine q_likM (by omega) (by omega) (by omega) ?_
          rw [lks_sym]
          exact st2
theorem shp_rng {tv tw ty : Nat → Int32} {v y : Int32} : ∀ {t : Nat}, (∀ i, i < t → -1 ≤ (tw i).toInt ∧ (tw i).toInt ≤ 7) → -1 ≤ (shp tv tw ty v y t).toInt ∧ (shp tv tw ty v y t).toInt ≤ 7
  | 0, _ => by rw [shp, z_m1]; omega
  | t + 1, h => by
    rw [shp]
    split
    · exact h t (by omega)
    · exact shp_rng (fun i hi => h i (by omega))
theorem lsm_cong {sh sh' lk lk' : Nat → Int32} {vv w : Nat} : ∀ {V : Nat}, (∀ o, o < V → sh o = sh' o ∧ lk o = lk' o) → lsm sh lk vv w V = lsm sh' lk' vv w V
  | 0, _ => rfl
  | V + 1, h => by
    obtain ⟨h1, h2⟩ := h V (by omega)
    rw [lsm, lsm, h1, h2, lsm_cong (fun o ho => h o (by omega))]
theorem cnm_cong {sh sh' : Nat → Int32} {vv w : Nat} : ∀ {V : Nat}, (∀ o, o < V → sh o = sh' o) → cnm sh vv w V = cnm sh' vv w V
  | 0, _ => rfl
  | V + 1, h => by
    rw [cnm, cnm, h V (by omega), cnm_cong (fun o ho => h o (by omega))]
theorem ok_by {GC : gGC} (hG : GCok GC) {N : Nat} (hN : 1000 ≤ N) : ls_by N (InvP GC) := by
  intro n a b gS fS gT fT wT hn hI
  have hI' := inv_same hG hI 0
  obtain ⟨i1, i2, i3, i4, ⟨V, T, hV, hT, e1, e2, e3, e4, hm, ht⟩, ⟨j6, j7⟩, i8⟩ := hI
  have v1 : (gS 21).toInt = V := by rw [e1]; exact nI_I (by omega)
  have v2 : ((va_up gT 0 0) 38).toInt = V := by show (gT 38).toInt = V; rw [e2]; exact nI_I (by omega)
  simp only [wX11_by, wX12_by, wX10_workshopByMarks, forall_eq, q_vhas, q_isVessel, q_isWithin, q_in, withinB, l_I, z0L, z_3000, show (3000 : Int64).toInt = 3000 from rfl, br1, br2, bi_0, vhB, v1, v2]
  by_cases h1 : 0 ≤ a.toInt ∧ a.toInt < V
  · have h1a : 0 ≤ a.toInt ∧ a.toInt < V ∧ a.toInt < 40 := by omega
    have h1b : 0 ≤ a.toInt ∧ a.toInt ≤ (V : Int) - 1 := by omega
    by_cases h2 : 0 ≤ b.toInt ∧ b.toInt ≤ 3000
    · have ea : a = nI a.toInt.toNat := by rw [eq_I, nI_I (by omega)]; omega
      simp only [h1a, h1b, h2, decide_true, if_false, and_self, Bool.true_eq_false]
      generalize hA : a.toInt.toNat = A at ea
      have hAV : A < V := by omega
      rw [ea]
      refine q_cmp hN hV hAV e1 hT e3 (fun o ho => shp_rng (fun i hi => (ht i hi).2.2.1)) ?_
      refine q_best hN ?_
      refine q_byM hN hV hAV e2 hT e4 ?_
      have hsh : ∀ o : Nat, shp (fT 22) (fT 23) (fT 24) (nI o) b T = shp (fS 52) (fS 53) (fS 54) (nI o) b T := fun o => shp_cong (fun i hi => (ht i hi).1)
      refine ⟨?_, i1, i2, i3, i4, ⟨V, T, hV, hT, e1, e2, e3, e4, hm, ht⟩, ⟨j6, j7⟩, GCk hG i8 ⟨rfl, rfl, rfl, rfl, rfl, rfl, rfl⟩ ⟨rfl, rfl, rfl, rfl, rfl, rfl, rfl, rfl⟩ ⟨rfl, rfl, rfl⟩ ⟨rfl, rfl⟩⟩
      refine congrArg oi (bo_cong (fun i hi => ⟨?_, ?_⟩))
      · rw [up_n _ _ (show (55 : Nat) ≠ 56 by decide), up_s, low8_at hi]
        exact lsm_cong (fun o ho => ⟨(hsh o).symm, (lks_cong (V := V) hAV ho (fun k hk => (hm k hk).1) 8 (Nat.le_refl 8)).symm⟩)
      · rw [up_s, low8_at hi]
        exact cnm_cong (fun o ho => (hsh o).symm)
    · simp [h1a, h1b, h2, hI']
  · have h1a : ¬ (0 ≤ a.toInt ∧ a.toInt < V ∧ a.toInt < 40) := by omega
    have h1b : ¬ (0 ≤ a.toInt ∧ a.toInt ≤ (V : Int) - 1) := by omega
    simp [h1a, h1b, hI']
