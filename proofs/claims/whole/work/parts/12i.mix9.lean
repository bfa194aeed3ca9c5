/-! mix -/
theorem q_l78 {N : Nat} {g : gFG} {f : gFF} {Q : Int32 → gFG → gFF → Prop} (hN : 1000 ≤ N) (h : ∀ B, (∀ i, i < 6 → B i = f 30 i) → wX11_answered N (f 27 0 + 1) g (va_up f 43 B) Q) : wX11_mix_l78 N Q N 0 g f := by
  have hh := lpU (β := Nat → Int32) (fun m x B => wX11_mix_l78 N Q m (nI x) g (va_up f 43 B)) (fun x B => ∀ i, i < x → B i = f 30 i) 6 ?_ ?_ 0 N (f 43) (by omega) (by omega) (fun i hi => absurd hi (by omega))
  · rw [up_id] at hh; exact hh
  · intro m B hB
    unfold wX11_mix_l78 wX5_price
    refine ⟨fun _ => ⟨vp_in_nI (show 0 < 4 by omega) (by decide), ?_⟩, fun c => absurd (nI_le (Nat.le_refl 6) (by decide)) c⟩
    exact h B hB
  · intro m x B hx hB ih
    have hin : vp_in (nI x) 6 := vp_in_nI hx (by decide)
    have n0 : ¬ nI x < 0 := by rw [lt_I, nI_I (by omega), z_0]; omega
    have n6 : ¬ (6 : Int32) ≤ nI x := nI_ge hx (by decide)
    unfold wX11_mix_l78 wX5_unitsOf wX0_put
    refine ⟨fun c => absurd c n6, fun _ => ⟨fun c => absurd c n0, fun _ => ⟨fun c => absurd c n6, fun _ => ⟨hin, fun c => absurd c n0, fun _ => ⟨fun c => absurd c n6, fun _ => ⟨hin, ?_⟩⟩⟩⟩⟩⟩
    rw [nI_clamp (show x < 2 ^ 31 by omega), up_s, up_n _ _ (show (30 : Nat) ≠ 43 by decide), up_up]
    rintro _ rfl _ rfl
    rw [nI_1]
    refine ih _ (fun i hi => ?_)
    by_cases e : i = x
    · rw [e, upd_at]
    · rw [upd_ne _ _ e]; exact hB i (by omega)
theorem q_358 {N n L : Nat} {v : Int32} {g : gFG} {f : gFF} {w : Int64} {Q : Int32 → gFG → gFF → Int64 → Prop} (hN : 1000 ≤ N) (hL : L ≤ 6) (h15 : g 15 = nI L) (h : ∀ B, (∀ i, i < 6 → B i = if i < L then f 15 i else 0) → wX12_told N v (va_up g 21 (nI n)) (va_up f 13 B) w Q) : wX12_mix_l358 N (nI n) v Q N 0 g f w := by
  have hh := lpU (β := Nat → Int32) (fun m x B => wX12_mix_l358 N (nI n) v Q m (nI x) g (va_up f 13 B) w) (fun x B => ∀ i, i < x → B i = if i < L then f 15 i else 0) 6 ?_ ?_ 0 N (f 13) (by omega) (by omega) (fun i hi => absurd hi (by omega))
  · rw [up_id] at hh; exact hh
  · intro m B hB
    unfold wX12_mix_l358
    refine ⟨fun _ => ?_, fun c => absurd (nI_le (Nat.le_refl 6) (by decide)) c⟩
    rintro _ rfl
    exact h B hB
  · intro m x B hx hB ih
    have hin : vp_in (nI x) 6 := vp_in_nI hx (by decide)
    have put : ∀ u : Int32, u = (if x < L then f 15 x else 0) → wX12_mix_j391 N (wX12_mix_l358 N (nI n) v Q m) Q (nI n) v (nI x) u (nI x) g (va_up f 13 B) w := by
      intro u hu
      unfold wX12_mix_j391
      refine ⟨hin, ?_⟩
      rw [nI_clamp (show x < 2 ^ 31 by omega), up_s, up_up]
      rintro _ rfl _ rfl
      rw [nI_1]
      refine ih _ (fun i hi => ?_)
      by_cases e : i = x
      · rw [e, upd_at]; exact hu
      · rw [upd_ne _ _ e]; exact hB i (by omega)
    unfold wX12_mix_l358
    rw [h15, nI_leI (by omega) (by omega), nI_clamp (show x < 2 ^ 31 by omega)]
    refine ⟨fun c => absurd c (nI_ge hx (by decide)), fun _ => ⟨fun c => put 0 (by rw [if_neg (by omega)]), fun c => ⟨hin, put _ (by rw [if_pos (by omega)]; rfl)⟩⟩⟩
theorem q_mixM {N n a b c L : Nat} {P T E U : Nat → Nat} {g : gFG} {f : gFF} {w : Int64} {Q : Int32 → gFG → gFF → Int64 → Prop} (hN : 200000000 ≤ N) (hn1 : 1 ≤ n) (hn : n ≤ 40) (ha : a ≤ 1000) (hb : b ≤ 1000) (hc : c ≤ 1000) (hL : L ≤ 6) (h15 : g 15 = nI L) (hM : LM L P T E U f) (hno : (∀ r, ¬ Fe n a b c T E U r) → ∀ f', (∀ j, j ≠ 14 → j ≠ 15 → f' j = f j) → wX12_told N (-6) g f' w Q) (hyes : ∀ r, Bst (Fe n a b c T E U) (fun r => sw P r 6) (fun _ => True) r → ∀ f', (∀ j, j ≠ 13 → j ≠ 14 → j ≠ 15 → f' j = f j) → (∀ i, i < 6 → f' 13 i = nI (r i)) → wX12_told N (nI (sw P r 6)) (va_up g 21 (nI n)) f' w Q) : wX12_mix_l67 N (nI n) (nI a) (nI b) (nI c) (-1) Q N 0 g f w := by
  have hh := lpU (β := Unit) (fun m x _ => wX12_mix_l67 N (nI n) (nI a) (nI b) (nI c) (-1) Q m (nI x) g (va_up f 14 (fz (f 14) 0 x)) w) (fun _ _ => True) 7 ?_ ?_ 0 N () (by omega) (by omega) trivial
  · rw [fz_0, up_id] at hh; exact hh
  · intro m _ _
    unfold wX12_mix_l67 wX12_mix_j100
    rw [h15]
    refine ⟨fun _ => ⟨fun q => ?_, fun q => ?_⟩, fun q => absurd (nI_le (Nat.le_refl 7) (by decide)) q⟩
    · rw [le_I, z_0, nI_I (by omega)] at q
      have hL0 : L = 0 := by omega
      obtain ⟨N2, hN2⟩ : ∃ k, N = k + 1 := ⟨N - 1, by omega⟩
      have key : ∀ m, wX12_mix_l102 N (nI n) (nI a) (nI b) (nI c) Q (m + 1) (-1) 0 g (va_up f 14 (fz (f 14) 0 7)) w := by
        intro m
        unfold wX12_mix_l102
        refine ⟨fun _ => ⟨fun q => absurd q (by decide), fun _ => hno (fun r hr => ?_) _ (fun j j1 _ => up_n _ _ j1)⟩, fun q => absurd rfl q⟩
        have : su r 6 = su r 0 := su_z (by omega) (fun i _ hi => by have := hr.1 i hi; have := hM.2.2 i (by omega); omega)
        have h2 := hr.2.1
        rw [this] at h2
        have : su r 0 = 0 := rfl
        omega
      have := key N2
      rw [← hN2] at this
      exact this
    · rw [le_I, z_0, nI_I (by omega)] at q
      obtain ⟨k, rfl⟩ : ∃ k, L = k + 1 := ⟨L - 1, by omega⟩
      have hM1 : LM (k + 1) P T E U (va_up f 14 (fz (f 14) 0 7)) := LM_f hM rfl rfl rfl rfl
      refine q_mixL (f0 := va_up f 14 (fz (f 14) 0 7)) hN hn ha hb hc (by omega) h15 hM1 (fun h0 f' e => hno h0 f' (fun j j1 j2 => (e j j1 j2).trans (up_n _ _ j1))) (fun r hr f' e e15 => ?_) 115856201 N (fun _ => 0) (-1) _ (by omega) (by omega) (fun _ _ _ => rfl) (fun i _ => by omega) (fun _ _ => rfl) ?_ (fun i hi => ?_) (Or.inl ⟨rfl, ?_⟩)
      · refine q_358 (by omega) hL h15 (fun B hB => hyes r hr _ (fun j j1 j2 j3 => ?_) (fun i hi => ?_))
        · rw [up_n _ _ j1, e j j2 j3, up_n _ _ j2]
        · rw [up_s, hB i hi]
          by_cases c1 : i < k + 1
          · rw [if_pos c1]; exact e15 i c1
          · rw [if_neg c1]
            have := hr.2.1.1 i hi
            have h0 := hM.2.2 i (by omega)
            rw [show r i = 0 by omega]; rfl
      · have : su (fun _ => 0) k = 0 := su_z (x := 0) (by omega) (fun _ _ _ => rfl)
        omega
      · rw [up_s]
        unfold fz
        rw [if_pos (by omega)]; rfl
      · rintro r ⟨i, i1, i2, i3⟩
        dsimp only at i3
        omega
  · intro m x _ hx _ ih
    unfold wX12_mix_l67
    refine ⟨fun q => absurd q (nI_ge hx (by decide)), fun _ => ⟨vp_in_nI hx (by decide), ?_⟩⟩
    simp only [forall_eq, nI_1, nI_clamp (show x < 2 ^ 31 by omega), up_s, up_up, fz_s]
    exact ih () trivial
theorem ok_mix (SP : gSP) {N : Nat} (hN : 200000000 ≤ N) : ls_mix N (InvP (GCg SP)) := by
  intro n0 a1 a2 a3 a4 gS fS gT fT wT hn0 hI
  have hst := inv_st hI
  simp only [wX11_mix, wX11_mix_j47, wX12_mix, wX12_mix_j55, forall_eq, q_isWithin, q_in, q_told, q_answered, br1, br2, bi_0, lt_I, l_I, z0L, z_1, z_40, z_1000, withinB, show (1 : Int64).toInt = 1 from rfl, show (40 : Int64).toInt = 40 from rfl, show (1000 : Int64).toInt = 1000 from rfl]
  by_cases h1 : 1 ≤ a1.toInt ∧ a1.toInt ≤ 40
  · have h1a : ¬ a1.toInt < 1 := by omega
    have h1b : ¬ 40 < a1.toInt := by omega
    by_cases h2 : 0 ≤ a2.toInt ∧ a2.toInt ≤ 1000
    · by_cases h3 : a2.toInt ≤ a3.toInt ∧ a3.toInt ≤ 1000
      · have h3a : ¬ a3.toInt < a2.toInt := by omega
        have h3b : 0 ≤ a3.toInt ∧ a3.toInt ≤ 1000 := by omega
        by_cases h4 : 0 ≤ a4.toInt ∧ a4.toInt ≤ 1000
        · simp only [h1, h1a, h1b, h2, h3, h3a, h3b, h4, decide_true, if_false, and_self, Bool.true_eq_false]
          obtain ⟨n, hn, hn1, rfl⟩ : ∃ n : Nat, n ≤ 40 ∧ 1 ≤ n ∧ a1 = nI n := ⟨a1.toInt.toNat, by omega, by omega, by rw [eq_I, nI_I (by omega)]; omega⟩
          obtain ⟨a, ha, rfl⟩ : ∃ a : Nat, a ≤ 1000 ∧ a2 = nI a := ⟨a2.toInt.toNat, by omega, by rw [eq_I, nI_I (by omega)]; omega⟩
          obtain ⟨b, hb, rfl⟩ : ∃ b : Nat, b ≤ 1000 ∧ a3 = nI b := ⟨a3.toInt.toNat, by omega, by rw [eq_I, nI_I (by omega)]; omega⟩
          obtain ⟨c, hc, rfl⟩ : ∃ c : Nat, c ≤ 1000 ∧ a4 = nI c := ⟨a4.toInt.toNat, by omega, by rw [eq_I, nI_I (by omega)]; omega⟩
          obtain ⟨⟨L, hL, l1, l2, hl⟩, ⟨ib0, ib⟩, i3, i4, i5, ⟨j6, j7⟩, W, H, e, w1, w2, w3, w4, w5, w6, ⟨z39, z40, z41, z42⟩⟩ := id hI
          -- the lots as numbers
          have hgen : ∀ v : Int32, 0 ≤ v.toInt → v = nI v.toInt.toNat := fun v hv => by have := rng_I v; rw [eq_I, nI_I (by omega)]; omega
          have hLR : LR (fun i => if i < L then (fS 22 i).toInt.toNat else 0) (fun i => if i < L then (fS 20 i).toInt.toNat else 0) (fun i => if i < L then (fS 21 i).toInt.toNat else 0) (fun i => if i < L then (fS 23 i).toInt.toNat else 0) gS fS := by
            intro i hi
            dsimp only
            have elh : lhB (gS 13) (nI i) = decide (i < L) := by
              unfold lhB
              rw [l1, nI_I (by omega), nI_I (by omega), decide_eq_decide]; omega
            rw [elh]
            by_cases q : i < L
            · obtain ⟨-, r1, r2, r3, r4⟩ := hl i q
              rw [decide_eq_true q, if_pos rfl, if_pos rfl, if_pos rfl, if_pos rfl, if_pos q, if_pos q, if_pos q, if_pos q]
              exact ⟨⟨hgen _ r3.1, hgen _ r1.1, hgen _ r2.1, hgen _ r4.1⟩, by omega, by omega, by omega, by omega⟩
            · simp only [decide_eq_false q, Bool.false_eq_true, if_false, if_neg q]
              exact ⟨⟨rfl, rfl, rfl, rfl⟩, by omega, by omega, by omega, by omega⟩
          have hLM : LM L (fun i => if i < L then (fS 22 i).toInt.toNat else 0) (fun i => if i < L then (fS 20 i).toInt.toNat else 0) (fun i => if i < L then (fS 21 i).toInt.toNat else 0) (fun i => if i < L then (fS 23 i).toInt.toNat else 0) fT := by
            refine ⟨fun i q => ?_, fun i hi => (hLR i hi).2, fun i hi => by dsimp only; rw [if_neg (by omega)]⟩
            obtain ⟨⟨s1, s2, s3, s4⟩, r1, r2, r3, r4⟩ := hl i q
            dsimp only
            rw [if_pos q, if_pos q, if_pos q, if_pos q, s1, s2, s3, s4]
            exact ⟨hgen _ r3.1, hgen _ r1.1, hgen _ r2.1, hgen _ r4.1⟩
          have hU0 : ∀ i, L ≤ i → i < 6 → (fun i => if i < L then (fS 23 i).toInt.toNat else 0) i = 0 := fun i hi _ => by dsimp only; rw [if_neg (by omega)]
          have hLI : (gS 13).toInt = (L : Int) := by rw [l1, nI_I (by omega)]
          generalize (fun i => if i < L then (fS 22 i).toInt.toNat else 0) = P at hLR hLM
          generalize (fun i => if i < L then (fS 20 i).toInt.toNat else 0) = T at hLR hLM
          generalize (fun i => if i < L then (fS 21 i).toInt.toNat else 0) = E at hLR hLM
          generalize (fun i => if i < L then (fS 23 i).toInt.toNat else 0) = U at hLR hLM hU0
          have hz0 : ∀ s, s < 4 → fS (39 + s) 0 = 0 := by
            intro s hs
            have : s = 0 ∨ s = 1 ∨ s = 2 ∨ s = 3 := by omega
            rcases this with rfl | rfl | rfl | rfl
            · exact z39
            · exact z40
            · exact z41
            · exact z42
          refine q_find (P := P) (T := T) (E := E) (U := U) (L := L) (M := max L 2 - 2) (by omega) hn ha hb hc hL (by omega) l1 hLR hU0 (fun i hi h2 h3 => ib0 i hi h2 (by rw [hLI]; omega)) hz0 (fun g' f' x1 x2 x3 x4 x5 => ?_)
          -- what is carried over
          have inv : ∀ (g2 : gFG) (f2 : gFF) (gT2 : gFG) (fT2 : gFF), (∀ j, j ≠ 1 → j ≠ 14 → j ≠ 15 → j ≠ 16 → j ≠ 17 → g2 j = gS j) → (∀ j, j ≠ 43 → ¬ (27 ≤ j ∧ j < 43) → f2 j = fS j) → f2 29 = f' 29 → (∀ s, s < 4 → f2 (39 + s) 0 = 0) → (∀ j, j ≠ 0 → j ≠ 1 → j ≠ 21 → gT2 j = gT j) → (∀ j, j ≠ 13 → j ≠ 14 → j ≠ 15 → fT2 j = fT j) → gT2 1 = g2 1 → ((gT2 21 = -1 ∧ ∀ i, i < 6 → f2 43 i = 0) ∨ ∃ n : Nat, 1 ≤ n ∧ n ≤ 40 ∧ gT2 21 = nI n ∧ (∀ i, i < 6 → fT2 13 i = f2 43 i ∧ 0 ≤ (f2 43 i).toInt ∧ (f2 43 i).toInt ≤ 40) ∧ (f2 43 0).toInt + (f2 43 1).toInt + (f2 43 2).toInt + (f2 43 3).toInt + (f2 43 4).toInt + (f2 43 5).toInt = (n : Int) ∧ ∀ i : Nat, i < 6 → (gS 13).toInt ≤ (i : Int) → f2 43 i = 0) → InvP (GCg SP) (n0 + 1) g2 f2 gT2 fT2 wT := by
            intro g2 f2 gT2 fT2 c1 c2 c3 c4 c5 c6 c7 c8
            have g13 : g2 13 = gS 13 := c1 13 (by decide) (by decide) (by decide) (by decide) (by decide)
            refine ⟨?_, ⟨fun i hi h2 h3 => ?_, ?_⟩, ?_, ?_, ?_, ⟨c7, ?_⟩, W, H, e, w1, ?_, ?_, ?_, ?_, ?_, ?_⟩
            · rw [g13, c5 15 (by decide) (by decide) (by decide), c2 20 (by decide) (by omega), c2 21 (by decide) (by omega), c2 22 (by decide) (by omega), c2 23 (by decide) (by omega), c6 9 (by decide) (by decide) (by decide), c6 10 (by decide) (by decide) (by decide), c6 11 (by decide) (by decide) (by decide), c6 12 (by decide) (by decide) (by decide)]
              exact ⟨L, hL, l1, l2, hl⟩
            · rw [c3]; rw [g13, hLI] at h3; exact x3 i hi h2 (by omega)
            · rw [g13]; exact c8
            · rw [c1 18 (by decide) (by decide) (by decide) (by decide) (by decide), c5 31 (by decide) (by decide) (by decide), c2 44 (by decide) (by omega), c6 20 (by decide) (by decide) (by decide)]; exact i3
            · rw [c1 2 (by decide) (by decide) (by decide) (by decide) (by decide), c1 3 (by decide) (by decide) (by decide) (by decide) (by decide), c1 23 (by decide) (by decide) (by decide) (by decide) (by decide), c1 24 (by decide) (by decide) (by decide) (by decide) (by decide), c2 45 (by decide) (by omega), c2 46 (by decide) (by omega), c2 47 (by decide) (by omega), c2 48 (by decide) (by omega), c2 49 (by decide) (by omega), c2 50 (by decide) (by omega), c5 24 (by decide) (by decide) (by decide), c6 16 (by decide) (by decide) (by decide), c6 17 (by decide) (by decide) (by decide), c6 18 (by decide) (by decide) (by decide)]; exact i4
            · rw [c1 21 (by decide) (by decide) (by decide) (by decide) (by decide), c1 22 (by decide) (by decide) (by decide) (by decide) (by decide), c5 38 (by decide) (by decide) (by decide), c5 40 (by decide) (by decide) (by decide), c2 51 (by decide) (by omega), c2 52 (by decide) (by omega), c2 53 (by decide) (by omega), c2 54 (by decide) (by omega), c6 21 (by decide) (by decide) (by decide), c6 22 (by decide) (by decide) (by decide), c6 23 (by decide) (by decide) (by decide), c6 24 (by decide) (by decide) (by decide)]; exact i5
            · rw [c5 36 (by decide) (by decide) (by decide), c1 0 (by decide) (by decide) (by decide) (by decide) (by decide)]; exact j7
            · rw [c1 4 (by decide) (by decide) (by decide) (by decide) (by decide), c1 5 (by decide) (by decide) (by decide) (by decide) (by decide), c5 2 (by decide) (by decide) (by decide), c5 3 (by decide) (by decide) (by decide)]; exact w2
            · rw [c6 1 (by decide) (by decide) (by decide), c2 13 (by decide) (by omega)]; exact w3
            · rw [c1 6 (by decide) (by decide) (by decide) (by decide) (by decide)]; exact ⟨by omega, w4.2⟩
            · rw [c2 13 (by decide) (by omega), c6 2 (by decide) (by decide) (by decide), c2 14 (by decide) (by omega), c1 9 (by decide) (by decide) (by decide) (by decide) (by decide), c1 6 (by decide) (by decide) (by decide) (by decide) (by decide), c5 6 (by decide) (by decide) (by decide)]; exact w5
            · rw [c1 12 (by decide) (by decide) (by decide) (by decide) (by decide), c1 6 (by decide) (by decide) (by decide) (by decide) (by decide), c2 13 (by decide) (by omega), c1 10 (by decide) (by decide) (by decide) (by decide) (by decide), c1 11 (by decide) (by decide) (by decide) (by decide) (by decide), c2 18 (by decide) (by omega), c2 19 (by decide) (by omega)]; exact w6
            · exact ⟨c4 0 (by omega), c4 1 (by omega), c4 2 (by omega), c4 3 (by omega)⟩
          have t15 : (va_up gT 0 0) 15 = nI L := l2
          rcases x5 with ⟨q1, q2⟩ | ⟨q1, r, q2, q3, q4⟩
          · -- none fits
            rw [q1]
            simp only [if_true]
            refine q_mixM hN hn1 hn ha hb hc hL t15 hLM (fun _ fT2 e2 => ?_) (fun r hr => absurd hr.2.1 (q2 r))
            rw [q_told]
            refine ⟨rfl, inv _ _ _ _ (fun j j1 j2 j3 j4 j5 => ?_) (fun j _ j2 => x2 j j2) rfl x4 (fun j j1 j2 _ => ?_) (fun j _ j2 j3 => e2 j j2 j3) (by rw [up_s, up_s]) ?_⟩
            · rw [up_n _ _ j1]; exact x1 j j2 j3 j4 j5
            · rw [up_n _ _ j2, up_n _ _ j1]
            · rw [up_n _ _ (show (21 : Nat) ≠ 1 by decide), up_n _ _ (show (21 : Nat) ≠ 0 by decide), x2 43 (by omega), e2 13 (by decide) (by decide)]
              exact ib
          · -- the best
            rw [q1, if_neg (by decide)]
            have hpr : sw P r 6 ≤ 40000 := by
              have := sw_le (w := P) (r := r) (x := 6) (fun i hi => (hLM.2.1 i hi).1)
              have := q2.2.1.2.1
              omega
            have eP : f' 27 0 + 1 = nI (sw P r 6) := by rw [eq_I, add_I (by rw [q4, z_1]; omega) (by rw [q4, z_1]; omega), q4, z_1, nI_I (by omega)]; omega
            refine q_l78 (by omega) (fun B hB => ?_)
            rw [eP, q_answered]
            refine q_mixM hN hn1 hn ha hb hc hL t15 hLM (fun h0 => absurd q2.2.1 (h0 r)) (fun r' hr' fT2 e2 e13 => ?_)
            obtain ⟨u1, u2⟩ := Bst_u q2 hr'
            rw [q_told, u1]
            have hBi : ∀ i, i < 6 → B i = nI (r i) := fun i hi => (hB i hi).trans (q3 i hi)
            have hri : ∀ i, i < 6 → r i ≤ 40 := fun i hi => by have := q2.2.1.1 i hi; have := (hLM.2.1 i hi).2.2.2; omega
            have hsum : r 0 + r 1 + r 2 + r 3 + r 4 + r 5 = n := by
              have := q2.2.1.2.1
              simp only [su] at this
              omega
            refine ⟨rfl, inv _ _ _ _ (fun j j1 j2 j3 j4 j5 => ?_) (fun j j1 j2 => ?_) ?_ (fun s hs => ?_) (fun j j1 j2 j3 => ?_) e2 (by rw [up_s, up_s]) (Or.inr ⟨n, hn1, hn, ?_, fun i hi => ?_, ?_, fun i hi h9 => ?_⟩)⟩
            · rw [up_n _ _ j1]; exact x1 j j2 j3 j4 j5
            · rw [up_n _ _ j1]; exact x2 j j2
            · rw [up_n _ _ (by decide)]
            · rw [up_n _ _ (by omega)]; exact x4 s hs
            · rw [up_n _ _ j2, up_n _ _ j3, up_n _ _ j1]
            · rw [up_n _ _ (by decide), up_s]
            · rw [up_s, hBi i hi, e13 i hi, u2 i hi, nI_I (by have := hri i hi; rw [u2 i hi] at this; omega)]
              have := hri i hi
              rw [u2 i hi] at this
              exact ⟨rfl, by omega, by omega⟩
            · rw [up_s, hBi 0 (by omega), hBi 1 (by omega), hBi 2 (by omega), hBi 3 (by omega), hBi 4 (by omega), hBi 5 (by omega)]
              have a0 := hri 0 (by omega)
              have a1 := hri 1 (by omega)
              have a2 := hri 2 (by omega)
              have a3 := hri 3 (by omega)
              have a4 := hri 4 (by omega)
              have a5 := hri 5 (by omega)
              rw [nI_I (by omega), nI_I (by omega), nI_I (by omega), nI_I (by omega), nI_I (by omega), nI_I (by omega)]
              omega
            · rw [up_s, hBi i hi]
              rw [hLI] at h9
              have := q2.2.1.1 i hi
              have h0 := hU0 i (by omega) hi
              rw [show r i = 0 by omega]; rfl
        · simp [h1, h1a, h1b, h2, h3, h3a, h3b, h4, hst]
      · by_cases h3a : a3.toInt < a2.toInt
        · simp [h1, h1a, h1b, h2, h3, h3a, hst]
        · have h3b : ¬ (0 ≤ a3.toInt ∧ a3.toInt ≤ 1000) := by omega
          simp [h1, h1a, h1b, h2, h3, h3a, h3b, hst]
    · by_cases h3a : a3.toInt < a2.toInt
      · simp [h1, h1a, h1b, h2, h3a, hst]
      · simp [h1, h1a, h1b, h2, h3a, hst]
  · by_cases h1a : a1.toInt < 1
    · simp [h1, h1a, hst]
    · have h1b : 40 < a1.toInt := by omega
      simp [h1, h1a, h1b, hst]
