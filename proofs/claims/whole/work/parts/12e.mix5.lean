/-! the search, whole -/
theorem q_stays {N n M lot v rest : Nat} {P T E U Cc p : Nat → Nat} {g : gFG} {f : gFF} {Q : Int32 → gFG → gFF → Prop} (hN : 1000 ≤ N) (hn : n ≤ 40) (hM : M ≤ 4) (hS : SS n M P T E U Cc g f) (hl : lot < M) (hCr : ∀ s, s < 4 → -1 ≤ (f 27 s).toInt ∧ (f 27 s).toInt ≤ 40000) (hsum : su p lot + v + rest ≤ n) (hrest : rest + su U (lot + 1) ≤ su U (M + 2)) (hsm : ∀ s, s < 4 → f (39 + s) lot = nI (sw (wt P T E s) p lot)) (h1 : ∀ f', (∀ j, ¬ (39 ≤ j ∧ j < 43) → f' j = f j) → (∀ s i, s < 4 → i ≠ lot + 1 → f' (39 + s) i = f (39 + s) i) → (∀ s, s < 4 → f' (39 + s) (lot + 1) = nI (sw (wt P T E s) p lot + v * wt P T E s lot)) → Q 1 g f') (h0 : ∀ f' s, (∀ j, ¬ (39 ≤ j ∧ j < 43) → f' j = f j) → (∀ s i, s < 4 → i ≠ lot + 1 → f' (39 + s) i = f (39 + s) i) → s < 4 → (f 27 s).toInt < ((sw (wt P T E s) p lot + v * wt P T E s lot : Nat) : Int) + (f (35 + s) (41 * (lot + 1) + rest)).toInt → Q 0 g f') : wX5_staysBelow N (nI lot) (nI v) (nI rest) g f Q := by
  obtain ⟨h14, hR, hw, hFO, hC⟩ := id hS
  have hwle : ∀ s i, i < 6 → wt P T E s i ≤ 1000 := fun s i hi => wt_le hR hi
  unfold wX5_staysBelow
  refine lpU (β := gFF) (fun fu s f1 => wX5_staysBelow_l3 N (nI lot) (nI v) (nI rest) Q fu (nI s) g f1) (fun s f1 => (∀ j, ¬ (39 ≤ j ∧ j < 43) → f1 j = f j) ∧ (∀ s i, s < 4 → i ≠ lot + 1 → f1 (39 + s) i = f (39 + s) i) ∧ ∀ s', s' < s → f1 (39 + s') (lot + 1) = nI (sw (wt P T E s') p lot + v * wt P T E s' lot)) 4 ?_ ?_ 0 N f (by omega) (by omega) ⟨fun _ _ => rfl, fun _ _ _ _ => rfl, fun s' hs' => absurd hs' (by omega)⟩
  · rintro fu f1 ⟨i1, i2, i3⟩
    unfold wX5_staysBelow_l3
    exact ⟨fun _ => h1 f1 i1 i2 i3, fun c => absurd (nI_le (Nat.le_refl 4) (by decide)) c⟩
  · rintro fu s f1 hs ⟨i1, i2, i3⟩ ih
    have hin : vp_in (nI s) 4 := vp_in_nI hs (by decide)
    have b1 : sw (wt P T E s) p lot ≤ 1000 * su p lot := sw_le (fun i hi => hwle s i (by omega))
    have b2 : v * wt P T E s lot ≤ v * 1000 := Nat.mul_le_mul_left v (hwle s lot (by omega))
    have b3 := (hFO.2 s (lot + 1) hs (by omega) (by omega)).2.1 rest (by omega) hrest
    dsimp only at b3
    have mI : ∀ a b : Nat, nI a * nI b = nI (a * b) := fun a b => (Int32.ofNat_mul a b).symm
    unfold wX5_staysBelow_l3
    refine ⟨fun c => absurd c (nI_ge hs (by decide)), fun _ => ?_⟩
    rw [nI_clamp (show s < 2 ^ 31 by omega), nI_clamp (show lot < 2 ^ 31 by omega)]
    refine ⟨hin, giaS hs (by omega), hin, giaW hs (by omega), ?_⟩
    rw [i2 s lot hs (by omega), hsm s hs, i1 (31 + s) (by omega), hw s lot hs (by omega), mI, nI_add]
    rintro _ rfl
    refine ⟨hin, ?_⟩
    rw [nI_1, nI_m41, nI_add]
    rintro _ rfl
    refine ⟨giaL hs (by omega), hin, ?_⟩
    rw [nI_clamp (show 41 * (lot + 1) + rest < 2 ^ 31 by omega), i1 (35 + s) (by omega), i1 27 (by omega), le_I, add_I (by rw [nI_I (by omega)]; omega) (by rw [nI_I (by omega)]; omega), nI_I (by omega)]
    refine ⟨fun c => ⟨hin, ?_⟩, fun c => h0 f1 s i1 i2 hs (by omega)⟩
    rintro _ rfl
    refine ⟨giaS hs (by omega), ?_⟩
    rw [nI_clamp (show lot + 1 < 2 ^ 31 by omega)]
    rintro _ rfl _ rfl
    rw [nI_1]
    refine ih _ ⟨fun j hj => ?_, fun s' i hs' hi => ?_, fun s' hs' => ?_⟩
    · rw [up_n _ _ (by omega)]; exact i1 j hj
    · by_cases e : s' = s
      · subst e
        rw [up_s, upd_ne _ _ hi]; exact i2 s' i hs' hi
      · rw [up_n _ _ (show 39 + s' ≠ 39 + s by omega)]; exact i2 s' i hs' hi
    · by_cases e : s' = s
      · subst e
        rw [up_s, upd_at]
      · rw [up_n _ _ (show 39 + s' ≠ 39 + s by omega)]; exact i3 s' (by omega)
def pu (p : Nat → Nat) (k v : Nat) : Nat → Nat := fun i => if i = k then v else p i
theorem pu_lt (p : Nat → Nat) {k v i : Nat} (h : i < k) : pu p k v i = p i := by unfold pu; rw [if_neg (by omega)]
theorem pu_at (p : Nat → Nat) (k v : Nat) : pu p k v k = v := by unfold pu; rw [if_pos rfl]
theorem Bf_s {p r : Nat → Nat} {k v : Nat} : Bf (pu p k v) (k + 1) r ↔ Bf p k r ∨ (Ag p k r ∧ r k < v) := by
  constructor
  · rintro ⟨i, a1, a2, a3⟩
    by_cases e : i = k
    · subst e
      rw [pu_at] at a3
      exact Or.inr ⟨fun j hj => by rw [a2 j hj, pu_lt p hj], a3⟩
    · rw [pu_lt p (show i < k by omega)] at a3
      exact Or.inl ⟨i, by omega, fun j hj => by rw [a2 j hj, pu_lt p (by omega)], a3⟩
  · rintro (⟨i, a1, a2, a3⟩ | ⟨a1, a2⟩)
    · exact ⟨i, by omega, fun j hj => by rw [a2 j hj, pu_lt p (by omega)], by rw [pu_lt p a1]; exact a3⟩
    · exact ⟨k, by omega, fun j hj => by rw [a1 j hj, pu_lt p hj], by rw [pu_at]; exact a2⟩
theorem Ag_s {p r : Nat → Nat} {k v : Nat} : Ag (pu p k v) (k + 1) r ↔ Ag p k r ∧ r k = v := by
  constructor
  · intro h
    exact ⟨fun j hj => by rw [h j (by omega), pu_lt p hj], by rw [h k (by omega), pu_at]⟩
  · rintro ⟨h1, h2⟩ j hj
    by_cases e : j = k
    · rw [e, h2, pu_at]
    · rw [pu_lt p (by omega)]; exact h1 j (by omega)
theorem q_search {N n M : Nat} {P T E U Cc : Nat → Nat} {F : (Nat → Nat) → Prop} {prc : (Nat → Nat) → Nat} (hN : 1000 ≤ N) (hn : n ≤ 40) (hM : M ≤ 4) (hF : FF n M P T E U Cc F prc) : ∀ (d lot rest fu : Nat) (p : Nat → Nat) (g : gFG) (f : gFF) (Q : gFG → gFF → Prop), lot + d = M → d < fu → SS n M P T E U Cc g f → su p lot + rest = n → (∀ i, i < lot → p i ≤ U i) → (∀ i, i < lot → f 29 i = nI (p i)) → (∀ i, M + 2 ≤ i → i < 6 → f 29 i = 0) → (∀ s, s < 4 → f (39 + s) lot = nI (sw (wt P T E s) p lot)) → BO F prc n (Bf p lot) (g 17) (f 27 0) (f 30) → (∀ g' f', FX g f g' f' → (∀ i, i < lot → f' 29 i = nI (p i)) → (∀ i, M + 2 ≤ i → i < 6 → f' 29 i = 0) → (∀ s i, s < 4 → i ≤ lot → f' (39 + s) i = f (39 + s) i) → BO F prc n (fun r => Bf p lot r ∨ Ag p lot r) (g' 17) (f' 27 0) (f' 30) → Q g' f') → wX5_search N fu (nI lot) (nI rest) g f Q := by
  intro d
  induction d with
  | zero =>
    intro lot rest fu p g f Q h1 h2 hS hsum hpU hrow hz hsm hB h
    obtain ⟨fu, rfl⟩ : ∃ k, fu = k + 1 := ⟨fu - 1, by omega⟩
    have : lot = M := by omega
    subst this
    unfold wX5_search wX5_searchB
    rw [hS.1, nI_pred, nI_ltI (by omega) (by omega)]
    refine ⟨fun c => by omega, fun _ => ?_⟩
    exact q_share hN hn hM hS hF hsum hpU hrow hz hsm hB (fun g' f' a b c e k => h g' f' a b c (fun s i hs _ => e s i hs) k)
  | succ d ihd =>
    intro lot rest fu p g f Q h1 h2 hS hsum hpU hrow hz hsm hB h
    obtain ⟨fu, rfl⟩ : ∃ k, fu = k + 1 := ⟨fu - 1, by omega⟩
    obtain ⟨h14, hR, hw, hFO, hC⟩ := id hS
    obtain ⟨hF1, hF2, hU0, hCc⟩ := id hF
    have hpr := FF_p hM hF hR
    have hU40 : ∀ i, i < 6 → U i ≤ 40 := fun i hi => (hR i hi).2.2.2.2
    have hUl : (if lhB (g 13) (nI lot) = true then f 23 lot else 0) = nI (U lot) := (hR lot (by omega)).1.2.2.2
    have eU := hU40 lot (by omega)
    have hsu : su U (lot + 1) = su U lot + U lot := rfl
    have hmo := su_mono U (show lot + 1 ≤ M + 2 by omega)
    have hB240 : su U (M + 2) ≤ 240 := by
      have : ∀ k, k ≤ 6 → su U k ≤ 40 * k := by
        intro k
        induction k with
        | zero => intro _; exact Nat.le_refl _
        | succ k ih => intro hk; rw [su]; have := ih (by omega); have := hU40 k (by omega); omega
      have := this (M + 2) (by omega)
      omega
    unfold wX5_search wX5_searchB
    rw [h14, nI_pred, nI_ltI (by omega) (by omega)]
    refine ⟨fun _ => ?_, fun c => by omega⟩
    rw [q_unitsAt, nI_clamp (show lot < 2 ^ 31 by omega), hUl, q_min]
    have ehi : (if (nI rest).toInt ≤ (nI (U lot)).toInt then nI rest else nI (U lot)) = nI (min rest (U lot)) := by
      rw [nI_I (by omega), nI_I (by omega)]
      by_cases c : rest ≤ U lot
      · rw [if_pos (by omega), Nat.min_eq_left c]
      · rw [if_neg (by omega), Nat.min_eq_right (by omega)]
    rw [ehi, nI_1]
    rintro _ rfl
    refine ⟨vp_in_nI (by omega) (by decide), ?_⟩
    rw [nI_clamp (show lot + 1 < 2 ^ 31 by omega), hFO.1 (lot + 1) (by omega) (by omega), q_max]
    have elo : (if (nI rest - nI (su U (M + 2) - su U (lot + 1))).toInt ≤ (0 : Int32).toInt then (0 : Int32) else nI rest - nI (su U (M + 2) - su U (lot + 1))) = nI (rest - (su U (M + 2) - su U (lot + 1))) := by
      have e1 : (nI rest - nI (su U (M + 2) - su U (lot + 1))).toInt = (rest : Int) - (su U (M + 2) - su U (lot + 1) : Nat) := by rw [sub_I (by rw [nI_I (by omega), nI_I (by omega)]; omega) (by rw [nI_I (by omega), nI_I (by omega)]; omega), nI_I (by omega), nI_I (by omega)]
      rw [e1, z_0]
      by_cases c : rest ≤ su U (M + 2) - su U (lot + 1)
      · rw [if_pos (by omega), Nat.sub_eq_zero_of_le c]; rfl
      · rw [if_neg (by omega), nI_subn (by omega)]
    rw [elo]
    -- where a feasible row has its unit
    have place : ∀ r, Ag p lot r → F r → r lot ≤ min rest (U lot) ∧ rest - (su U (M + 2) - su U (lot + 1)) ≤ r lot := by
      intro r ha hr
      obtain ⟨c1, c2, -⟩ := (hF1 r).mp hr
      have e1 : su r lot = su p lot := su_c (fun i hi => ha i hi)
      have e2 : su r (lot + 1) = su r lot + r lot := rfl
      have e3 := su_mono r (show lot + 1 ≤ M + 2 by omega)
      have e4 := c1 lot (by omega)
      have e5 := su_tail (show lot + 1 ≤ M + 2 by omega) (fun i hi => c1 i (by omega))
      omega
    have finish : ∀ (v : Nat) (g' : gFG) (f' : gFF), min rest (U lot) < v → FX g f g' f' → (∀ i, i < lot → f' 29 i = nI (p i)) → (∀ i, M + 2 ≤ i → i < 6 → f' 29 i = 0) → (∀ s i, s < 4 → i ≤ lot → f' (39 + s) i = f (39 + s) i) → BO F prc n (fun r => Bf p lot r ∨ (Ag p lot r ∧ r lot < v)) (g' 17) (f' 27 0) (f' 30) → Q g' f' := by
      intro v g' f' hv a b c e k
      refine h g' f' a b c e (BO_c k (fun r hr => ⟨?_, ?_⟩))
      · rintro (q | ⟨q, -⟩)
        · exact Or.inl q
        · exact Or.inr q
      · rintro (q | q)
        · exact Or.inl q
        · exact Or.inr ⟨q, by have := (place r q hr).1; omega⟩
    have hB0 : BO F prc n (fun r => Bf p lot r ∨ (Ag p lot r ∧ r lot < rest - (su U (M + 2) - su U (lot + 1)))) (g 17) (f 27 0) (f 30) := by
      refine BO_c hB (fun r hr => ⟨fun q => Or.inl q, ?_⟩)
      rintro (q | ⟨q, q2⟩)
      · exact q
      · have := (place r q hr).2; omega
    by_cases hv0 : min rest (U lot) < rest - (su U (M + 2) - su U (lot + 1))
    · -- none fits
      obtain ⟨N2, hN2⟩ : ∃ k, N = k + 1 := ⟨N - 1, by omega⟩
      have key : ∀ m, wX5_searchB_l45 N (wX5_search N fu) (nI lot) (nI rest) (nI (min rest (U lot))) Q (m + 1) (nI (rest - (su U (M + 2) - su U (lot + 1)))) g f := by
        intro m
        unfold wX5_searchB_l45
        rw [nI_ltI (by omega) (by omega)]
        exact ⟨fun _ => finish _ g f hv0 (FX_r g f) hrow hz (fun _ _ _ _ => rfl) hB0, fun c => absurd hv0 c⟩
      have := key N2
      rw [← hN2] at this
      exact this
    · refine lpU (β := gFG × gFF) (fun m v b => wX5_searchB_l45 N (wX5_search N fu) (nI lot) (nI rest) (nI (min rest (U lot))) Q m (nI v) b.1 b.2) (fun v b => rest - (su U (M + 2) - su U (lot + 1)) ≤ v ∧ FX g f b.1 b.2 ∧ (∀ i, i < lot → b.2 29 i = nI (p i)) ∧ (∀ i, M + 2 ≤ i → i < 6 → b.2 29 i = 0) ∧ (∀ s i, s < 4 → i ≤ lot → b.2 (39 + s) i = f (39 + s) i) ∧ BO F prc n (fun r => Bf p lot r ∨ (Ag p lot r ∧ r lot < v)) (b.1 17) (b.2 27 0) (b.2 30)) (min rest (U lot) + 1) ?_ ?_ (rest - (su U (M + 2) - su U (lot + 1))) N (g, f) (by omega) (by omega) ⟨Nat.le_refl _, FX_r g f, hrow, hz, fun _ _ _ _ => rfl, hB0⟩
      · rintro m ⟨g1, f1⟩ ⟨i0, i1, i2, i3, i4, i5⟩
        dsimp only at i1 i2 i3 i4 i5 ⊢
        unfold wX5_searchB_l45
        refine ⟨fun _ => finish _ g1 f1 (by omega) i1 i2 i3 i4 i5, fun c => absurd (nI_lt (Nat.lt_succ_self _) (by omega)) c⟩
      · rintro m v ⟨g1, f1⟩ hv ⟨i0, i1, i2, i3, i4, i5⟩ ih
        dsimp only at i1 i2 i3 i4 i5 ⊢
        have hS1 := SS_x hS i1
        have hvr : v ≤ rest := by omega
        have hvU : v ≤ U lot := by omega
        unfold wX5_searchB_l45
        refine ⟨fun c => ?_, fun _ => ?_⟩
        · rw [nI_ltI (by omega) (by omega)] at c; omega
        rw [nI_subn hvr]
        unfold wX5_goOn
        have hC1 := BO_r hn hpr i5
        have hCr : ∀ s, s < 4 → -1 ≤ (f1 27 s).toInt ∧ (f1 27 s).toInt ≤ 40000 := by
          intro s hs
          by_cases e : s = 0
          · rw [e]; exact hC1
          · rw [hS1.2.2.2.2 s (by omega) hs, nI_I (by have := hCc s; omega)]
            have := hCc s; omega
        have hsm1 : ∀ s, s < 4 → f1 (39 + s) lot = nI (sw (wt P T E s) p lot) := fun s hs => by rw [i4 s lot hs (Nat.le_refl _)]; exact hsm s hs
        -- the rows behind this unit
        have beh : ∀ r, Ag (pu p lot v) (lot + 1) r → F r → ∀ s, s < 4 → ((sw (wt P T E s) p lot + v * wt P T E s lot : Nat) : Int) + (f1 (35 + s) (41 * (lot + 1) + (rest - v))).toInt ≤ sw (wt P T E s) r (M + 2) := by
          intro r ha hr s hs
          obtain ⟨c1, c2, -⟩ := (hF1 r).mp hr
          have hag := Ag_s.mp ha
          have e1 : su r (lot + 1) = su p lot + v := by
            show su r lot + r lot = _
            rw [su_c (fun i hi => hag.1 i hi), hag.2]
          have e2 : sw (wt P T E s) r (lot + 1) = sw (wt P T E s) p lot + v * wt P T E s lot := by
            show su (fun i => r i * wt P T E s i) lot + r lot * wt P T E s lot = _
            rw [su_c (h' := fun i => p i * wt P T E s i) (fun i hi => by rw [hag.1 i hi]), hag.2]
          have := (hS1.2.2.2.1.2 s (lot + 1) hs (by omega) (by omega)).2.2.2 r (fun i hi => c1 i (by omega)) (rest - v) (by omega) (by omega)
          rw [e2] at this
          dsimp only at this
          omega
        refine q_stays (p := p) hN hn hM hS1 (by omega) hCr (by omega) (by omega) hsm1 (fun f2 j1 j2 j3 => ?_) (fun f2 s j1 j2 hs hlt => ?_)
        · refine ⟨fun c => absurd c (by decide), fun _ => ⟨vp_in_nI (by omega) (by decide), ?_⟩⟩
          rw [nI_clamp (show lot < 2 ^ 31 by omega), nI_1]
          rintro _ rfl
          have hX : FX g1 f1 g1 (va_up f2 29 (upd (f2 29) lot (nI v))) := ⟨fun _ _ _ _ => rfl, fun j a b c e => by rw [up_n _ _ b]; exact j1 j e, fun s hs => by rw [up_n _ _ (by decide), j1 27 (by omega)]⟩
          have e29 : f2 29 = f1 29 := j1 29 (by omega)
          have e27 : f2 27 = f1 27 := j1 27 (by omega)
          have e30 : f2 30 = f1 30 := j1 30 (by omega)
          refine ihd (lot + 1) (rest - v) fu (pu p lot v) g1 _ _ (by omega) (by omega) (SS_x hS1 hX) ?_ (fun i hi => ?_) (fun i hi => ?_) (fun i a b => ?_) (fun s hs => ?_) ?_ (fun g3 f3 k1 k2 k3 k4 k5 => ?_)
          · show su (pu p lot v) lot + pu p lot v lot + (rest - v) = n
            rw [su_c (h' := p) (fun i hi => pu_lt p hi), pu_at]; omega
          · by_cases e : i = lot
            · rw [e, pu_at]; exact hvU
            · rw [pu_lt p (by omega)]; exact hpU i (by omega)
          · rw [up_s]
            by_cases e : i = lot
            · rw [e, upd_at, pu_at]
            · rw [upd_ne _ _ e, pu_lt p (by omega), e29]; exact i2 i (by omega)
          · rw [up_s, upd_ne _ _ (by omega), e29]; exact i3 i a b
          · rw [up_n _ _ (by omega), j3 s hs]
            have : sw (wt P T E s) (pu p lot v) (lot + 1) = sw (wt P T E s) p lot + v * wt P T E s lot := by
              show su (fun i => pu p lot v i * wt P T E s i) lot + pu p lot v lot * wt P T E s lot = _
              rw [su_c (h' := fun i => p i * wt P T E s i) (fun i hi => by rw [pu_lt p hi]), pu_at]
            rw [this]
          · rw [up_n _ _ (by decide), up_n _ _ (by decide), e27, e30]
            exact BO_c i5 (fun r _ => Bf_s.symm)
          · rintro _ rfl
            rw [nI_1]
            refine ih (g3, f3) ⟨by omega, FX_t i1 (FX_t hX k1), fun i hi => ?_, k3, fun s i hs hi => ?_, BO_c k5 (fun r _ => ?_)⟩
            · dsimp only
              rw [k2 i (by omega), pu_lt p hi]
            · dsimp only
              rw [k4 s i hs (by omega), up_n _ _ (by omega), j2 s i hs (by omega)]; exact i4 s i hs hi
            · rw [Bf_s, Ag_s]
              constructor
              · rintro ((q | ⟨q1, q2⟩) | ⟨q1, q2⟩)
                · exact Or.inl q
                · exact Or.inr ⟨q1, by omega⟩
                · exact Or.inr ⟨q1, by omega⟩
              · rintro (q | ⟨q1, q2⟩)
                · exact Or.inl (Or.inl q)
                · by_cases e : r lot = v
                  · exact Or.inr ⟨q1, e⟩
                  · exact Or.inl (Or.inr ⟨q1, by omega⟩)
        · refine ⟨fun _ => ?_, fun c => absurd rfl c⟩
          rintro _ rfl
          rw [nI_1]
          have e29 : f2 29 = f1 29 := j1 29 (by omega)
          have e27 : f2 27 = f1 27 := j1 27 (by omega)
          have e30 : f2 30 = f1 30 := j1 30 (by omega)
          refine ih (g1, f2) ⟨by omega, FX_t i1 ⟨fun _ _ _ _ => rfl, fun j a b c e => j1 j e, fun s hs => by dsimp only; rw [e27]⟩, fun i hi => by dsimp only; rw [e29]; exact i2 i hi, fun i a b => by dsimp only; rw [e29]; exact i3 i a b, fun s i hs hi => by dsimp only; rw [j2 s i hs (by omega)]; exact i4 s i hs hi, ?_⟩
          show BO F prc n (fun r => Bf p lot r ∨ (Ag p lot r ∧ r lot < v + 1)) (g1 17) (f2 27 0) (f2 30)
          rw [e27, e30]
          refine BO_skip hn hpr i5 (fun r q => q.elim Or.inl (fun q => Or.inr ⟨q.1, by omega⟩)) (fun r q hr => ?_)
          rcases q with q | ⟨q1, q2⟩
          · exact Or.inl (Or.inl q)
          · by_cases e : r lot = v
            · have ha : Ag (pu p lot v) (lot + 1) r := Ag_s.mpr ⟨q1, e⟩
              have hb := beh r ha hr s hs
              by_cases es : s = 0
              · subst es
                refine Or.inr ⟨by rw [hF2 r hr]; omega, fun r0 hr0 => lx_as (Bf_lx (k := lot + 1) (by omega) (Bf_s.mpr hr0) ha)⟩
              · exfalso
                have h3 := ((hF1 r).mp hr).2.2 s (by omega) hs
                rw [hS1.2.2.2.2 s (by omega) hs, nI_I (by have := hCc s; omega)] at hlt
                omega
            · exact Or.inl (Or.inr ⟨q1, by omega⟩)
