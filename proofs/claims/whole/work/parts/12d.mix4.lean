/-! the search -/
def SS (n M : Nat) (P T E U Cc : Nat → Nat) (g : gFG) (f : gFF) : Prop := g 14 = nI (M + 1) ∧ LR P T E U g f ∧ (∀ s i, s < 4 → i < 6 → f (31 + s) i = nI (wt P T E s i)) ∧ FO n (M + 2) P T E U 0 f ∧ ∀ s, 1 ≤ s → s < 4 → f 27 s = nI (Cc s)
def FX (g : gFG) (f : gFF) (g' : gFG) (f' : gFF) : Prop := (∀ j, j ≠ 15 → j ≠ 16 → j ≠ 17 → g' j = g j) ∧ (∀ j, j ≠ 27 → j ≠ 29 → j ≠ 30 → ¬ (39 ≤ j ∧ j < 43) → f' j = f j) ∧ ∀ s, 1 ≤ s → f' 27 s = f 27 s
theorem FX_r (g : gFG) (f : gFF) : FX g f g f := ⟨fun _ _ _ _ => rfl, fun _ _ _ _ _ => rfl, fun _ _ => rfl⟩
theorem FX_t {g g' g'' : gFG} {f f' f'' : gFF} (h1 : FX g f g' f') (h2 : FX g' f' g'' f'') : FX g f g'' f'' := ⟨fun j a b c => (h2.1 j a b c).trans (h1.1 j a b c), fun j a b c d => (h2.2.1 j a b c d).trans (h1.2.1 j a b c d), fun s hs => (h2.2.2 s hs).trans (h1.2.2 s hs)⟩
theorem SS_x {n M : Nat} {P T E U Cc : Nat → Nat} {g g' : gFG} {f f' : gFF} (h : SS n M P T E U Cc g f) (hx : FX g f g' f') : SS n M P T E U Cc g' f' := by
  obtain ⟨a1, a2, a3, a4, a5⟩ := h
  obtain ⟨b1, b2, b3⟩ := hx
  refine ⟨(b1 14 (by decide) (by decide) (by decide)).trans a1, LR_f a2 (b1 13 (by decide) (by decide) (by decide)) (b2 20 (by decide) (by decide) (by decide) (by omega)) (b2 21 (by decide) (by decide) (by decide) (by omega)) (b2 22 (by decide) (by decide) (by decide) (by omega)) (b2 23 (by decide) (by decide) (by decide) (by omega)), fun s i hs hi => ?_, ⟨fun i c d => ?_, fun s lot c d e => ?_⟩, fun s c d => ?_⟩
  · rw [b2 (31 + s) (by omega) (by omega) (by omega) (by omega)]; exact a3 s i hs hi
  · rw [b2 28 (by decide) (by decide) (by decide) (by omega)]; exact a4.1 i c d
  · rw [b2 (35 + s) (by omega) (by omega) (by omega) (by omega)]; exact a4.2 s lot c d e
  · rw [b3 s c]; exact a5 s c d
/-- what is feasible, in the mixer's words -/
def FF (n M : Nat) (P T E U Cc : Nat → Nat) (F : (Nat → Nat) → Prop) (prc : (Nat → Nat) → Nat) : Prop := (∀ r, F r ↔ (∀ i, i < 6 → r i ≤ U i) ∧ su r (M + 2) = n ∧ ∀ s, 1 ≤ s → s < 4 → sw (wt P T E s) r (M + 2) ≤ Cc s) ∧ (∀ r, F r → prc r = sw (wt P T E 0) r (M + 2)) ∧ (∀ i, M + 2 ≤ i → i < 6 → U i = 0) ∧ ∀ s, Cc s ≤ 40000
theorem FF_p {n M : Nat} {P T E U Cc : Nat → Nat} {F : (Nat → Nat) → Prop} {prc : (Nat → Nat) → Nat} {g : gFG} {f : gFF} (hM : M ≤ 4) (hF : FF n M P T E U Cc F prc) (hR : LR P T E U g f) : ∀ r, F r → prc r ≤ 1000 * n := by
  intro r hr
  rw [hF.2.1 r hr]
  have h1 := ((hF.1 r).mp hr).2.1
  have := sw_le (w := wt P T E 0) (r := r) (x := M + 2) (fun i hi => wt_le hR (by omega))
  rw [h1] at this
  exact this
theorem con_iff {x rest wl wk S : Nat} {C : Int} (hx : x ≤ rest) : (((S + x * wl + (rest - x) * wk : Nat) : Int) ≤ C) ↔ (x : Int) * ((wl : Int) - wk) ≤ C - S - rest * wk := by
  have e : ((rest - x : Nat) : Int) = (rest : Int) - x := by omega
  rw [Int.natCast_add, Int.natCast_add, Int.natCast_mul, Int.natCast_mul, e, Int.mul_sub, Int.sub_mul]
  omega
def qr (p : Nat → Nat) (M rest x : Nat) : Nat → Nat := fun i => if i < M then p i else if i = M then x else if i = M + 1 then rest - x else 0
theorem qr_su (p : Nat → Nat) (M rest x : Nat) (w : Nat → Nat) : sw w (qr p M rest x) (M + 2) = sw w p M + x * w M + (rest - x) * w (M + 1) := by
  have e1 : su (fun i => qr p M rest x i * w i) M = su (fun i => p i * w i) M := su_c (fun i hi => by unfold qr; rw [if_pos hi])
  show su (fun i => qr p M rest x i * w i) M + qr p M rest x M * w M + qr p M rest x (M + 1) * w (M + 1) = _
  rw [e1]
  unfold qr
  rw [if_neg (by omega), if_pos rfl, if_neg (by omega), if_neg (by omega), if_pos rfl]
theorem qr_s1 (p : Nat → Nat) (M rest x : Nat) : su (qr p M rest x) (M + 2) = su p M + x + (rest - x) := by
  have e1 : su (qr p M rest x) M = su p M := su_c (fun i hi => by unfold qr; rw [if_pos hi])
  show su (qr p M rest x) M + qr p M rest x M + qr p M rest x (M + 1) = _
  rw [e1]
  unfold qr
  rw [if_neg (by omega), if_pos rfl, if_neg (by omega), if_neg (by omega), if_pos rfl]
theorem ag_su {p r : Nat → Nat} {M : Nat} (h : Ag p M r) (w : Nat → Nat) : sw w r (M + 2) = sw w p M + r M * w M + r (M + 1) * w (M + 1) ∧ su r (M + 2) = su p M + r M + r (M + 1) := by
  have e1 : su (fun i => r i * w i) M = su (fun i => p i * w i) M := su_c (fun i hi => by rw [h i hi])
  have e2 : su r M = su p M := su_c (fun i hi => h i hi)
  constructor
  · show su (fun i => r i * w i) M + r M * w M + r (M + 1) * w (M + 1) = _
    rw [e1]
  · show su r M + r M + r (M + 1) = _
    rw [e2]
theorem q_share {N n M rest : Nat} {P T E U Cc p : Nat → Nat} {F : (Nat → Nat) → Prop} {prc : (Nat → Nat) → Nat} {g : gFG} {f : gFF} {Q : gFG → gFF → Prop} (hN : 1000 ≤ N) (hn : n ≤ 40) (hM : M ≤ 4) (hS : SS n M P T E U Cc g f) (hF : FF n M P T E U Cc F prc) (hsum : su p M + rest = n) (hpU : ∀ i, i < M → p i ≤ U i) (hrow : ∀ i, i < M → f 29 i = nI (p i)) (hz : ∀ i, M + 2 ≤ i → i < 6 → f 29 i = 0) (hsm : ∀ s, s < 4 → f (39 + s) M = nI (sw (wt P T E s) p M)) (hB : BO F prc n (Bf p M) (g 17) (f 27 0) (f 30)) (h : ∀ g' f', FX g f g' f' → (∀ i, i < M → f' 29 i = nI (p i)) → (∀ i, M + 2 ≤ i → i < 6 → f' 29 i = 0) → (∀ s i, s < 4 → f' (39 + s) i = f (39 + s) i) → BO F prc n (fun r => Bf p M r ∨ Ag p M r) (g' 17) (f' 27 0) (f' 30) → Q g' f') : wX5_shareOut N (nI rest) g f Q := by
  obtain ⟨h14, hR, hw, hFO, hC⟩ := id hS
  obtain ⟨hF1, hF2, hU0, hCc⟩ := id hF
  have hpr := FF_p hM hF hR
  have hCr := BO_r hn hpr hB
  have hU : ∀ i, i < 6 → (if lhB (g 13) (nI i) = true then f 23 i else 0) = nI (U i) := fun i hi => (hR i hi).1.2.2.2
  have hU40 : ∀ i, i < 6 → U i ≤ 40 := fun i hi => (hR i hi).2.2.2.2
  have hwle : ∀ s i, i < 6 → wt P T E s i ≤ 1000 := fun s i hi => wt_le hR hi
  have hS40 : ∀ s, sw (wt P T E s) p M ≤ 40000 := by
    intro s
    have := sw_le (w := wt P T E s) (r := p) (x := M) (fun i hi => hwle s i (by omega))
    omega
  have hCs : ∀ s, s < 4 → -1 ≤ (f 27 s).toInt ∧ (f 27 s).toInt ≤ 40000 := by
    intro s hs
    by_cases e : s = 0
    · rw [e]; exact hCr
    · rw [hC s (by omega) hs, nI_I (by have := hCc s; omega)]
      have := hCc s; omega
  -- what is feasible here
  have row : ∀ r, Ag p M r → F r → r M + r (M + 1) = rest ∧ r M ≤ U M ∧ r (M + 1) ≤ U (M + 1) := by
    intro r ha hr
    obtain ⟨c1, c2, -⟩ := (hF1 r).mp hr
    rw [(ag_su ha (fun _ => 0)).2] at c2
    exact ⟨by omega, c1 M (by omega), c1 (M + 1) (by omega)⟩
  unfold wX5_shareOut
  rintro _ rfl
  rw [h14, nI_pred]
  rw [q_unitsAt, nI_clamp (show M + 1 < 2 ^ 31 by omega), hU (M + 1) (by omega), q_max]
  have eU1 := hU40 (M + 1) (by omega)
  have eU0 := hU40 M (by omega)
  have elo : (if (nI rest - nI (U (M + 1))).toInt ≤ (0 : Int32).toInt then (0 : Int32) else nI rest - nI (U (M + 1))) = nI (rest - U (M + 1)) := by
    have e1 : (nI rest - nI (U (M + 1))).toInt = (rest : Int) - U (M + 1) := by rw [sub_I (by rw [nI_I (by omega), nI_I (by omega)]; omega) (by rw [nI_I (by omega), nI_I (by omega)]; omega), nI_I (by omega), nI_I (by omega)]
    rw [e1, z_0]
    by_cases c : rest ≤ U (M + 1)
    · rw [if_pos (by omega), Nat.sub_eq_zero_of_le c]; rfl
    · rw [if_neg (by omega), nI_subn (by omega)]
  rw [elo]
  rintro _ rfl
  have g13 : (va_up g 15 (nI (rest - U (M + 1)))) 13 = g 13 := rfl
  rw [q_unitsAt, g13, nI_clamp (show M < 2 ^ 31 by omega), hU M (by omega), q_min]
  have ehi : (if (nI rest).toInt ≤ (nI (U M)).toInt then nI rest else nI (U M)) = nI (min rest (U M)) := by
    rw [nI_I (by omega), nI_I (by omega)]
    by_cases c : rest ≤ U M
    · rw [if_pos (by omega), Nat.min_eq_left c]
    · rw [if_neg (by omega), Nat.min_eq_right (by omega)]
  rw [ehi]
  rintro _ rfl
  -- narrowing
  refine lpU (β := Int32 × Int32) (fun fu s b => wX5_shareOut_l46 N (nI rest) (nI M) Q fu (nI s) (va_up (va_up g 15 b.1) 16 b.2) f) (fun s b => (0 ≤ b.1.toInt ∧ b.1.toInt ≤ 200000) ∧ (-200000 ≤ b.2.toInt ∧ b.2.toInt ≤ 200000) ∧ ∀ x : Int, (b.1.toInt ≤ x ∧ x ≤ b.2.toInt) ↔ (((rest - U (M + 1) : Nat) : Int) ≤ x ∧ x ≤ (min rest (U M) : Nat)) ∧ ∀ s', s' < s → x * ((wt P T E s' M : Int) - wt P T E s' (M + 1)) ≤ (f 27 s').toInt - sw (wt P T E s') p M - rest * wt P T E s' (M + 1)) 4 ?_ ?_ 0 N (nI (rest - U (M + 1)), nI (min rest (U M))) (by omega) (by omega) ⟨?_, ?_, fun x => ?_⟩
  · rintro fu ⟨lo, hi⟩ ⟨b1, b2, b3⟩
    dsimp only at b1 b2 b3 ⊢
    have g14 : (va_up (va_up g 15 lo) 16 hi) 14 = nI (M + 1) := h14
    have g15 : (va_up (va_up g 15 lo) 16 hi) 15 = lo := rfl
    have g16 : (va_up (va_up g 15 lo) 16 hi) 16 = hi := rfl
    have g17 : (va_up (va_up g 15 lo) 16 hi) 17 = g 17 := rfl
    have hv0 : vp_in 0 4 := vp_in_nI (show 0 < 4 by omega) (by decide)
    -- a feasible row's place
    have place : ∀ r, Ag p M r → F r → ((rest - U (M + 1) : Nat) : Int) ≤ (r M : Int) ∧ (r M : Int) ≤ (min rest (U M) : Nat) := by
      intro r ha hr
      obtain ⟨c1, c2, c3⟩ := row r ha hr
      omega
    have cons : ∀ r, Ag p M r → F r → ∀ s, 1 ≤ s → s < 4 → (r M : Int) * ((wt P T E s M : Int) - wt P T E s (M + 1)) ≤ (f 27 s).toInt - sw (wt P T E s) p M - rest * wt P T E s (M + 1) := by
      intro r ha hr s hs1 hs4
      obtain ⟨c1, c2, c3⟩ := row r ha hr
      have := ((hF1 r).mp hr).2.2 s hs1 hs4
      rw [(ag_su ha _).1] at this
      rw [← con_iff (show r M ≤ rest by omega), hC s hs1 hs4, nI_I (by have := hCc s; omega), show rest - r M = r (M + 1) by omega]
      exact_mod_cast this
    have price : ∀ r, Ag p M r → F r → ((prc r : Int) ≤ (f 27 0).toInt ↔ (r M : Int) * ((wt P T E 0 M : Int) - wt P T E 0 (M + 1)) ≤ (f 27 0).toInt - sw (wt P T E 0) p M - rest * wt P T E 0 (M + 1)) := by
      intro r ha hr
      obtain ⟨c1, c2, c3⟩ := row r ha hr
      rw [hF2 r hr, (ag_su ha _).1, ← con_iff (show r M ≤ rest by omega), show rest - r M = r (M + 1) by omega]
    have inside : ∀ r, Ag p M r → F r → (prc r : Int) ≤ (f 27 0).toInt → lo.toInt ≤ (r M : Int) ∧ (r M : Int) ≤ hi.toInt := by
      intro r ha hr hp
      refine (b3 _).mpr ⟨place r ha hr, fun s' hs' => ?_⟩
      by_cases e : s' = 0
      · rw [e]; exact (price r ha hr).mp hp
      · exact cons r ha hr s' (by omega) hs'
    unfold wX5_shareOut_l46
    refine ⟨fun _ => ?_, fun c => absurd (nI_le (Nat.le_refl 4) (by decide)) c⟩
    rw [g14, g15, g16, le_I]
    refine ⟨fun c => ⟨hv0, giaW (s := 0) (by omega) (by omega), hv0, ?_⟩, fun c => ?_⟩
    · rintro _ rfl
      refine ⟨giaW (s := 0) (by omega) (by omega), ?_⟩
      rw [cl_0, nI_clamp (show M < 2 ^ 31 by omega), nI_clamp (show M + 1 < 2 ^ 31 by omega), hw 0 M (by omega) (by omega), hw 0 (M + 1) (by omega) (by omega), nI_ltI (by have := hwle 0 M (by omega); omega) (by have := hwle 0 (M + 1) (by omega); omega)]
      -- the end that is taken
      have take : ∀ X : Nat, (lo.toInt ≤ (X : Int) ∧ (X : Int) ≤ hi.toInt) → (∀ x : Int, lo.toInt ≤ x → x ≤ hi.toInt → ((X : Int) * ((wt P T E 0 M : Int) - wt P T E 0 (M + 1)) < x * ((wt P T E 0 M : Int) - wt P T E 0 (M + 1)) ∨ ((X : Int) * ((wt P T E 0 M : Int) - wt P T E 0 (M + 1)) = x * ((wt P T E 0 M : Int) - wt P T E 0 (M + 1)) ∧ (X : Int) ≤ x))) → wX5_shareOut_j114 N Q (nI rest) (nI M) (nI X) (nI M) (va_up (va_up g 15 lo) 16 hi) f := by
        intro X hX hbest
        obtain ⟨⟨p1, p2⟩, p3⟩ := (b3 X).mp hX
        have hXr : X ≤ rest := by omega
        have hXU : X ≤ U M := by omega
        have hXL : rest - X ≤ U (M + 1) := by omega
        have hFq : F (qr p M rest X) := by
          refine (hF1 _).mpr ⟨fun i hi6 => ?_, by rw [qr_s1]; omega, fun s hs1 hs4 => ?_⟩
          · unfold qr
            split
            · next q => exact hpU i q
            · split
              · next q => rw [q]; exact hXU
              · split
                · next q => rw [q]; exact hXL
                · omega
          · rw [qr_su]
            have := p3 s hs4
            rw [← con_iff hXr, hC s hs1 hs4, nI_I (by have := hCc s; omega)] at this
            exact_mod_cast this
        have hprq : (prc (qr p M rest X) : Int) ≤ (f 27 0).toInt := by
          rw [hF2 _ hFq, qr_su]
          have := p3 0 (by omega)
          rw [← con_iff hXr] at this
          exact this
        have hpq : prc (qr p M rest X) = sw (wt P T E 0) p M + X * wt P T E 0 M + (rest - X) * wt P T E 0 (M + 1) := by rw [hF2 _ hFq, qr_su]
        have hp40 := hpr _ hFq
        unfold wX5_shareOut_j114
        refine ⟨vp_in_nI (by omega) (by decide), ?_⟩
        rw [nI_clamp (show M < 2 ^ 31 by omega)]
        rintro _ rfl
        refine ⟨vp_in_nI (by omega) (by decide), ?_⟩
        rw [up_s, upd_at, nI_subn hXr]
        rintro _ rfl
        rw [g14]
        rintro _ rfl
        refine ⟨vp_in_nI (by omega) (by decide), ?_⟩
        rw [nI_clamp (show M + 1 < 2 ^ 31 by omega)]
        rintro _ rfl
        rw [up_up]
        -- the row is kept
        unfold wX5_keepRow
        rw [g14, nI_pred]
        refine ⟨hv0, ?_⟩
        rintro _ rfl
        refine ⟨giaS (s := 0) (by omega) (by omega), ?_⟩
        rintro _ rfl
        refine ⟨vp_in_nI (by omega) (by decide), hv0, ?_⟩
        rintro _ rfl
        refine ⟨giaW (s := 0) (by omega) (by omega), ?_⟩
        rintro _ rfl
        refine ⟨vp_in_nI (by omega) (by decide), hv0, ?_⟩
        rintro _ rfl
        refine ⟨giaW (s := 0) (by omega) (by omega), ?_⟩
        rw [cl_0, nI_clamp (show M < 2 ^ 31 by omega), nI_clamp (show M + 1 < 2 ^ 31 by omega)]
        have r1 : (va_up f 29 (upd (upd (f 29) M (nI X)) (M + 1) (nI (rest - X)))) (39 + 0) M = nI (sw (wt P T E 0) p M) := by rw [up_n _ _ (by decide)]; exact hsm 0 (by omega)
        have r2 : (va_up f 29 (upd (upd (f 29) M (nI X)) (M + 1) (nI (rest - X)))) 29 M = nI X := by rw [up_s, upd_ne _ _ (by omega), upd_at]
        have r3 : (va_up f 29 (upd (upd (f 29) M (nI X)) (M + 1) (nI (rest - X)))) (31 + 0) M = nI (wt P T E 0 M) := by rw [up_n _ _ (by decide)]; exact hw 0 M (by omega) (by omega)
        have r4 : (va_up f 29 (upd (upd (f 29) M (nI X)) (M + 1) (nI (rest - X)))) 29 (M + 1) = nI (rest - X) := by rw [up_s, upd_at]
        have r5 : (va_up f 29 (upd (upd (f 29) M (nI X)) (M + 1) (nI (rest - X)))) (31 + 0) (M + 1) = nI (wt P T E 0 (M + 1)) := by rw [up_n _ _ (by decide)]; exact hw 0 (M + 1) (by omega) (by omega)
        rw [r1, r2, r3, r4, r5]
        have mI : ∀ a b : Nat, nI a * nI b = nI (a * b) := fun a b => (Int32.ofNat_mul a b).symm
        rw [mI, mI, nI_add, nI_add, ← hpq]
        rintro _ rfl _ rfl _ rfl
        refine ⟨hv0, ?_⟩
        rintro _ rfl
        refine h _ _ ⟨fun j j1 j2 j3 => ?_, fun j j1 j2 j3 j4 => ?_, fun s hs => ?_⟩ (fun i hi => ?_) (fun i hi1 hi2 => ?_) (fun s i hs => ?_) ?_
        · rw [up_n _ _ j3, up_n _ _ j2, up_n _ _ j1]
        · rw [up_n _ _ j3, up_n _ _ j1, up_n _ _ j2]
        · rw [up_n _ _ (by decide), up_s, upd_ne _ _ (by omega), up_n _ _ (by decide)]
        · rw [up_n _ _ (by decide), up_n _ _ (by decide), up_s, upd_ne _ _ (by omega), upd_ne _ _ (by omega)]; exact hrow i hi
        · rw [up_n _ _ (by decide), up_n _ _ (by decide), up_s, upd_ne _ _ (by omega), upd_ne _ _ (by omega)]; exact hz i hi1 hi2
        · rw [up_n _ _ (by omega), up_n _ _ (by omega), up_n _ _ (by omega)]
        · rw [up_s, up_n _ _ (show (27 : Nat) ≠ 30 by decide), up_s, upd_at, up_s]
          refine BO_new hB hFq (Or.inr (fun j hj => by unfold qr; rw [if_pos hj])) hprq (fun r hr hFr => ?_) (fun i hi6 => ?_) ?_
          · rcases hr with hr | hr
            · exact Or.inl hr
            · refine Or.inr ?_
              obtain ⟨c1, c2, c3⟩ := row r hr hFr
              by_cases hpc : (prc r : Int) ≤ (f 27 0).toInt
              · obtain ⟨i1, i2⟩ := inside r hr hFr hpc
                have hpR : prc r = sw (wt P T E 0) p M + r M * wt P T E 0 M + (rest - r M) * wt P T E 0 (M + 1) := by rw [hF2 r hFr, (ag_su hr _).1, show rest - r M = r (M + 1) by omega]
                have cmp : ∀ y : Nat, y ≤ rest → ((sw (wt P T E 0) p M + y * wt P T E 0 M + (rest - y) * wt P T E 0 (M + 1) : Nat) : Int) = sw (wt P T E 0) p M + rest * wt P T E 0 (M + 1) + (y : Int) * ((wt P T E 0 M : Int) - wt P T E 0 (M + 1)) := by
                  intro y hy
                  have e : ((rest - y : Nat) : Int) = (rest : Int) - y := by omega
                  rw [Int.natCast_add, Int.natCast_add, Int.natCast_mul, Int.natCast_mul, e, Int.mul_sub, Int.sub_mul]
                  omega
                have q1 := cmp X hXr
                have q2 := cmp (r M) (by omega)
                rw [← hpq] at q1
                rw [← hpR] at q2
                rcases hbest (r M) i1 i2 with d | ⟨d1, d2⟩
                · exact Or.inl (by omega)
                · refine Or.inr ⟨by omega, ?_⟩
                  rintro ⟨i, k1, k2, k3⟩
                  have hq : ∀ i, qr p M rest X i = if i < M then p i else if i = M then X else if i = M + 1 then rest - X else 0 := fun _ => rfl
                  rw [hq] at k3
                  by_cases e1 : i < M
                  · rw [if_pos e1, hr i e1] at k3; omega
                  · rw [if_neg e1] at k3
                    by_cases e2 : i = M
                    · rw [if_pos e2, e2] at k3; omega
                    · rw [if_neg e2] at k3
                      by_cases e3 : i = M + 1
                      · rw [if_pos e3, e3] at k3
                        have := k2 M (by omega)
                        rw [hq, if_neg (by omega), if_pos rfl] at this
                        omega
                      · rw [if_neg e3] at k3; omega
              · exact Or.inl (by omega)
          · unfold va_cpy
            rw [show (6 : Int32).toNatClampNeg = 6 from rfl, if_pos (by omega), up_n _ _ (show (29 : Nat) ≠ 27 by decide), up_s, show 0 + (i - 0) = i by omega]
            unfold qr
            by_cases e1 : i < M
            · rw [upd_ne _ _ (by omega), upd_ne _ _ (by omega), if_pos e1]; exact hrow i e1
            · rw [if_neg e1]
              by_cases e2 : i = M
              · rw [e2, upd_ne _ _ (by omega), upd_at, if_pos rfl]
              · rw [if_neg e2]
                by_cases e3 : i = M + 1
                · rw [e3, upd_at, if_pos rfl]
                · rw [upd_ne _ _ e3, upd_ne _ _ e2, if_neg e3]; exact hz i (by omega) hi6
          · rw [sub_I (by rw [nI_I (by omega), z_1]; omega) (by rw [nI_I (by omega), z_1]; omega), nI_I (by omega), z_1]
      refine ⟨fun d => ?_, fun d => ?_⟩
      · have eh : hi = nI hi.toInt.toNat := by rw [eq_I, nI_I (by omega)]; omega
        have ht := take hi.toInt.toNat (by omega) (fun x x1 x2 => ?_)
        · rw [← eh] at ht; exact ht
        by_cases e : x = hi.toInt
        · exact Or.inr ⟨by rw [e]; congr 1; omega, by omega⟩
        · refine Or.inl ?_
          have := Int.mul_lt_mul_of_neg_right (show x < hi.toInt by omega) (show (wt P T E 0 M : Int) - wt P T E 0 (M + 1) < 0 by omega)
          have e2 : ((hi.toInt.toNat : Nat) : Int) = hi.toInt := by omega
          rw [e2]; exact this
      · have eh : lo = nI lo.toInt.toNat := by rw [eq_I, nI_I (by omega)]; omega
        have ht := take lo.toInt.toNat (by omega) (fun x x1 x2 => ?_)
        · rw [← eh] at ht; exact ht
        have e2 : ((lo.toInt.toNat : Nat) : Int) = lo.toInt := by omega
        rw [e2]
        have := Int.mul_le_mul_of_nonneg_right x1 (show 0 ≤ (wt P T E 0 M : Int) - wt P T E 0 (M + 1) by omega)
        by_cases e : lo.toInt * ((wt P T E 0 M : Int) - wt P T E 0 (M + 1)) = x * ((wt P T E 0 M : Int) - wt P T E 0 (M + 1))
        · exact Or.inr ⟨e, x1⟩
        · exact Or.inl (by omega)
    · refine h _ _ ⟨fun j j1 j2 j3 => ?_, fun _ _ _ _ _ => rfl, fun _ _ => rfl⟩ hrow hz (fun _ _ _ => rfl) ?_
      · rw [up_n _ _ j2, up_n _ _ j1]
      · rw [g17]
        refine BO_skip hn hpr hB (fun r hr => Or.inl hr) (fun r hr hFr => ?_)
        rcases hr with hr | hr
        · exact Or.inl hr
        · refine Or.inr ⟨?_, fun r0 hr0 => lx_as (Bf_lx (by omega) hr0 hr)⟩
          by_cases hpc : (prc r : Int) ≤ (f 27 0).toInt
          · have := inside r hr hFr hpc
            omega
          · omega
  · rintro fu s ⟨lo, hi⟩ hs ⟨b1, b2, b3⟩ ih
    dsimp only at b1 b2 b3 ⊢
    unfold wX5_shareOut_l46
    refine ⟨fun c => absurd c (nI_ge hs (by decide)), fun _ => ?_⟩
    refine q_narrow (K := M + 2) (wl := wt P T E s M) (wk := wt P T E s (M + 1)) (S := sw (wt P T E s) p M) hs (by omega) (by omega) (by omega) h14 (hw s M hs (by omega)) (hw s (M + 1) hs (by omega)) (hsm s hs) (hwle s M (by omega)) (hwle s (M + 1) (by omega)) (hS40 s) (by omega) (hCs s hs) b1 b2 (fun lo' hi' c1 c2 c3 => ?_)
    rintro _ rfl
    rw [nI_1]
    refine ih (lo', hi') ⟨c1, c2, fun x => ?_⟩
    rw [c3, b3]
    constructor
    · rintro ⟨⟨d1, d2⟩, d3⟩
      refine ⟨d1, fun s' hs' => ?_⟩
      by_cases e : s' = s
      · rw [e]; exact d3
      · exact d2 s' (by omega)
    · rintro ⟨d1, d2⟩
      exact ⟨⟨d1, fun s' hs' => d2 s' (by omega)⟩, d2 s (by omega)⟩
  · dsimp only
    rw [nI_I (by omega)]; omega
  · dsimp only
    rw [nI_I (by omega)]; omega
  · dsimp only
    rw [nI_I (by omega), nI_I (by omega)]
    exact ⟨fun q => ⟨q, fun s' hs' => absurd hs' (by omega)⟩, fun q => q.1⟩
