/-! cell, wall, many, repair -/
theorem q_ref {SP : gSP} {N n : Nat} {gS gT : gFG} {fS fT : gFF} {w : Int64} {Q : gFG → gFF → Prop} (hN : 1000 ≤ N) (hI : InvP (GCg SP) n gS fS gT fT w) (h : ∀ W H g' f', (2 ≤ W ∧ W ≤ 12 ∧ 2 ≤ H ∧ H ≤ 12) → (g' 4 = nI W ∧ g' 5 = nI H ∧ gT 2 = nI W ∧ gT 3 = nI H) → (∀ k, k < 144 → fT 1 k = f' 13 k ∧ isSortB (f' 13 k) = true) → g' 9 = g' 6 → (∀ x y, x < W → y < H → f' 14 (12 * y + x) = fateB W H (f' 13) (fT 2) x y) → InvP (GCg SP) n g' f' gT fT w → g' 1 = gS 1 → Q g' f') : wX1_refresh N gS fS Q := by
  obtain ⟨W, H, e, hWH, ⟨s4, s5, t2, t3⟩, hS, he, hIC, hIS⟩ := hI.2.2.2.2.2.2
  refine q_refresh hN s4 s5 hWH.2.1 hWH.2.2.2 hIC (fun g' f' a1 a2 a3 a4 => ?_)
  have f13 := a3 13 (by decide) (by decide) (by decide)
  have g6 := a2 6 (by decide) (by decide) (by decide)
  refine h W H g' f' hWH ⟨(a2 4 (by decide) (by decide) (by decide)).trans s4, (a2 5 (by decide) (by decide) (by decide)).trans s5, t2, t3⟩ (by rw [f13]; exact hS) (a1.trans g6.symm) (by rw [f13]; exact a4) ?_ (a2 1 (by decide) (by decide) (by decide))
  refine inv_tr hI (fun j hj => a2 j (by omega) (by omega) (by omega)) (fun j hj => a3 j (by omega) (by omega) (by omega)) (fun j hj => rfl) (fun j hj => rfl) ?_ ?_
  · rw [a2 1 (by decide) (by decide) (by decide)]; exact hI.2.2.2.2.2.1.1
  · refine ⟨W, H, e, hWH, ⟨(a2 4 (by decide) (by decide) (by decide)).trans s4, (a2 5 (by decide) (by decide) (by decide)).trans s5, t2, t3⟩, by rw [f13]; exact hS, by rw [g6]; exact he, ⟨hIC.1, hIC.2.1, hIC.2.2.1, Or.inl ⟨a1.trans g6.symm, by rw [f13]; exact a4⟩⟩, ?_⟩
    rw [a2 12 (by decide) (by decide) (by decide), g6, f13, a2 10 (by decide) (by decide) (by decide), a2 11 (by decide) (by decide) (by decide), a3 18 (by decide) (by decide) (by decide), a3 19 (by decide) (by decide) (by decide), a3 39 (by decide) (by decide) (by decide), a3 40 (by decide) (by decide) (by decide), a3 41 (by decide) (by decide) (by decide), a3 42 (by decide) (by decide) (by decide)]
    exact hIS
theorem inv_fj {SP : gSP} {n : Nat} {gS gT : gFG} {fS fT : gFF} {w : Int64} (hI : InvP (GCg SP) n gS fS gT fT w) (A B : Nat → Int32) (w' : Int64) : InvP (GCg SP) (n + 1) gS fS (va_up gT 0 0) (fj fT A B) w' :=
  inv_tr hI (fun _ _ => rfl) (fun _ _ => rfl) (fun j hj => up_n _ _ (by omega)) (fun j hj => fj_n _ _ _ (by omega) (by omega)) hI.2.2.2.2.2.1.1 (GCk (GCg_ok SP) hI.2.2.2.2.2.2 ⟨rfl, rfl, rfl, rfl, rfl, rfl, rfl⟩ ⟨rfl, rfl, rfl, rfl, rfl, rfl, rfl, rfl⟩ ⟨rfl, rfl, rfl⟩ ⟨rfl, rfl⟩)
/-- the model's pouring beside a refreshed component -/
theorem q_pourI {SP : gSP} {N n W H : Nat} {gS gT : gFG} {fS fT : gFF} {w : Int64} {Q : gFG → gFF → Int64 → Prop} (hN : 100000 ≤ N) (hW : W ≤ 12) (hH : H ≤ 12) (t2 : gT 2 = nI W) (t3 : gT 3 = nI H) (hS : ∀ k, k < 144 → fT 1 k = fS 13 k ∧ isSortB (fS 13 k) = true) (hF : ∀ x y, x < W → y < H → fS 14 (12 * y + x) = fateB W H (fS 13) (fT 2) x y) (hI : InvP (GCg SP) n gS fS gT fT w) (h : ∀ A B, (∀ x y, x < W → y < H → fS 14 (12 * y + x) = B (12 * y + x)) → InvP (GCg SP) (n + 1) gS fS (va_up gT 0 0) (fj fT A B) w → Q (va_up gT 0 0) (fj fT A B) w) : wX12_pourMould N (va_up gT 0 0) fT w Q := by
  refine q_pour hN (W := W) (H := H) t2 t3 hW hH (fun A B hB => h A B (fun x y hx hy => ?_) (inv_fj hI A B w))
  rw [hF x y hx hy, hB x y hx hy]
  exact fate_c hW hH (fun k hk => (hS k hk).1.symm) hx hy
theorem q_pourN {SP : gSP} {N n : Nat} {gS gT : gFG} {fS fT : gFF} {w : Int64} {Q : gFG → gFF → Int64 → Prop} (hN : 100000 ≤ N) (hI : InvP (GCg SP) n gS fS gT fT w) (h : ∀ A B, InvP (GCg SP) (n + 1) gS fS (va_up gT 0 0) (fj fT A B) w → Q (va_up gT 0 0) (fj fT A B) w) : wX12_pourMould N (va_up gT 0 0) fT w Q := by
  obtain ⟨W, H, e, hWH, ⟨s4, s5, t2, t3⟩, -⟩ := hI.2.2.2.2.2.2
  exact q_pour hN (W := W) (H := H) t2 t3 hWH.2.1 hWH.2.2.2 (fun A B _ => h A B (inv_fj hI A B w))
theorem ok_cell (SP : gSP) {N : Nat} (hN : 100000 ≤ N) : ls_cell N (InvP (GCg SP)) := by
  intro n a b c gS fS gT fT wT hn hI
  have hst := inv_same (GCg_ok SP) hI 0
  obtain ⟨W, H, e, hWH, ⟨s4, s5, t2, t3⟩, hS, -⟩ := id hI.2.2.2.2.2.2
  have t2' : (va_up gT 0 0) 2 = nI W := t2
  have t3' : (va_up gT 0 0) 3 = nI H := t3
  simp only [wX11_cell, wX12_cell, forall_eq, q_has, q_isCell, q_in, br1, br2, bi_0, l_I, z0L, show (1 : Int64).toInt = 1 from rfl, s4, s5, t2', t3']
  cases hh : hasB (nI W) (nI H) a b with
  | false => simp [hst]
  | true =>
    obtain ⟨x, y, hx, hy, rfl, rfl⟩ := has_ex hWH.2.1 hWH.2.2.2 hh
    have hin : vp_in (nI (12 * y + x)) 144 := vp_in_nI (by omega) (by decide)
    simp only [Bool.true_eq_false, if_false, yx_I, nI_clamp (show 12 * y + x < 2 ^ 31 by omega), hin, true_and]
    by_cases c0 : c = 0
    · subst c0
      simp only [if_true, q_srtN s4 s5 hWH.2.1 hWH.2.2.2 hx hy]
      rw [if_neg (by decide)]
      exact q_pourN hN hI (fun A B hI' => ⟨((hS (12 * y + x) (by omega)).1).symm, hI'⟩)
    · simp only [if_neg c0]
      by_cases c1 : c = 1
      · subst c1
        simp only [if_true]
        refine q_ref (by omega) hI (fun W' H' g' f' hWH' ⟨u4, u5, u2, u3⟩ hS' h9 hF hI' hg1 => ?_)
        have eW : W' = W := nI_inj (by omega) (by omega) (u2.symm.trans t2)
        have eH : H' = H := nI_inj (by omega) (by omega) (u3.symm.trans t3)
        subst eW; subst eH
        rw [q_fatN u4 u5 hWH.2.1 hWH.2.2.2 hx hy, if_neg (by decide)]
        exact q_pourI hN hWH.2.1 hWH.2.2.2 t2 t3 hS' hF hI' (fun A B hB hI'' => ⟨hB x y hx hy, hI''⟩)
      · have : ¬ (0 ≤ c.toInt ∧ c.toInt ≤ 1) := by
          intro q
          have : c.toInt = 0 ∨ c.toInt = 1 := by omega
          rcases this with q | q
          · exact c0 (by rw [eq_I, q]; rfl)
          · exact c1 (by rw [eq_I, q]; rfl)
        simp only [if_neg c1, decide_eq_false this, if_true]
        first
          | exact hst
          | exact ⟨trivial, hst⟩
theorem ok_wall (SP : gSP) {N : Nat} (hN : 100000 ≤ N) : ls_wall N (InvP (GCg SP)) := by
  intro n a b gS fS gT fT wT hn hI
  unfold wX11_wall
  refine q_ref (by omega) hI (fun W H g' f' hWH ⟨u4, u5, t2, t3⟩ hS h9 hF hI' hg1 => ?_)
  have hst := inv_same (GCg_ok SP) hI' 0
  have t2' : (va_up gT 0 0) 2 = nI W := t2
  have t3' : (va_up gT 0 0) 3 = nI H := t3
  have hNO : ∀ {a b : Int32}, ¬ (a = -1 ∧ b = -1) → wX11_wall_j25 N (fun r g f => wX12_wall_j19 N (fun r2 g2 f2 w2 => r = r2 ∧ InvP (GCg SP) (n + 1) g f g2 f2 w2) a b (va_up gT 0 0) fT wT) a b g' f' := by
    intro a b hab
    simp only [wX11_wall_j25, wX12_wall_j19, wX12_wall_j20, wX12_wall_j36, q_has, q_isCell, u4, u5, t2', t3', br1, br2, bi_0, if_true]
    cases hh : hasB (nI W) (nI H) a b with
    | false => simp [hst]
    | true =>
      obtain ⟨x, y, hx, hy, rfl, rfl⟩ := has_ex hWH.2.1 hWH.2.2.2 hh
      simp only [Bool.true_eq_false, if_false]
      refine q_wallAtC (by omega) u4 u5 hWH.2.1 hWH.2.2.2 hx hy ?_
      refine q_pourI hN hWH.2.1 hWH.2.2.2 t2 t3 hS hF hI' (fun A B hB hI'' => ?_)
      rw [q_isCast t2' t3' hWH.2.1 hWH.2.2.2, nI_I (show x < 2 ^ 31 by omega), nI_I (show y < 2 ^ 31 by omega), gI_n hx hy]
      have e1 := wvl_c hB hx hy
      have f3 : (fj fT A B) 3 = B := rfl
      rw [f3, e1]
      simp only [bi_0]
      unfold wvl
      cases hm : mtl (B (12 * y + x)) with
      | false =>
        rw [if_pos rfl]
        exact ⟨rfl, hI''⟩
      | true =>
        rw [if_neg (by decide)]
        exact q_wallAtM (by omega) t2' t3' hWH.2.1 hWH.2.2.2 hx hy ⟨rfl, hI''⟩
  unfold wX12_wall
  simp only [forall_eq, br1, br2]
  by_cases ha : a = -1
  · simp only [if_pos ha]
    by_cases hb : b = -1
    · simp only [if_pos hb]
      refine q_leastW (by omega) u4 u5 hWH.2.1 hWH.2.2.2 ?_
      simp only [wX12_wall_j20, wX12_wall_j36, br1, br2]
      rw [if_neg (by decide)]
      refine q_pourI hN hWH.2.1 hWH.2.2.2 t2 t3 hS hF hI' (fun A B hB hI'' => ?_)
      rw [if_neg (by decide)]
      refine q_wallOfM (by omega) t2' t3' hWH.2.1 hWH.2.2.2 ⟨?_, hI''⟩
      have f3 : (fj fT A B) 3 = B := rfl
      rw [f3, lwo_c (fun x y hx hy => wvl_c hB hx hy)]
    · simp only [if_neg hb]
      exact hNO (fun q => hb q.2)
  · simp only [if_neg ha]
    exact hNO (fun q => ha q.1)
theorem ok_many (SP : gSP) {N : Nat} (hN : 100000 ≤ N) : ls_many N (InvP (GCg SP)) := by
  intro n a gS fS gT fT wT hn hI
  unfold wX11_many
  refine q_ref (by omega) hI (fun W H g' f' hWH ⟨u4, u5, t2, t3⟩ hS h9 hF hI' hg1 => ?_)
  have hst := inv_same (GCg_ok SP) hI' 0
  have t2' : (va_up gT 0 0) 2 = nI W := t2
  have t3' : (va_up gT 0 0) 3 = nI H := t3
  have hW := hWH.2.1
  have hH := hWH.2.2.2
  -- the model counts
  have M : ∀ (k : Nat) (r : Int32), k ≤ 6 → a = nI k → (∀ B : Nat → Int32, (∀ x y, x < W → y < H → f' 14 (12 * y + x) = B (12 * y + x)) → r = nI (cg (cpd k (fT 1) B) W H)) → wX12_many N a gT fT wT (fun r2 g2 f2 w2 => r = r2 ∧ InvP (GCg SP) (n + 1) g' f' g2 f2 w2) := by
    rintro k r hk rfl hr
    unfold wX12_many
    simp only [forall_eq, q_in, br2, bi_0, l_I, z0L, show (6 : Int64).toInt = 6 from rfl, nI_I (show k < 2 ^ 31 by omega)]
    rw [if_neg (by rw [decide_eq_true (by omega)]; decide)]
    refine q_pourI hN hW hH t2 t3 hS hF hI' (fun A B hB hI'' => ?_)
    exact q_cellsM (by omega) t2' t3' hW hH hk ⟨hr B hB, hI''⟩
  have hz : ∀ k : Nat, (a = nI k) ↔ (a.toInt = k ∨ (2 ^ 31 ≤ k ∧ a = nI k)) := by
    intro k
    by_cases hk : k < 2 ^ 31
    · rw [eq_I, nI_I hk]; omega
    · constructor
      · intro q; exact Or.inr ⟨by omega, q⟩
      · rintro (q | q)
        · have := rng_I a; omega
        · exact q.2
  refine ⟨fun c0 => ?_, fun c0 => ⟨fun c1 => ?_, fun c1 => ⟨fun c2 => ?_, fun c2 => ⟨fun c3 => ?_, fun c3 => ⟨fun c4 => ?_, fun c4 => ⟨fun c5 => ?_, fun c5 => ⟨fun c6 => ?_, fun c6 => ?_⟩⟩⟩⟩⟩⟩⟩
  · refine q_howC (by omega) u4 u5 hW hH (q_howC (by omega) u4 u5 hW hH ?_)
    refine M 0 _ (by omega) c0 (fun B hB => ?_)
    rw [nI_add, cg_or (R := cpd 0 (fT 1) B) (fun x y hx hy => ?_)]
    rw [hB x y hx hy]
    unfold cpd mtl
    rw [if_pos rfl]
    constructor
    · simp
    · simp
      intro q
      rw [q]; decide
  · refine q_howC (by omega) u4 u5 hW hH (M 1 _ (by omega) c1 (fun B hB => ?_))
    rw [cg_c (fun x y hx hy => ?_)]
    unfold cpd
    rw [if_neg (by decide), if_pos rfl, hB x y hx hy]
  · refine q_howC (by omega) u4 u5 hW hH (M 2 _ (by omega) c2 (fun B hB => ?_))
    rw [cg_c (fun x y hx hy => ?_)]
    unfold cpd
    rw [if_neg (by decide), if_neg (by decide), if_pos rfl, hB x y hx hy]
  · refine q_howG (by omega) u4 u5 hW hH (M 3 _ (by omega) c3 (fun B hB => ?_))
    rw [cg_c (fun x y hx hy => ?_)]
    unfold cpd
    rw [if_neg (by decide), if_neg (by decide), if_neg (by decide), if_pos rfl, (hS (12 * y + x) (by omega)).1]
    by_cases q : f' 13 (12 * y + x) = 1
    · rw [decide_eq_true q, q]; rfl
    · rw [decide_eq_false q]
      rw [eq_I] at q
      exact decide_eq_false (fun c => q (by rw [z_1] at *; omega))
  · refine q_howG (by omega) u4 u5 hW hH (M 4 _ (by omega) c4 (fun B hB => ?_))
    rw [cg_c (fun x y hx hy => ?_)]
    unfold cpd
    rw [if_neg (by decide), if_neg (by decide), if_neg (by decide), if_neg (by decide), if_pos rfl, (hS (12 * y + x) (by omega)).1]
    by_cases q : f' 13 (12 * y + x) = 2
    · rw [decide_eq_true q, q]; rfl
    · rw [decide_eq_false q]
      rw [eq_I] at q
      exact decide_eq_false (fun c => q (by rw [z_2] at *; omega))
  · refine q_howC (by omega) u4 u5 hW hH (M 5 _ (by omega) c5 (fun B hB => ?_))
    rw [cg_c (fun x y hx hy => ?_)]
    unfold cpd
    rw [if_neg (by decide), if_neg (by decide), if_neg (by decide), if_neg (by decide), if_neg (by decide), if_pos rfl, hB x y hx hy]
  · refine q_howG (by omega) u4 u5 hW hH (M 6 _ (by omega) c6 (fun B hB => ?_))
    rw [cg_c (fun x y hx hy => ?_)]
    unfold cpd
    rw [if_neg (by decide), if_neg (by decide), if_neg (by decide), if_neg (by decide), if_neg (by decide), if_neg (by decide), (hS (12 * y + x) (by omega)).1]
    have hs := of_decide_eq_true (hS (12 * y + x) (by omega)).2
    have e10 : (10 : Int32).toInt = 10 := rfl
    have e17 : (17 : Int32).toInt = 17 := rfl
    rw [decide_eq_decide, lt_I, e10, e17]
    omega
  · have hno : ¬ (0 ≤ a.toInt ∧ a.toInt ≤ 6) := by
      intro q
      have h0 : ¬ a.toInt = 0 := fun q => c0 ((hz 0).mpr (Or.inl q))
      have h1 : ¬ a.toInt = 1 := fun q => c1 ((hz 1).mpr (Or.inl q))
      have h2 : ¬ a.toInt = 2 := fun q => c2 ((hz 2).mpr (Or.inl q))
      have h3 : ¬ a.toInt = 3 := fun q => c3 ((hz 3).mpr (Or.inl q))
      have h4 : ¬ a.toInt = 4 := fun q => c4 ((hz 4).mpr (Or.inl q))
      have h5 : ¬ a.toInt = 5 := fun q => c5 ((hz 5).mpr (Or.inl q))
      have h6 : ¬ a.toInt = 6 := fun q => c6 ((hz 6).mpr (Or.inl q))
      omega
    unfold wX12_many
    simp only [forall_eq, q_in, br2, bi_0, l_I, z0L, show (6 : Int64).toInt = 6 from rfl]
    rw [if_pos (decide_eq_false hno)]
    exact ⟨by trivial, hst⟩
