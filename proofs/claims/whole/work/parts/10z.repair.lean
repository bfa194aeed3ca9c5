/-! repair -/
theorem pour_5 (W H : Nat) (S : Nat → Int32) (x y : Nat) : pourB W H S x y ≠ 5 := by
  unfold pourB
  repeat' split
  all_goals decide
def bes (W H : Nat) (F : Nat → Int32) (x y : Nat) : Bool := gI W H F ((x : Int) + 1) y || gI W H F x ((y : Int) + 1) || gI W H F ((x : Int) - 1) y || gI W H F x ((y : Int) - 1)
theorem bes_c {W H x y : Nat} {F F' : Nat → Int32} (h : ∀ x y, x < W → y < H → F (12 * y + x) = F' (12 * y + x)) : bes W H F x y = bes W H F' x y := by
  unfold bes
  rw [gI_c h, gI_c h, gI_c h, gI_c h]
def m23 (v : Int32) : Bool := decide (v = 2 ∨ v = 3)
theorem q_canMend {N W H x y : Nat} {g : gFG} {f : gFF} {Q : Int32 → gFG → gFF → Prop} (hN : 1000 ≤ N) (h4 : g 4 = nI W) (h5 : g 5 = nI H) (hW : W ≤ 12) (hH : H ≤ 12) (hx : x < W) (hy : y < H) (h : Q (bi (m23 (f 14 (12 * y + x)) && bes W H (f 14) x y)) g f) : wX1_canMend N (nI x) (nI y) g f Q := by
  have l22 : Q (bi (bes W H (f 14) x y)) g f → wX1_canMend_l22 N (nI x) (nI y) Q N 0 g f := by
    intro hq
    have step : ∀ fu j, j < 4 → (gI W H (f 14) ((x : Int) + (gwx j).toInt) ((y : Int) + (gwy j).toInt) = true → Q 1 g f) → (gI W H (f 14) ((x : Int) + (gwx j).toInt) ((y : Int) + (gwy j).toInt) = false → wX1_canMend_l22 N (nI x) (nI y) Q fu (nI (j + 1)) g f) → wX1_canMend_l22 N (nI x) (nI y) Q (fu + 1) (nI j) g f := by
      intro fu j hj k1 k0
      obtain ⟨r1, r2⟩ := gw_r j hj
      have hin : vp_in (nI j) 4 := vp_in_nI hj (by decide)
      unfold wX1_canMend_l22
      refine ⟨fun c => absurd c (nI_ge hj (by decide)), fun _ => ⟨hin, hin, ?_⟩⟩
      rw [nI_clamp (by omega), q_isMetal h4 h5 hW hH, add_I (by rw [nI_I (by omega)]; omega) (by rw [nI_I (by omega)]; omega), add_I (by rw [nI_I (by omega)]; omega) (by rw [nI_I (by omega)]; omega), nI_I (by omega), nI_I (by omega)]
      simp only [forall_eq, nI_1]
      cases hg : gI W H (f 14) ((x : Int) + (gwx j).toInt) ((y : Int) + (gwy j).toInt) with
      | true => exact ⟨fun c => absurd c (by decide), fun _ => k1 hg⟩
      | false => exact ⟨fun _ => k0 hg, fun c => absurd rfl c⟩
    obtain ⟨fu, rfl⟩ : ∃ k, N = k + 1 + 1 + 1 + 1 + 1 := ⟨N - 5, by omega⟩
    unfold bes at hq
    have a0 : (x : Int) + (gwx 0).toInt = (x : Int) + 1 := rfl
    have b0 : (y : Int) + (gwy 0).toInt = (y : Int) := Int.add_zero _
    have a1 : (x : Int) + (gwx 1).toInt = (x : Int) := Int.add_zero _
    have b1 : (y : Int) + (gwy 1).toInt = (y : Int) + 1 := rfl
    have a2 : (x : Int) + (gwx 2).toInt = (x : Int) - 1 := rfl
    have b2 : (y : Int) + (gwy 2).toInt = (y : Int) := Int.add_zero _
    have a3 : (x : Int) + (gwx 3).toInt = (x : Int) := Int.add_zero _
    have b3 : (y : Int) + (gwy 3).toInt = (y : Int) - 1 := rfl
    refine step _ 0 (by omega) (fun q => ?_) (fun q0 => ?_)
    · rw [a0, b0] at q; rw [q] at hq; exact hq
    rw [a0, b0] at q0
    refine step _ 1 (by omega) (fun q => ?_) (fun q1 => ?_)
    · rw [a1, b1] at q; rw [q, q0] at hq; exact hq
    rw [a1, b1] at q1
    refine step _ 2 (by omega) (fun q => ?_) (fun q2 => ?_)
    · rw [a2, b2] at q; rw [q, q0, q1] at hq; exact hq
    rw [a2, b2] at q2
    refine step _ 3 (by omega) (fun q => ?_) (fun q3 => ?_)
    · rw [a3, b3] at q; rw [q, q0, q1, q2] at hq; exact hq
    rw [a3, b3] at q3
    rw [q0, q1, q2, q3] at hq
    unfold wX1_canMend_l22
    exact ⟨fun _ => hq, fun c => absurd (nI_le (Nat.le_refl 4) (by decide)) c⟩
  unfold wX1_canMend wX1_canMend_j19
  rw [q_fatN h4 h5 hW hH hx hy]
  unfold m23 at h
  refine ⟨fun c => l22 ?_, fun c => ⟨fun c2 => l22 ?_, fun c2 => ?_⟩⟩
  · rw [decide_eq_true (Or.inl c)] at h; exact h
  · rw [decide_eq_true (Or.inr c2)] at h; exact h
  · rw [decide_eq_false (fun q => q.elim c c2)] at h; exact h
theorem ok_repair (SP : gSP) {N : Nat} (hN : 100000 ≤ N) : ls_repair N (InvP (GCg SP)) := by
  intro n a b gS fS gT fT wT hn hI
  have hst0 := inv_st hI
  obtain ⟨W0, H0, e0, hWH0, ⟨s4, s5, t2, t3⟩, -⟩ := id hI.2.2.2.2.2.2
  have t2' : (va_up gT 0 0) 2 = nI W0 := t2
  have t3' : (va_up gT 0 0) 3 = nI H0 := t3
  simp only [wX11_repair, q_has, q_answered, br2, bi_0, s4, s5]
  cases hh : hasB (nI W0) (nI H0) a b with
  | false =>
    simp only [if_true, wX12_repair, forall_eq, q_isCell, q_told, br2, bi_0, t2', t3', hh]
    exact ⟨trivial, hst0 _⟩
  | true =>
    obtain ⟨x, y, hx, hy, rfl, rfl⟩ := has_ex hWH0.2.1 hWH0.2.2.2 hh
    simp only [Bool.true_eq_false, if_false]
    refine q_ref (by omega) hI (fun W H g' f' hWH ⟨u4, u5, v2, v3⟩ hS h9 hF hI' hg1 => ?_)
    have eW : W = W0 := nI_inj (by omega) (by omega) (v2.symm.trans t2)
    have eH : H = H0 := nI_inj (by omega) (by omega) (v3.symm.trans t3)
    subst eW; subst eH
    have hW := hWH.2.1
    have hH := hWH.2.2.2
    have hin : vp_in (nI (12 * y + x)) 144 := vp_in_nI (by omega) (by decide)
    have zx : (nI x).toInt = (x : Int) := nI_I (by omega)
    have zy : (nI y).toInt = (y : Int) := nI_I (by omega)
    have zx1 : (nI x - 1).toInt = (x : Int) - 1 := by rw [sub_I (by rw [zx, z_1]; omega) (by rw [zx, z_1]; omega), zx, z_1]
    have zy1 : (nI y - 1).toInt = (y : Int) - 1 := by rw [sub_I (by rw [zy, z_1]; omega) (by rw [zy, z_1]; omega), zy, z_1]
    have zx2 : (nI x + 1).toInt = (x : Int) + 1 := by rw [nI_1, nI_I (by omega)]; omega
    have zy2 : (nI y + 1).toInt = (y : Int) + 1 := by rw [nI_1, nI_I (by omega)]; omega
    refine q_canMend (by omega) u4 u5 hW hH hx hy ?_
    have hst := inv_st hI'
    -- the model, up to its mending
    have M : ∀ Q : Int32 → gFG → gFF → Int64 → Prop, (∀ A B, (∀ x y, x < W → y < H → f' 14 (12 * y + x) = B (12 * y + x)) → InvP (GCg SP) (n + 1) g' f' (va_up gT 0 0) (fj fT A B) wT → ((m23 (B (12 * y + x)) && bes W H B x y) = false → wX12_told N (-3) (va_up gT 0 0) (fj fT A B) wT Q) ∧ ((m23 (B (12 * y + x)) && bes W H B x y) = true → wX12_told N (gT 6 + 1) (va_up (va_up gT 0 0) 6 (gT 6 + 1)) (va_up (fj fT A B) 2 (upd (fT 2) (12 * y + x) 1)) wT Q)) → wX12_repair N (nI x) (nI y) gT fT wT Q := by
      intro Q hQ
      unfold wX12_repair
      rintro _ rfl
      rw [q_isCell, t2', t3', has_t hW hH hx hy]
      refine ⟨fun _ => ?_, fun c => absurd c (by decide)⟩
      refine q_pourI hN hW hH t2 t3 hS hF hI' (fun A B hB hI'' => ?_)
      obtain ⟨hq0, hq1⟩ := hQ A B hB hI''
      have f3 : (fj fT A B) 3 = B := rfl
      rw [yx_I]
      rintro _ rfl
      refine ⟨hin, ?_⟩
      rw [nI_clamp (show 12 * y + x < 2 ^ 31 by omega), f3]
      rintro _ rfl
      have j86 : ∀ bo : Bool, bo = bes W H B x y → wX12_repair_j86 N Q (nI x) (nI y) (B (12 * y + x)) (bi bo) (va_up gT 0 0) (fj fT A B) wT := by
        rintro _ rfl
        have j98 : m23 (B (12 * y + x)) = true → wX12_repair_j98 N Q (nI x) (nI y) (bi (bes W H B x y)) (va_up gT 0 0) (fj fT A B) wT := by
          intro hm
          rw [hm, Bool.true_and] at hq0 hq1
          unfold wX12_repair_j98 wX12_repair_j103
          cases hbb : bes W H B x y with
          | false => exact ⟨fun c => absurd rfl c, fun _ => hq0 hbb⟩
          | true =>
            refine ⟨fun _ => ?_, fun c => absurd c (by decide)⟩
            rw [yx_I]
            simp only [forall_eq, nI_clamp (show 12 * y + x < 2 ^ 31 by omega), hin, true_and]
            exact hq1 hbb
        unfold wX12_repair_j86
        refine ⟨fun c => j98 (decide_eq_true (Or.inl c)), fun c => ⟨fun c2 => ?_, fun c2 => j98 (decide_eq_true (Or.inr c2))⟩⟩
        unfold wX12_repair_j103
        refine hq0 ?_
        unfold m23
        rw [decide_eq_false (fun q => q.elim c c2)]; rfl
      have yes : bes W H B x y = true → wX12_repair_j81 N Q (nI x) (nI y) (B (12 * y + x)) (va_up gT 0 0) (fj fT A B) wT := fun q => j86 true q.symm
      simp only [q_isCast t2' t3' hW hH, f3, zx, zy, zx1, zy1, zx2, zy2, br1, br2, bi_0]
      cases c1 : gI W H B ((x : Int) - 1) y with
      | true => rw [if_neg (by decide)]; exact yes (by unfold bes; rw [c1]; simp)
      | false =>
        rw [if_pos rfl]
        cases c2 : gI W H B ((x : Int) + 1) y with
        | true => rw [if_neg (by decide)]; exact yes (by unfold bes; rw [c2]; simp)
        | false =>
          rw [if_pos rfl]
          cases c3 : gI W H B x ((y : Int) - 1) with
          | true => rw [if_neg (by decide)]; exact yes (by unfold bes; rw [c3]; simp)
          | false =>
            rw [if_pos rfl]
            cases c4 : gI W H B x ((y : Int) + 1) with
            | true => rw [if_neg (by decide)]; exact yes (by unfold bes; rw [c4]; simp)
            | false => rw [if_pos rfl]; exact j86 false (by unfold bes; rw [c1, c2, c3, c4]; rfl)
    simp only [bi_0]
    cases hm : (m23 (f' 14 (12 * y + x)) && bes W H (f' 14) x y) with
    | false =>
      rw [if_pos rfl]
      refine M _ (fun A B hB hI'' => ⟨fun _ => ?_, fun c => ?_⟩)
      · rw [q_told]
        refine ⟨rfl, inv_tr hI'' (fun j hj => up_n _ _ (by omega)) (fun _ _ => rfl) (fun j hj => up_n _ _ (by omega)) (fun _ _ => rfl) (by rw [up_s, up_s]) ?_⟩
        exact (GCg_ok SP).2.1 _ _ _ _ _ _ _ _ _ ⟨rfl, rfl, rfl, rfl, rfl, rfl, rfl⟩ ⟨rfl, rfl, rfl, rfl, rfl, rfl, rfl, rfl⟩ ⟨rfl, rfl, rfl⟩ ⟨rfl, rfl⟩ hI''.2.2.2.2.2.2
      · rw [← hB x y hx hy, ← bes_c hB, hm] at c; contradiction
    | true =>
      rw [if_neg (by decide)]
      have hm23 := of_decide_eq_true (Bool.and_eq_true_iff.mp hm).1
      unfold wX1_mend wX1_mend_j24
      rw [q_has, u4, u5, has_t hW hH hx hy]
      refine ⟨fun c => absurd c (by decide), fun _ => ?_⟩
      rw [xy_I]
      simp only [forall_eq, nI_clamp (show 12 * y + x < 2 ^ 31 by omega), hin, true_and]
      refine q_howC (W := W) (H := H) (by omega) u4 u5 hW hH ?_
      -- the invariant's own words
      obtain ⟨W', H', e, hWH', ⟨w4, w5, -, -⟩, -, he, ⟨r1, r2, r3, -⟩, hIS⟩ := id hI'.2.2.2.2.2.2
      have eW : W' = W := nI_inj (by omega) (by omega) (by rw [← w4, u4])
      have eH : H' = H := nI_inj (by omega) (by omega) (by rw [← w5, u5])
      subst eW; subst eH
      have hk : 12 * y + x < 144 := by omega
      have hrep : fT 2 (12 * y + x) = 0 := by
        have := hF x y hx hy
        unfold fateB at this
        by_cases q : fT 2 (12 * y + x) = 0
        · exact q
        · rw [if_neg q] at this
          rw [this] at hm23
          rcases hm23 with q | q <;> exact absurd q (by decide)
      have r1' : ∀ k, k < 144 → upd (fT 2) (12 * y + x) 1 k = 0 ∨ upd (fT 2) (12 * y + x) 1 k = 1 := by
        intro k hk'
        by_cases q : k = 12 * y + x
        · rw [q, upd_at]; exact Or.inr rfl
        · rw [upd_ne _ _ q]; exact r1 k hk'
      have r2' : ∀ k, k < 144 → upd (fT 2) (12 * y + x) 1 k ≠ 0 → ∃ x y, x < W' ∧ y < H' ∧ k = 12 * y + x := by
        intro k hk' h0
        by_cases q : k = 12 * y + x
        · exact ⟨x, y, hx, hy, q⟩
        · rw [upd_ne _ _ q] at h0; exact r2 k hk' h0
      have hF' : ∀ x' y', x' < W' → y' < H' → upd (f' 14) (12 * y + x) 5 (12 * y' + x') = fateB W' H' (f' 13) (upd (fT 2) (12 * y + x) 1) x' y' := by
        intro x' y' hx' hy'
        unfold fateB
        by_cases q : 12 * y' + x' = 12 * y + x
        · rw [q, upd_at, upd_at, if_neg (by decide)]
        · rw [upd_ne _ _ q, upd_ne _ _ q]; exact hF x' y' hx' hy'
      have hcn := cnt_up hk hrep (show (1 : Int32) ≠ 0 by decide)
      have hc : cg (fun x' y' => decide (upd (f' 14) (12 * y + x) 5 (12 * y' + x') = 5)) W' H' = cnt (fT 2) 144 + 1 := by
        rw [← hcn, cnt_cg hW hH r2']
        refine cg_c (fun x' y' hx' hy' => ?_)
        rw [hF' x' y' hx' hy']
        unfold fateB
        by_cases q : upd (fT 2) (12 * y + x) 1 (12 * y' + x') = 0
        · rw [if_pos q, nz_f q]; exact decide_eq_false (pour_5 W' H' _ x' y')
        · rw [if_neg q, nz_t q]; rfl
      have hc' : nI (cg (fun x' y' => decide ((va_up f' 14 (upd (f' 14) (12 * y + x) 5)) 14 (12 * y' + x') = 5)) W' H') = gT 6 + 1 := by
        show nI (cg (fun x' y' => decide (upd (f' 14) (12 * y + x) 5 (12 * y' + x') = 5)) W' H') = gT 6 + 1
        rw [hc, r3, nI_1]
      rw [hc']
      refine M _ (fun A B hB hI'' => ⟨fun c => ?_, fun _ => ?_⟩)
      · rw [← hB x y hx hy, ← bes_c hB, hm] at c; contradiction
      · rw [q_told]
        refine ⟨rfl, inv_tr hI'' (fun j hj => up_n _ _ (by omega)) (fun j hj => up_n _ _ (by omega)) (fun j hj => (up_n _ _ (by omega)).trans (up_n _ _ (by omega))) (fun j hj => up_n _ _ (by omega)) (by rw [up_s, up_s]) ?_⟩
        refine ⟨W', H', e, hWH, ⟨u4, u5, t2, t3⟩, hS, ⟨by omega, he.2⟩, ⟨r1', r2', ?_, Or.inl ⟨h9, hF'⟩⟩, hIS⟩
        show gT 6 + 1 = nI (cnt (upd (fT 2) (12 * y + x) 1) 144)
        rw [hcn, r3, nI_1]
