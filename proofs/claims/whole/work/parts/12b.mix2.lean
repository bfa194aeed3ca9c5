/-! the mixer: weights, foresight -/
theorem giaW {s i : Nat} (hs : s < 4) (hi : i < 6) : gia layC (31 + s) (nI i) := by
  have : s = 0 ∨ s = 1 ∨ s = 2 ∨ s = 3 := by omega
  have h := vp_in_nI hi (show 6 < 2 ^ 31 by decide)
  rcases this with rfl | rfl | rfl | rfl <;> exact ⟨by decide, rfl, h⟩
theorem giaL {s i : Nat} (hs : s < 4) (hi : i < 287) : gia layC (35 + s) (nI i) := by
  have : s = 0 ∨ s = 1 ∨ s = 2 ∨ s = 3 := by omega
  have h := vp_in_nI hi (show 287 < 2 ^ 31 by decide)
  rcases this with rfl | rfl | rfl | rfl <;> exact ⟨by decide, rfl, h⟩
theorem giaS {s i : Nat} (hs : s < 4) (hi : i < 7) : gia layC (39 + s) (nI i) := by
  have : s = 0 ∨ s = 1 ∨ s = 2 ∨ s = 3 := by omega
  have h := vp_in_nI hi (show 7 < 2 ^ 31 by decide)
  rcases this with rfl | rfl | rfl | rfl <;> exact ⟨by decide, rfl, h⟩
theorem cl_0 : (0 : Int32).toNatClampNeg = 0 := rfl
theorem cl_1 : (1 : Int32).toNatClampNeg = 1 := rfl
theorem cl_2 : (2 : Int32).toNatClampNeg = 2 := rfl
theorem cl_3 : (3 : Int32).toNatClampNeg = 3 := rfl
def wt (P T E : Nat → Nat) (s i : Nat) : Nat := if s = 0 then P i else if s = 1 then T i else if s = 2 then 1000 - T i else E i
/-- what is read of the lots -/
def LR (P T E U : Nat → Nat) (g : gFG) (f : gFF) : Prop := ∀ i, i < 6 → ((if lhB (g 13) (nI i) = true then f 22 i else 0) = nI (P i) ∧ (if lhB (g 13) (nI i) = true then f 20 i else 0) = nI (T i) ∧ (if lhB (g 13) (nI i) = true then f 21 i else 0) = nI (E i) ∧ (if lhB (g 13) (nI i) = true then f 23 i else 0) = nI (U i)) ∧ P i ≤ 1000 ∧ T i ≤ 1000 ∧ E i ≤ 1000 ∧ U i ≤ 40
theorem LR_f {P T E U : Nat → Nat} {g g' : gFG} {f f' : gFF} (h : LR P T E U g f) (e1 : g' 13 = g 13) (e2 : f' 20 = f 20) (e3 : f' 21 = f 21) (e4 : f' 22 = f 22) (e5 : f' 23 = f 23) : LR P T E U g' f' := by
  unfold LR
  rw [e1, e2, e3, e4, e5]; exact h
theorem wt_le {P T E U : Nat → Nat} {g : gFG} {f : gFF} (h : LR P T E U g f) {s i : Nat} (hi : i < 6) : wt P T E s i ≤ 1000 := by
  obtain ⟨-, h1, h2, h3, -⟩ := h i hi
  unfold wt
  split
  · exact h1
  · split
    · exact h2
    · split <;> omega
theorem q_weigh {N : Nat} {P T E U : Nat → Nat} {g : gFG} {f : gFF} {Q : gFG → gFF → Prop} (hN : 1000 ≤ N) (hR : LR P T E U g f) (h : ∀ f', (∀ s i, s < 4 → i < 6 → f' (31 + s) i = nI (wt P T E s i)) → (∀ j, ¬ (31 ≤ j ∧ j < 35) → f' j = f j) → Q g f') : wX5_weigh N g f Q := by
  unfold wX5_weigh
  refine lpU (β := gFF) (fun n x f1 => wX5_weigh_l2 N Q n (nI x) g f1) (fun x f1 => (∀ s i, s < 4 → i < x → f1 (31 + s) i = nI (wt P T E s i)) ∧ ∀ j, ¬ (31 ≤ j ∧ j < 35) → f1 j = f j) 6 ?_ ?_ 0 N f (by omega) (by omega) ⟨fun s i _ hi => absurd hi (by omega), fun _ _ => rfl⟩
  · intro n f1 ⟨i1, i2⟩
    unfold wX5_weigh_l2
    exact ⟨fun _ => h f1 i1 i2, fun c => absurd (nI_le (Nat.le_refl 6) (by decide)) c⟩
  · intro n x f1 hx ⟨i1, i2⟩ ih
    obtain ⟨⟨r1, r2, r3, -⟩, -, hT, -⟩ := hR x hx
    have hv : ∀ k : Nat, k < 4 → vp_in (nI k) 4 := fun k hk => vp_in_nI hk (by decide)
    unfold wX5_weigh_l2
    refine ⟨fun c => absurd c (nI_ge hx (by decide)), fun _ => ⟨hv 0 (by omega), ?_⟩⟩
    simp only [q_priceAt, q_tinAt, q_leadAt, cl_0, cl_1, cl_2, cl_3, nI_clamp (show x < 2 ^ 31 by omega), forall_eq, nI_1]
    rw [i2 22 (by omega), r1]
    refine ⟨giaW (s := 0) (by omega) hx, hv 1 (by omega), ?_⟩
    rw [up_n _ _ (show (20 : Nat) ≠ 31 + 0 by decide), i2 20 (by omega), r2]
    refine ⟨giaW (s := 1) (by omega) hx, hv 2 (by omega), ?_⟩
    rw [up_n _ _ (show (20 : Nat) ≠ 31 + 1 by decide), up_n _ _ (show (20 : Nat) ≠ 31 + 0 by decide), i2 20 (by omega), r2]
    refine ⟨giaW (s := 2) (by omega) hx, hv 3 (by omega), ?_⟩
    rw [up_n _ _ (show (21 : Nat) ≠ 31 + 2 by decide), up_n _ _ (show (21 : Nat) ≠ 31 + 1 by decide), up_n _ _ (show (21 : Nat) ≠ 31 + 0 by decide), i2 21 (by omega), r3]
    refine ⟨giaW (s := 3) (by omega) hx, ih _ ⟨fun s i hs hi => ?_, fun j hj => ?_⟩⟩
    · have e1000 : (1000 : Int32) - nI (T x) = nI (1000 - T x) := nI_subn (a := T x) (b := 1000) hT
      rw [e1000]
      have hs4 : s = 0 ∨ s = 1 ∨ s = 2 ∨ s = 3 := by omega
      have ins : ∀ (m : Nat → Int32) (v : Int32), (∀ i, i < x → m i = nI (wt P T E s i)) → v = nI (wt P T E s x) → upd m x v i = nI (wt P T E s i) := by
        intro m v hm hvv
        by_cases e : i = x
        · rw [e, upd_at]; exact hvv
        · rw [upd_ne _ _ e]; exact hm i (by omega)
      rcases hs4 with rfl | rfl | rfl | rfl
      · rw [up_n _ _ (show (31 + 0 : Nat) ≠ 31 + 3 by decide), up_n _ _ (show (31 + 0 : Nat) ≠ 31 + 2 by decide), up_n _ _ (show (31 + 0 : Nat) ≠ 31 + 1 by decide), up_s]
        exact ins _ _ (fun i hi => i1 0 i hs hi) rfl
      · rw [up_n _ _ (show (31 + 1 : Nat) ≠ 31 + 3 by decide), up_n _ _ (show (31 + 1 : Nat) ≠ 31 + 2 by decide), up_s]
        exact ins _ _ (fun i hi => by rw [up_n _ _ (show (31 + 1 : Nat) ≠ 31 + 0 by decide)]; exact i1 1 i hs hi) rfl
      · rw [up_n _ _ (show (31 + 2 : Nat) ≠ 31 + 3 by decide), up_s]
        exact ins _ _ (fun i hi => by rw [up_n _ _ (show (31 + 2 : Nat) ≠ 31 + 1 by decide), up_n _ _ (show (31 + 2 : Nat) ≠ 31 + 0 by decide)]; exact i1 2 i hs hi) rfl
      · rw [up_s]
        exact ins _ _ (fun i hi => by rw [up_n _ _ (show (31 + 3 : Nat) ≠ 31 + 2 by decide), up_n _ _ (show (31 + 3 : Nat) ≠ 31 + 1 by decide), up_n _ _ (show (31 + 3 : Nat) ≠ 31 + 0 by decide)]; exact i1 3 i hs hi) rfl
    · rw [up_n _ _ (by omega), up_n _ _ (by omega), up_n _ _ (by omega), up_n _ _ (by omega)]; exact i2 j hj
theorem nI_m41 (y : Nat) : nI y * 41 = nI (41 * y) := by
  have : nI y * nI 41 = nI (y * 41) := (Int32.ofNat_mul y 41).symm
  rw [Nat.mul_comm] at this
  exact this
theorem q_fs {N n K lot s : Nat} {P T E U : Nat → Nat} {v : Nat → Int} {g : gFG} {f : gFF} {Q : gFG → gFF → Prop} (hN : 1000 ≤ N) (hn : n ≤ 40) (hK : K ≤ 6) (hl : lot < K) (hs : s < 4) (hR : LR P T E U g f) (hw : f (31 + s) lot = nI (wt P T E s lot)) (hb : f 28 lot = nI (su U K - su U lot)) (hb' : f 28 (lot + 1) = nI (su U K - su U (lot + 1))) (hv : LV n U (wt P T E s) K (lot + 1) v) (hva : ∀ j, j ≤ n → j ≤ su U K - su U (lot + 1) → 0 < su U K - su U (lot + 1) → (f (35 + s) (41 * (lot + 1) + j)).toInt = v j) (h : ∀ A, LV n U (wt P T E s) K lot (fun r => (A (41 * lot + r)).toInt) → (∀ k, ¬ (41 * lot ≤ k ∧ k < 41 * lot + 41) → A k = f (35 + s) k) → Q g (va_up f (35 + s) A)) : wX5_foreseeFrom N (nI lot) (nI s) (nI n) g f Q := by
  have hUl := (hR lot (by omega)).1.2.2.2
  have hU40 : ∀ i, i < 6 → U i ≤ 40 := fun i hi => (hR i hi).2.2.2.2
  have hwl : wt P T E s lot ≤ 1000 := wt_le hR (by omega)
  have hsu : su U (lot + 1) = su U lot + U lot := rfl
  have hmo := su_mono U (show lot + 1 ≤ K by omega)
  have hB240 : su U K ≤ 240 := by
    have : ∀ k, k ≤ 6 → su U k ≤ 40 * k := by
      intro k
      induction k with
      | zero => intro _; exact Nat.le_refl _
      | succ k ih => intro hk; rw [su]; have := ih (by omega); have := hU40 k (by omega); omega
    have := this K hK
    omega
  have hin4 : vp_in (nI s) 4 := vp_in_nI hs (by decide)
  have n4 : ∀ j : Nat, j < 31 → j ≠ 35 + s := fun j hj => by omega
  have n31 : ∀ t : Nat, t < 4 → 31 + t ≠ 35 + s := fun t ht => by omega
  have hvb : ∀ t, t ≤ n → t ≤ su U K - su U (lot + 1) → 0 ≤ v t ∧ v t ≤ 1000 * t := fun t h1 h2 => hv.2.1 t h1 (by omega)
  have hcv : ∀ t, t + 2 ≤ n → t + 2 ≤ su U K - su U (lot + 1) → v (t + 1) - v t ≤ v (t + 2) - v (t + 1) := fun t h1 h2 => hv.2.2.1 t h1 (by omega)
  have hwI : (0 : Int) ≤ (wt P T E s lot : Int) ∧ (wt P T E s lot : Int) ≤ 1000 := by omega
  have key : ∀ (m rest o fu : Nat) (A : Nat → Int32), n - rest = m → m < fu → rest + su U lot ≤ su U K → FS n (U lot) (su U K - su U (lot + 1)) (wt P T E s lot : Int) v (fun r => (A (41 * lot + r)).toInt) rest o → (∀ k, ¬ (41 * lot ≤ k ∧ k < 41 * lot + 41) → A k = f (35 + s) k) → wX5_foreseeFrom_l34 N (nI lot) (nI s) (nI n) (35 + s) (nI (41 * lot)) (nI (41 * (lot + 1))) Q fu (nI o) (nI rest) g (va_up f (35 + s) A) := by
    intro m
    induction m with
    | zero =>
      intro rest o fu A h1 h2 h3 hF hA
      obtain ⟨fu, rfl⟩ : ∃ k, fu = k + 1 := ⟨fu - 1, by omega⟩
      have hr : rest = n := by have := hF.1; omega
      subst hr
      unfold wX5_foreseeFrom_l34
      exact ⟨fun _ => h A (LV_of hl hv hF (Or.inl rfl)) hA, fun c => absurd (nI_le (Nat.le_refl _) (by omega)) c⟩
    | succ m ih =>
      intro rest o fu A h1 h2 h3 hF hA
      obtain ⟨fu, rfl⟩ : ∃ k, fu = k + 1 := ⟨fu - 1, by omega⟩
      have f28 : (va_up f (35 + s) A) 28 = f 28 := up_n _ _ (n4 28 (by omega))
      have fA : (va_up f (35 + s) A) (35 + s) = A := up_s _ _ _
      have fW : (va_up f (35 + s) A) (31 + s) = f (31 + s) := up_n _ _ (n31 s hs)
      have f23 : (va_up f (35 + s) A) 23 = f 23 := up_n _ _ (n4 23 (by omega))
      obtain ⟨a1, a2, a3, a4⟩ := hF.1
      have hrn : rest < n := by omega
      have vin : vp_in (nI lot) 7 := vp_in_nI (by omega) (by decide)
      have vin' : vp_in (nI (lot + 1)) 7 := vp_in_nI (by omega) (by decide)
      have hvh : 0 ≤ (A (41 * lot + rest)).toInt ∧ (A (41 * lot + rest)).toInt ≤ 1000 * rest := hF.2.2.2.2.1 rest (Nat.le_refl _)
      unfold wX5_foreseeFrom_l34
      refine ⟨fun c => absurd c (nI_ge hrn (by omega)), fun _ => ⟨vin, ?_⟩⟩
      rw [nI_clamp (show lot < 2 ^ 31 by omega), f28, hb, nI_leI (by omega) (by omega)]
      refine ⟨fun c => h A (LV_of hl hv hF (Or.inr (by omega))) hA, fun c => ?_⟩
      rw [nI_subn a1]
      rintro _ rfl
      rw [q_unitsAt, nI_clamp (show lot < 2 ^ 31 by omega), f23, hUl, nI_leI (by omega) (by omega)]
      -- the two steps
      have put : ∀ (y : Int32) (o' : Nat), FS n (U lot) (su U K - su U (lot + 1)) (wt P T E s lot : Int) v (fun r => (upd A (41 * lot + rest + 1) y (41 * lot + r)).toInt) (rest + 1) o' → wX5_foreseeFrom_l34 N (nI lot) (nI s) (nI n) (35 + s) (nI (41 * lot)) (nI (41 * (lot + 1))) Q fu (nI o') (nI (rest + 1)) g (va_up f (35 + s) (upd A (41 * lot + rest + 1) y)) := by
        intro y o' hF'
        refine ih (rest + 1) o' fu _ (by omega) (by omega) (by omega) hF' (fun k hk => ?_)
        rw [upd_ne _ _ (by omega)]; exact hA k hk
      have eold : ∀ (y : Int32) (r : Nat), r ≤ rest → (upd A (41 * lot + rest + 1) y (41 * lot + r)).toInt = (A (41 * lot + r)).toInt := fun y r hr => by rw [upd_ne _ _ (by omega)]
      have enew : ∀ y : Int32, (upd A (41 * lot + rest + 1) y (41 * lot + (rest + 1))).toInt = y.toInt := fun y => by rw [show 41 * lot + (rest + 1) = 41 * lot + rest + 1 by omega, upd_at]
      have own : o < U lot → (su U K - su U (lot + 1) ≤ rest - o ∨ (wt P T E s lot : Int) ≤ v (rest - o + 1) - v (rest - o)) → wX5_foreseeFrom_j118 N (wX5_foreseeFrom_l34 N (nI lot) (nI s) (nI n) (35 + s) (nI (41 * lot)) (nI (41 * (lot + 1))) Q fu) Q (nI lot) (nI s) (nI n) (35 + s) (nI (41 * lot)) (nI (41 * (lot + 1))) (nI o) (nI rest) (nI (rest - o)) g (va_up f (35 + s) A) := by
        intro ho hD
        unfold wX5_foreseeFrom_j118 wX5_foreseeFrom_j119 wX5_foreseeFrom_j197
        refine ⟨fun _ => ?_, fun c => absurd rfl c⟩
        rw [nI_add, nI_1]
        simp only [forall_eq, nI_1, nI_clamp (show 41 * lot + rest < 2 ^ 31 by omega), nI_clamp (show 41 * lot + rest + 1 < 2 ^ 31 by omega), nI_clamp (show s < 2 ^ 31 by omega), nI_clamp (show lot < 2 ^ 31 by omega), fA, fW, hw, up_up]
        refine ⟨giaL hs (by omega), hin4, giaW hs (by omega), giaL hs (by omega), put _ (o + 1) (FS_own hF hwI hvb hcv hrn ho hD (fun r hr => eold _ r hr) ?_)⟩
        rw [enew, add_I (by rw [nI_I (by omega)]; omega) (by rw [nI_I (by omega)]; omega), nI_I (by omega)]
      have beh : rest - o < su U K - su U (lot + 1) → (U lot ≤ o ∨ v (rest - o + 1) - v (rest - o) < (wt P T E s lot : Int)) → wX5_foreseeFrom_j114 N (wX5_foreseeFrom_l34 N (nI lot) (nI s) (nI n) (35 + s) (nI (41 * lot)) (nI (41 * (lot + 1))) Q fu) Q (nI lot) (nI s) (nI n) (35 + s) (nI (41 * lot)) (nI (41 * (lot + 1))) (nI o) (nI rest) (nI (rest - o)) g (va_up f (35 + s) A) := by
        intro hj hD
        have v1 : (A (41 * (lot + 1) + (rest - o))).toInt = v (rest - o) := by rw [hA _ (by omega)]; exact hva _ (by omega) (by omega) (by omega)
        have v2 : (A (41 * (lot + 1) + (rest - o) + 1)).toInt = v (rest - o + 1) := by
          rw [show 41 * (lot + 1) + (rest - o) + 1 = 41 * (lot + 1) + (rest - o + 1) by omega, hA _ (by omega)]
          exact hva _ (by omega) (by omega) (by omega)
        have b1 := hvb (rest - o) (by omega) (by omega)
        have b2 := hvb (rest - o + 1) (by omega) (by omega)
        unfold wX5_foreseeFrom_j114 wX5_foreseeFrom_j119 wX5_foreseeFrom_j197
        refine ⟨fun c => absurd c (by decide), fun _ => ?_⟩
        rw [nI_add, nI_add, nI_1]
        simp only [forall_eq, nI_1, nI_clamp (show 41 * lot + rest < 2 ^ 31 by omega), nI_clamp (show 41 * lot + rest + 1 < 2 ^ 31 by omega), nI_clamp (show 41 * (lot + 1) + (rest - o) < 2 ^ 31 by omega), nI_clamp (show 41 * (lot + 1) + (rest - o) + 1 < 2 ^ 31 by omega), fA, up_up]
        refine ⟨giaL hs (by omega), giaL hs (by omega), giaL hs (by omega), giaL hs (by omega), put _ o (FS_beh hF hwI hvb hcv hrn hj hD (fun r hr => eold _ r hr) ?_)⟩
        have e1 : (A (41 * lot + rest) + A (41 * (lot + 1) + (rest - o) + 1)).toInt = (A (41 * lot + rest)).toInt + v (rest - o + 1) := by rw [add_I (by omega) (by omega), v2]
        rw [enew, sub_I (by rw [e1, v1]; omega) (by rw [e1, v1]; omega), e1, v1]
      refine ⟨fun c => beh (by omega) (Or.inl c), fun c => ?_⟩
      rw [nI_1]
      rintro _ rfl
      refine ⟨vin', ?_⟩
      rw [nI_clamp (show lot + 1 < 2 ^ 31 by omega), f28, hb', nI_leI (by omega) (by omega)]
      refine ⟨fun c2 => own (by omega) (Or.inl c2), fun c2 => ?_⟩
      have v1 : (A (41 * (lot + 1) + (rest - o))).toInt = v (rest - o) := by rw [hA _ (by omega)]; exact hva _ (by omega) (by omega) (by omega)
      have v2 : (A (41 * (lot + 1) + (rest - o) + 1)).toInt = v (rest - o + 1) := by
        rw [show 41 * (lot + 1) + (rest - o) + 1 = 41 * (lot + 1) + (rest - o + 1) by omega, hA _ (by omega)]
        exact hva _ (by omega) (by omega) (by omega)
      have b1 := hvb (rest - o) (by omega) (by omega)
      have b2 := hvb (rest - o + 1) (by omega) (by omega)
      rw [nI_add, nI_1]
      rintro _ rfl
      refine ⟨giaL hs (by omega), ?_⟩
      rintro _ rfl
      refine ⟨giaL hs (by omega), hin4, ?_⟩
      rw [nI_clamp (show s < 2 ^ 31 by omega), nI_clamp (show 41 * (lot + 1) + (rest - o) < 2 ^ 31 by omega), nI_clamp (show 41 * (lot + 1) + (rest - o) + 1 < 2 ^ 31 by omega), fA, fW, hw]
      refine ⟨giaW hs (by omega), ?_⟩
      rw [le_I, sub_I (by rw [v1, v2]; omega) (by rw [v1, v2]; omega), v1, v2, nI_I (by omega)]
      exact ⟨fun c3 => own (by omega) (Or.inr c3), fun c3 => beh (by omega) (Or.inr (by omega))⟩
  unfold wX5_foreseeFrom
  rw [nI_m41, nI_1, nI_m41]
  refine ⟨hin4, ?_⟩
  rintro _ rfl _ rfl
  rw [nI_clamp (show s < 2 ^ 31 by omega), nI_clamp (show 41 * lot < 2 ^ 31 by omega)]
  refine ⟨giaL hs (by omega), ?_⟩
  rintro _ rfl
  refine key n 0 0 N _ (by omega) (by omega) (by omega) (FS_0 hv.1 ?_) (fun k hk => upd_ne _ _ (by omega))
  show (upd (f (35 + s)) (41 * lot) 0 (41 * lot)).toInt = 0
  rw [upd_at]; rfl
/-- what is foreseen -/
def FO (n K : Nat) (P T E U : Nat → Nat) (l : Nat) (f : gFF) : Prop := (∀ i, l ≤ i → i ≤ K → f 28 i = nI (su U K - su U i)) ∧ ∀ s lot, s < 4 → l ≤ lot → lot < K → LV n U (wt P T E s) K lot (fun r => (f (35 + s) (41 * lot + r)).toInt)
theorem q_foresee {N n K : Nat} {P T E U : Nat → Nat} {g : gFG} {f : gFF} {Q : gFG → gFF → Prop} (hN : 1000 ≤ N) (hn : n ≤ 40) (hK : K ≤ 6) (hK2 : 2 ≤ K) (h14 : g 14 = nI (K - 1)) (hR : LR P T E U g f) (hw : ∀ s i, s < 4 → i < 6 → f (31 + s) i = nI (wt P T E s i)) (h : ∀ f', FO n K P T E U 0 f' → (∀ j, j ≠ 28 → ¬ (35 ≤ j ∧ j < 39) → f' j = f j) → Q g f') : wX5_foresee N (nI n) g f Q := by
  have key : ∀ (l fu : Nat) (f1 : gFF), l ≤ K → l < fu → FO n K P T E U l f1 → (∀ j, j ≠ 28 → ¬ (35 ≤ j ∧ j < 39) → f1 j = f j) → wX5_foresee_l17 N (nI n) Q fu (nI l - 1) g f1 := by
    intro l
    induction l with
    | zero =>
      intro fu f1 h1 h2 hF hA
      obtain ⟨fu, rfl⟩ : ∃ k, fu = k + 1 := ⟨fu - 1, by omega⟩
      unfold wX5_foresee_l17
      exact ⟨fun _ => h f1 hF hA, fun c => absurd (show nI 0 - 1 < 0 by decide) c⟩
    | succ l ih =>
      intro fu f1 h1 h2 hF hA
      obtain ⟨fu, rfl⟩ : ∃ k, fu = k + 1 := ⟨fu - 1, by omega⟩
      have hR1 : LR P T E U g f1 := LR_f hR rfl (hA 20 (by decide) (by omega)) (hA 21 (by decide) (by omega)) (hA 22 (by decide) (by omega)) (hA 23 (by decide) (by omega))
      have hU40 : ∀ i, i < 6 → U i ≤ 40 := fun i hi => (hR i hi).2.2.2.2
      have hUl := (hR1 l (by omega)).1.2.2.2
      have hsu : su U (l + 1) = su U l + U l := rfl
      have hmo := su_mono U (show l + 1 ≤ K by omega)
      unfold wX5_foresee_l17
      rw [nI_pred]
      refine ⟨fun c => absurd c (by rw [lt_I, nI_I (by omega), z_0]; omega), fun _ => ?_⟩
      rw [nI_1]
      rintro _ rfl
      refine ⟨vp_in_nI (by omega) (by decide), ?_⟩
      rw [q_unitsAt, nI_clamp (show l + 1 < 2 ^ 31 by omega), nI_clamp (show l < 2 ^ 31 by omega), hUl, hF.1 (l + 1) (by omega) (by omega), nI_add]
      rintro _ rfl
      refine ⟨vp_in_nI (by omega) (by decide), ?_⟩
      rintro _ rfl
      have e28 : su U K - su U (l + 1) + U l = su U K - su U l := by omega
      rw [e28]
      -- the four sums
      refine lpU (β := gFF) (fun m s f2 => wX5_foresee_l46 N (nI n) (nI l) (wX5_foresee_l17 N (nI n) Q fu) Q m (nI s) g f2) (fun s f2 => (∀ i, l ≤ i → i ≤ K → f2 28 i = nI (su U K - su U i)) ∧ (∀ s' lot, s' < 4 → l + 1 ≤ lot → lot < K → LV n U (wt P T E s') K lot (fun r => (f2 (35 + s') (41 * lot + r)).toInt)) ∧ (∀ s', s' < s → LV n U (wt P T E s') K l (fun r => (f2 (35 + s') (41 * l + r)).toInt)) ∧ ∀ j, j ≠ 28 → ¬ (35 ≤ j ∧ j < 39) → f2 j = f j) 4 ?_ ?_ 0 N _ (by omega) (by omega) ⟨fun i i1 i2 => ?_, fun s' lot a b c => ?_, fun s' hs' => absurd hs' (by omega), fun j j1 j2 => ?_⟩
      · rintro m f2 ⟨i1, i2, i3, i4⟩
        unfold wX5_foresee_l46
        refine ⟨fun _ => ?_, fun c => absurd (nI_le (Nat.le_refl 4) (by decide)) c⟩
        rintro _ rfl
        rw [sub_m1]
        refine ih fu f2 (by omega) (by omega) ⟨i1, fun s lot a b c => ?_⟩ i4
        by_cases e : lot = l
        · rw [e]; exact i3 s a
        · exact i2 s lot a (by omega) c
      · rintro m s f2 hs ⟨i1, i2, i3, i4⟩ ih2
        unfold wX5_foresee_l46
        refine ⟨fun c => absurd c (nI_ge hs (by decide)), fun _ => ?_⟩
        have hR2 : LR P T E U g f2 := LR_f hR rfl (i4 20 (by decide) (by omega)) (i4 21 (by decide) (by omega)) (i4 22 (by decide) (by omega)) (i4 23 (by decide) (by omega))
        have hw2 : f2 (31 + s) l = nI (wt P T E s l) := by rw [i4 (31 + s) (by omega) (by omega)]; exact hw s l hs (by omega)
        -- the row of the lots behind
        have there : ∃ v, LV n U (wt P T E s) K (l + 1) v ∧ ∀ j, j ≤ n → j ≤ su U K - su U (l + 1) → 0 < su U K - su U (l + 1) → (f2 (35 + s) (41 * (l + 1) + j)).toInt = v j := by
          by_cases e : l + 1 = K
          · rw [e]
            exact ⟨_, LV_K, fun j _ _ c => by omega⟩
          · exact ⟨_, i2 s (l + 1) hs (by omega) (by omega), fun j _ _ _ => rfl⟩
        obtain ⟨v, hv, hva⟩ := there
        refine q_fs hN hn hK (by omega) hs hR2 hw2 (i1 l (by omega) (by omega)) (i1 (l + 1) (by omega) (by omega)) hv hva (fun A hA1 hA2 => ?_)
        rintro _ rfl
        rw [nI_1]
        refine ih2 _ ⟨fun i a b => ?_, fun s' lot a b c => ?_, fun s' hs' => ?_, fun j j1 j2 => ?_⟩
        · rw [up_n _ _ (show (28 : Nat) ≠ 35 + s by omega)]; exact i1 i a b
        · by_cases e : s' = s
          · subst e
            rw [up_s]
            have := i2 s' lot hs b c
            have e2 : (fun r => (A (41 * lot + r)).toInt) = fun r => if r ≤ 40 then (f2 (35 + s') (41 * lot + r)).toInt else (A (41 * lot + r)).toInt := by
              funext r
              by_cases c2 : r ≤ 40
              · rw [if_pos c2, hA2 _ (by omega)]
              · rw [if_neg c2]
            have e3 : ∀ r, (A (41 * lot + r)).toInt = (f2 (35 + s') (41 * lot + r)).toInt := fun r => by rw [hA2 _ (by omega)]
            have e4 : (fun r => (A (41 * lot + r)).toInt) = fun r => (f2 (35 + s') (41 * lot + r)).toInt := funext e3
            rw [e4]; exact this
          · rw [up_n _ _ (show 35 + s' ≠ 35 + s by omega)]; exact i2 s' lot a b c
        · by_cases e : s' = s
          · subst e
            rw [up_s]; exact hA1
          · rw [up_n _ _ (show 35 + s' ≠ 35 + s by omega)]; exact i3 s' (by omega)
        · rw [up_n _ _ (by omega)]; exact i4 j j1 j2
      · rw [up_s]
        by_cases e : i = l
        · rw [e, upd_at]
        · rw [upd_ne _ _ e]; exact hF.1 i (by omega) i2
      · rw [up_n _ _ (show 35 + s' ≠ 28 by omega)]; exact hF.2 s' lot a b c
      · rw [up_n _ _ j1]; exact hA j j1 j2
  unfold wX5_foresee
  rw [h14, nI_1]
  rintro _ rfl
  refine ⟨vp_in_nI (by omega) (by decide), ?_⟩
  rw [nI_clamp (show K - 1 + 1 < 2 ^ 31 by omega)]
  rintro _ rfl _ rfl
  have e : nI (K - 1) = nI K - 1 := by
    have := nI_pred (K - 1)
    rw [show K - 1 + 1 = K by omega] at this
    exact this.symm
  rw [e]
  refine key K N _ (Nat.le_refl _) (by omega) ⟨fun i a b => ?_, fun s lot a b c => by omega⟩ (fun j j1 j2 => up_n _ _ j1)
  have : i = K := by omega
  subst this
  rw [up_s, show i - 1 + 1 = i by omega, upd_at, Nat.sub_self]
  rfl
