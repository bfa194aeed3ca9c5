/-! the model's pouring, whole -/
def fj (f : gFF) (A B : Nat → Int32) : gFF := va_up (va_up f 4 A) 3 B
theorem fj_u4 (f : gFF) (A B A' : Nat → Int32) : va_up (fj f A B) 4 A' = fj f A' B := by
  funext j; unfold fj va_up
  by_cases h1 : j = 4
  · subst h1; simp
  · by_cases h2 : j = 3
    · subst h2; simp
    · simp [h1, h2]
theorem fj_u3 (f : gFF) (A B B' : Nat → Int32) : va_up (fj f A B) 3 B' = fj f A B' := by
  funext j; unfold fj va_up
  by_cases h2 : j = 3
  · subst h2; simp
  · simp [h2]
theorem fj_id (f : gFF) : fj f (f 4) (f 3) = f := by unfold fj; rw [up_id, up_id]
theorem fj_n (f : gFF) (A B : Nat → Int32) {j : Nat} (h1 : j ≠ 4) (h2 : j ≠ 3) : fj f A B j = f j := by unfold fj; rw [up_n _ _ h2, up_n _ _ h1]
noncomputable def met2 (W H : Nat) (S : Nat → Int32) (x y : Nat) : Int32 := if S (12 * y + x) = 2 then 1 else if hol (S (12 * y + x)) = true then (if pb (Gt W H S 0 3 (12 * y + x)) = true then 1 else 2) else 0
theorem pour_m2 {W H : Nat} (S : Nat → Int32) (x y : Nat) : pourB W H S x y = if hol (S (12 * y + x)) = true ∧ met2 W H S x y = 1 ∧ pb (Gt W H S y 3 (12 * y + x)) = false ∧ pb (Gt W H S y 4 (12 * y + x)) = false then 3 else met2 W H S x y := by
  unfold pourB met2
  by_cases h2 : S (12 * y + x) = 2
  · have hh : hol 2 = false := by decide
    simp [h2, hh]
  · cases hh : hol (S (12 * y + x)) with
    | false => simp [h2]
    | true =>
      cases hp : pb (Gt W H S 0 3 (12 * y + x)) with
      | false => simp [h2]
      | true =>
        by_cases c1 : Gt W H S y 3 (12 * y + x)
        · have e1 := pb_t.mpr c1
          have e2 : pb (Gt W H S y 3 (12 * y + x) ∨ Gt W H S y 4 (12 * y + x)) = true := pb_t.mpr (Or.inl c1)
          simp [h2, e1, e2]
        · have e1 := pb_f.mpr c1
          by_cases c2 : Gt W H S y 4 (12 * y + x)
          · have e2 := pb_t.mpr c2
            have e3 : pb (Gt W H S y 3 (12 * y + x) ∨ Gt W H S y 4 (12 * y + x)) = true := pb_t.mpr (Or.inr c2)
            simp [h2, e1, e2, e3]
          · have e2 := pb_f.mpr c2
            have e3 : pb (Gt W H S y 3 (12 * y + x) ∨ Gt W H S y 4 (12 * y + x)) = false := pb_f.mpr (fun q => q.elim c1 c2)
            simp [h2, e1, e2, e3]
theorem q_182 {N : Nat} {g : gFG} {f : gFF} {w : Int64} {A B0 : Nat → Int32} {Q : gFG → gFF → Int64 → Prop} (hN : 1000 ≤ N) (h : ∀ B, (∀ k, k < 144 → B k = if f 2 k = 0 then B0 k else 5) → Q g (fj f A B) w) : wX12_pourMould_l182 N Q N 0 g (fj f A B0) w := by
  refine lpU (β := Nat → Int32) (fun fu x B => wX12_pourMould_l182 N Q fu (nI x) g (fj f A B) w) (fun x B => ∀ k, k < 144 → B k = if k < x then (if f 2 k = 0 then B0 k else 5) else B0 k) 144 ?_ ?_ 0 N B0 (by omega) (by omega) (fun k hk => by rw [if_neg (by omega)])
  · intro fu B hB
    unfold wX12_pourMould_l182
    exact ⟨fun _ => h B (fun k hk => by rw [hB k hk, if_pos hk]), fun c => absurd (nI_le (Nat.le_refl 144) (by decide)) c⟩
  · intro fu x B hx hB ih
    have hin : vp_in (nI x) 144 := vp_in_nI hx (by decide)
    have f2 : (fj f A B) 2 = f 2 := rfl
    have f3 : (fj f A B) 3 = B := rfl
    unfold wX12_pourMould_l182
    refine ⟨fun c => absurd c (nI_ge hx (by decide)), fun _ => ⟨hin, ?_⟩⟩
    simp only [wX12_pourMould_j213, forall_eq, nI_1, nI_clamp (show x < 2 ^ 31 by omega), f2, f3, fj_u3, hin, true_and]
    have hBx : B x = B0 x := by rw [hB x hx, if_neg (by omega)]
    have put : ∀ v : Int32, v = (if f 2 x = 0 then B0 x else 5) → wX12_pourMould_l182 N Q fu (nI (x + 1)) g (fj f A (upd B x v)) w := by
      intro v hv
      refine ih _ (fun k hk => ?_)
      by_cases e : k = x
      · subst e
        rw [upd_at, if_pos (by omega)]; exact hv
      · rw [upd_ne _ _ e, hB k hk]
        by_cases c : k < x
        · rw [if_pos c, if_pos (show k < x + 1 by omega)]
        · rw [if_neg c, if_neg (show ¬ k < x + 1 by omega)]
    refine ⟨fun c => put _ (by rw [hBx, if_pos c]), fun c => put _ (by rw [if_neg c])⟩
theorem q_93 {N W H : Nat} {g : gFG} {f : gFF} {w : Int64} {A0 B0 : Nat → Int32} {Q : gFG → gFF → Int64 → Prop} (hN : 100000 ≤ N) (h2 : g 2 = nI W) (h3 : g 3 = nI H) (hW : W ≤ 12) (hH : H ≤ 12) (hB0 : ∀ x y, x < W → y < H → B0 (12 * y + x) = met2 W H (f 1) x y) (h : ∀ A B, (∀ x y, x < W → y < H → B (12 * y + x) = fateB W H (f 1) (f 2) x y) → Q g (fj f A B) w) : wX12_pourMould_l93 N Q N 0 g (fj f A0 B0) w := by
  refine lpU (β := (Nat → Int32) × (Nat → Int32)) (fun fu y b => wX12_pourMould_l93 N Q fu (nI y) g (fj f b.1 b.2) w) (fun y b => ∀ x' y', x' < W → y' < H → b.2 (12 * y' + x') = if y' < y then pourB W H (f 1) x' y' else met2 W H (f 1) x' y') H ?_ ?_ 0 N (A0, B0) (by omega) (by omega) (fun x' y' hx' hy' => by rw [if_neg (by omega)]; exact hB0 x' y' hx' hy')
  · rintro fu ⟨A, B⟩ hB
    dsimp only at hB
    unfold wX12_pourMould_l93
    rw [h3]
    refine ⟨fun _ => q_182 (by omega) (fun B' hB' => h A B' (fun x y hx hy => ?_)), fun c => absurd (nI_le (Nat.le_refl H) (by omega)) c⟩
    rw [hB' _ (by omega)]
    dsimp only
    rw [hB x y hx hy, if_pos hy]
    rfl
  · rintro fu y ⟨A, B⟩ hy hB ih
    dsimp only at hB
    unfold wX12_pourMould_l93
    rw [h3]
    refine ⟨fun c => absurd c (nI_ge hy (by omega)), fun _ => ?_⟩
    refine q_join hN h2 h3 hW hH (by omega) (fun A1 hJ => ?_)
    rw [fj_u4]
    have hJ1 : JF W H (f 1) y A1 := hJ
    refine lpU (β := Nat → Int32) (fun m x B => wX12_pourMould_l108 N (nI y) (wX12_pourMould_l93 N Q fu) Q m (nI x) g (fj f A1 B) w) (fun x B => ∀ x' y', x' < W → y' < H → B (12 * y' + x') = if y' < y ∨ (y' = y ∧ x' < x) then pourB W H (f 1) x' y' else met2 W H (f 1) x' y') W ?_ ?_ 0 N B (by omega) (by omega) ?_
    · intro m B' hB'
      unfold wX12_pourMould_l108
      rw [h2]
      refine ⟨fun _ => ?_, fun c => absurd (nI_le (Nat.le_refl W) (by omega)) c⟩
      simp only [forall_eq, nI_1]
      refine ih (A1, B') (fun x' y' hx' hy' => ?_)
      dsimp only
      rw [hB' x' y' hx' hy']
      by_cases c : y' < y + 1
      · rw [if_pos c, if_pos (by omega)]
      · rw [if_neg c, if_neg (by omega)]
    · intro m x B' hx hB' ih2
      have hin : vp_in (nI (12 * y + x)) 144 := vp_in_nI (by omega) (by decide)
      have f1 : ∀ B, (fj f A1 B) 1 = f 1 := fun _ => rfl
      have f3 : ∀ B, (fj f A1 B) 3 = B := fun _ => rfl
      unfold wX12_pourMould_l108
      rw [h2]
      refine ⟨fun c => absurd c (nI_ge hx (by omega)), fun _ => ?_⟩
      have hv : B' (12 * y + x) = met2 W H (f 1) x y := by rw [hB' x y hx hy, if_neg (by omega)]
      have hp := pour_m2 (W := W) (H := H) (f 1) x y
      simp only [forall_eq, yx_I, q_holM (show 12 * y + x < 144 by omega), f1, f3, nI_clamp (show 12 * y + x < 2 ^ 31 by omega), hin, true_and, wX12_pourMould_j168, nI_1, bi_0, br1, br2, hv]
      have keep : pourB W H (f 1) x y = met2 W H (f 1) x y → wX12_pourMould_l108 N (nI y) (wX12_pourMould_l93 N Q fu) Q m (nI (x + 1)) g (fj f A1 B') w := by
        intro he
        refine ih2 B' (fun x' y' hx' hy' => ?_)
        rw [hB' x' y' hx' hy']
        by_cases c : y' = y ∧ x' = x
        · obtain ⟨rfl, rfl⟩ := c
          rw [if_neg (by omega), if_pos (by omega), he]
        · by_cases c2 : y' < y ∨ (y' = y ∧ x' < x)
          · rw [if_pos c2, if_pos (by omega)]
          · rw [if_neg c2, if_neg (by omega)]
      cases hh : hol (f 1 (12 * y + x)) with
      | false => rw [if_pos rfl]; exact keep (by rw [hp, if_neg (by rw [hh]; simp)])
      | true =>
        rw [if_neg (by decide)]
        by_cases c1 : met2 W H (f 1) x y = 1
        · rw [if_pos c1]
          refine q_hasM (m := y) (by omega) h2 h3 hW hH (by omega) (by omega) hJ1 ?_
          simp only [f1, bi_0]
          cases p3 : pb (Gt W H (f 1) y 3 (12 * y + x)) with
          | true => rw [if_neg (by decide)]; exact keep (by rw [hp, if_neg (by rw [p3]; simp)])
          | false =>
            rw [if_pos rfl]
            refine q_hasM (m := y) (by omega) h2 h3 hW hH (by omega) (by omega) hJ1 ?_
            simp only [f1, bi_0]
            cases p4 : pb (Gt W H (f 1) y 4 (12 * y + x)) with
            | true => rw [if_neg (by decide)]; exact keep (by rw [hp, if_neg (by rw [p4]; simp)])
            | false =>
              rw [if_pos rfl, fj_u3]
              refine ih2 _ (fun x' y' hx' hy' => ?_)
              by_cases e : 12 * y' + x' = 12 * y + x
              · have : x' = x ∧ y' = y := by omega
                obtain ⟨rfl, rfl⟩ := this
                rw [upd_at, if_pos (by omega), hp, if_pos ⟨hh, c1, p3, p4⟩]
              · rw [upd_ne _ _ e, f3, hB' x' y' hx' hy']
                by_cases c2 : y' < y ∨ (y' = y ∧ x' < x)
                · rw [if_pos c2, if_pos (by omega)]
                · rw [if_neg c2, if_neg (by omega)]
        · rw [if_neg c1]; exact keep (by rw [hp, if_neg (fun q => c1 q.2.1)])
    · intro x' y' hx' hy'
      rw [hB x' y' hx' hy']
      by_cases c : y' < y
      · rw [if_pos c, if_pos (by omega)]
      · rw [if_neg c, if_neg (by omega)]
theorem q_pour {N W H : Nat} {g : gFG} {f : gFF} {w : Int64} {Q : gFG → gFF → Int64 → Prop} (hN : 100000 ≤ N) (h2 : g 2 = nI W) (h3 : g 3 = nI H) (hW : W ≤ 12) (hH : H ≤ 12) (h : ∀ A B, (∀ x y, x < W → y < H → B (12 * y + x) = fateB W H (f 1) (f 2) x y) → Q g (fj f A B) w) : wX12_pourMould N g f w Q := by
  unfold wX12_pourMould
  refine q_join (m := 0) hN h2 h3 hW hH (by omega) (fun A hJ => ?_)
  have e0 : va_up f 4 A = fj f A (f 3) := by
    unfold fj
    have : (f 3) = (va_up f 4 A) 3 := rfl
    rw [this, up_id]
  rw [e0]
  refine lpD (β := Nat → Int32) (fun fu y B => wX12_pourMould_l7 N Q fu (nI y) g (fj f A B) w) (fun fu y m x B => wX12_pourMould_l17 N (nI y) (wX12_pourMould_l7 N Q fu) Q m (nI x) g (fj f A B) w) (fun y x B => ∀ x' y', x' < W → y' < H → (y' < y ∨ (y' = y ∧ x' < x)) → B (12 * y' + x') = met2 W H (f 1) x' y') 0 W H N (by omega) (by omega) ?_ ?_ ?_ ?_ 0 N (f 3) (by omega) (by omega) (fun x' y' _ _ h0 => by omega)
  · intro fu B hB
    unfold wX12_pourMould_l7
    rw [h3]
    exact ⟨fun _ => q_93 hN h2 h3 hW hH (fun x y hx hy => hB x y hx hy (Or.inl hy)) h, fun c => absurd (nI_le (Nat.le_refl H) (by omega)) c⟩
  · intro fu y B hy hB hi
    unfold wX12_pourMould_l7
    rw [h3]
    exact ⟨fun c => absurd c (nI_ge hy (by omega)), fun _ => hi⟩
  · intro fu y m B hy hB ih
    unfold wX12_pourMould_l17
    rw [h2]
    refine ⟨fun _ => ?_, fun c => absurd (nI_le (Nat.le_refl W) (by omega)) c⟩
    simp only [forall_eq, nI_1]
    exact ih B (fun x' y' hx' hy' h0 => hB x' y' hx' hy' (by omega))
  · intro fu y m x B hy _ hx hB ih
    have hin : vp_in (nI (12 * y + x)) 144 := vp_in_nI (by omega) (by decide)
    have f1 : (fj f A B) 1 = f 1 := rfl
    have f3 : (fj f A B) 3 = B := rfl
    unfold wX12_pourMould_l17
    rw [h2]
    refine ⟨fun c => absurd c (nI_ge hx (by omega)), fun _ => ?_⟩
    have put : ∀ v : Int32, v = met2 W H (f 1) x y → wX12_pourMould_l17 N (nI y) (wX12_pourMould_l7 N Q fu) Q m (nI (x + 1)) g (fj f A (upd B (12 * y + x) v)) w := by
      intro v hv
      refine ih _ (fun x' y' hx' hy' h0 => ?_)
      by_cases e : 12 * y' + x' = 12 * y + x
      · have : x' = x ∧ y' = y := by omega
        obtain ⟨rfl, rfl⟩ := this
        rw [upd_at]; exact hv
      · rw [upd_ne _ _ e]; exact hB x' y' hx' hy' (by omega)
    simp only [forall_eq, yx_I, q_holM (show 12 * y + x < 144 by omega), f1, f3, nI_clamp (show 12 * y + x < 2 ^ 31 by omega), hin, true_and, wX12_pourMould_j78, nI_1, bi_0, br1, br2, fj_u3]
    by_cases c2 : f 1 (12 * y + x) = 2
    · rw [if_pos c2]; exact put 1 (by unfold met2; rw [if_pos c2])
    · rw [if_neg c2]
      cases hh : hol (f 1 (12 * y + x)) with
      | false => rw [if_pos rfl]; exact put 0 (by unfold met2; rw [if_neg c2, hh, if_neg (by decide)])
      | true =>
        rw [if_neg (by decide)]
        refine q_hasM (m := 0) (by omega) h2 h3 hW hH (by omega) (by omega) hJ ?_
        simp only [f1, bi_0, f3, fj_u3]
        cases p3 : pb (Gt W H (f 1) 0 3 (12 * y + x)) with
        | true => rw [if_neg (by decide)]; exact put 1 (by unfold met2; rw [if_neg c2, hh, if_pos rfl, p3, if_pos rfl])
        | false => rw [if_pos rfl]; exact put 2 (by unfold met2; rw [if_neg c2, hh, if_pos rfl, p3, if_neg (by decide)])
/-! two pictures that agree on the grid -/
theorem edg_c {W H m k l : Nat} {S S' : Nat → Int32} (hW : W ≤ 12) (hH : H ≤ 12) (hS : ∀ k, k < 144 → S k = S' k) (h : edg W H S m k l) : edg W H S' m k l := by
  obtain ⟨g1, g2⟩ := edg_g h
  obtain ⟨x, y, h1, h2, h3, h4, h5, h6, h7⟩ := h
  have e1 := hS k (gd_lt hW hH g1)
  have e2 := hS l (gd_lt hW hH g2)
  exact ⟨x, y, h1, h2, h3, h4, by rw [← e1]; exact h5, by rw [← e2]; exact h6, h7⟩
theorem Cs_c {W H m a b : Nat} {S S' : Nat → Int32} (hW : W ≤ 12) (hH : H ≤ 12) (hS : ∀ k, k < 144 → S k = S' k) (h : Cs W H S m a b) : Cs W H S' m a b := fun F hF => h F (fun k l he => hF k l (edg_c hW hH hS he))
theorem Gt_c {W H m k : Nat} {v : Int32} {S S' : Nat → Int32} (hW : W ≤ 12) (hH : H ≤ 12) (hS : ∀ k, k < 144 → S k = S' k) : Gt W H S m v k ↔ Gt W H S' m v k := by
  have one : ∀ {S S' : Nat → Int32}, (∀ k, k < 144 → S k = S' k) → Gt W H S m v k → Gt W H S' m v k := by
    rintro S S' hS ⟨c, ⟨x, y, h1, h2, h3, h4, h5⟩, hC⟩
    exact ⟨c, ⟨x, y, h1, h2, h3, h4, by rw [← hS c (by omega)]; exact h5⟩, Cs_c hW hH hS hC⟩
  exact ⟨one hS, one (fun k hk => (hS k hk).symm)⟩
theorem pb_c {P P' : Prop} (h : P ↔ P') : pb P = pb P' := by rw [propext h]
theorem fate_c {W H x y : Nat} {S S' rep : Nat → Int32} (hW : W ≤ 12) (hH : H ≤ 12) (hS : ∀ k, k < 144 → S k = S' k) (hx : x < W) (hy : y < H) : fateB W H S rep x y = fateB W H S' rep x y := by
  unfold fateB pourB
  rw [hS (12 * y + x) (by omega), pb_c (Gt_c (m := 0) (v := 3) (k := 12 * y + x) hW hH hS), pb_c (P := Gt W H S y 3 (12 * y + x) ∨ Gt W H S y 4 (12 * y + x)) (P' := Gt W H S' y 3 (12 * y + x) ∨ Gt W H S' y 4 (12 * y + x)) (by rw [Gt_c hW hH hS, Gt_c hW hH hS])]
/-! counting over the grid -/
def cr (P : Nat → Nat → Bool) (y : Nat) : Nat → Nat
  | 0 => 0
  | x + 1 => cr P y x + if P x y = true then 1 else 0
def cg (P : Nat → Nat → Bool) (W : Nat) : Nat → Nat
  | 0 => 0
  | y + 1 => cg P W y + cr P y W
theorem cr_le (P : Nat → Nat → Bool) (y x : Nat) : cr P y x ≤ x := by
  induction x with
  | zero => exact Nat.le_refl 0
  | succ x ih => rw [cr]; split <;> omega
theorem cg_le {P : Nat → Nat → Bool} {W : Nat} (hW : W ≤ 12) (y : Nat) : cg P W y ≤ 12 * y := by
  induction y with
  | zero => exact Nat.le_refl 0
  | succ y ih => rw [cg]; have := cr_le P y W; omega
theorem cr_c {P P' : Nat → Nat → Bool} {y W : Nat} (h : ∀ x, x < W → P x y = P' x y) : cr P y W = cr P' y W := by
  induction W with
  | zero => rfl
  | succ x ih => rw [cr, cr, ih (fun z hz => h z (by omega)), h x (by omega)]
theorem cg_c {P P' : Nat → Nat → Bool} {W H : Nat} (h : ∀ x y, x < W → y < H → P x y = P' x y) : cg P W H = cg P' W H := by
  induction H with
  | zero => rfl
  | succ y ih => rw [cg, cg, ih (fun x z hx hz => h x z hx (by omega)), cr_c (fun x hx => h x y hx (by omega))]
theorem cr_or {P P' R : Nat → Nat → Bool} {y W : Nat} (h : ∀ x, x < W → (R x y = true ↔ P x y = true ∨ P' x y = true) ∧ ¬ (P x y = true ∧ P' x y = true)) : cr P y W + cr P' y W = cr R y W := by
  induction W with
  | zero => rfl
  | succ x ih =>
    have := ih (fun z hz => h z (by omega))
    obtain ⟨h1, h2⟩ := h x (by omega)
    rw [cr, cr, cr]
    cases hp : P x y <;> cases hp' : P' x y <;> cases hr : R x y <;> simp_all <;> omega
theorem cg_or {P P' R : Nat → Nat → Bool} {W H : Nat} (h : ∀ x y, x < W → y < H → (R x y = true ↔ P x y = true ∨ P' x y = true) ∧ ¬ (P x y = true ∧ P' x y = true)) : cg P W H + cg P' W H = cg R W H := by
  induction H with
  | zero => rfl
  | succ y ih =>
    have h1 := ih (fun x z hx hz => h x z hx (by omega))
    have h2 := cr_or (y := y) (W := W) (fun x hx => h x y hx (by omega))
    rw [cg, cg, cg]; omega
theorem cr_z {P : Nat → Nat → Bool} {y W : Nat} (h : ∀ x, W ≤ x → P x y = false) : ∀ d, cr P y (W + d) = cr P y W := by
  intro d
  induction d with
  | zero => rfl
  | succ d ih => rw [Nat.add_succ, cr, ih, h (W + d) (by omega)]; rfl
theorem cg_z {P : Nat → Nat → Bool} {W H : Nat} (h : ∀ x y, H ≤ y → P x y = false) : ∀ d, cg P W (H + d) = cg P W H := by
  intro d
  induction d with
  | zero => rfl
  | succ d ih =>
    rw [Nat.add_succ, cg, ih]
    have : cr P (H + d) W = cr P (H + d) 0 := by
      have := cr_z (P := P) (y := H + d) (W := 0) (fun x _ => h x _ (by omega)) W
      rw [Nat.zero_add] at this; exact this
    rw [this]; rfl
theorem cg_w {P : Nat → Nat → Bool} {W : Nat} (hW : W ≤ 12) (h : ∀ x y, W ≤ x → P x y = false) (y : Nat) : cg P 12 y = cg P W y := by
  induction y with
  | zero => rfl
  | succ y ih =>
    rw [cg, cg, ih]
    have := cr_z (P := P) (y := y) (W := W) (fun x hx => h x y hx) (12 - W)
    rw [show W + (12 - W) = 12 by omega] at this
    rw [this]
theorem cnt_row (r : Nat → Int32) (y : Nat) : ∀ x, cnt r (12 * y + x) = cnt r (12 * y) + cr (fun x y => nz (r (12 * y + x))) y x := by
  intro x
  induction x with
  | zero => rfl
  | succ x ih =>
    rw [Nat.add_succ, cnt, ih, cr]
    by_cases c : r (12 * y + x) = 0
    · rw [if_pos c, nz_f c, if_neg (by decide)]
      rfl
    · rw [if_neg c, nz_t c, if_pos rfl]
      omega
theorem cnt_cg12 (r : Nat → Int32) (y : Nat) : cnt r (12 * y) = cg (fun x y => nz (r (12 * y + x))) 12 y := by
  induction y with
  | zero => rfl
  | succ y ih => rw [Nat.mul_succ, cnt_row, ih, cg]
theorem cnt_cg {r : Nat → Int32} {W H : Nat} (hW : W ≤ 12) (hH : H ≤ 12) (h : ∀ k, k < 144 → r k ≠ 0 → ∃ x y, x < W ∧ y < H ∧ k = 12 * y + x) : cnt r 144 = cg (fun x y => nz (r (12 * y + x))) W H := by
  have h1 : cnt r 144 = cg (fun x y => decide (x < W ∧ y < H) && nz (r (12 * y + x))) 12 12 := by
    rw [show 144 = 12 * 12 from rfl, cnt_cg12]
    refine cg_c (fun x y hx hy => ?_)
    by_cases c : r (12 * y + x) = 0
    · rw [nz_f c]; simp
    · obtain ⟨x', y', a1, a2, a3⟩ := h _ (by omega) c
      have : x = x' ∧ y = y' := by omega
      obtain ⟨rfl, rfl⟩ := this
      rw [decide_eq_true ⟨a1, a2⟩]; rfl
  rw [h1, cg_w (W := W) hW (fun x y hx => by rw [decide_eq_false (by omega)]; rfl)]
  have := cg_z (P := fun x y => decide (x < W ∧ y < H) && nz (r (12 * y + x))) (W := W) (H := H) (fun x y hy => by rw [decide_eq_false (by omega)]; rfl) (12 - H)
  rw [show H + (12 - H) = 12 by omega] at this
  rw [this]
  refine cg_c (fun x y hx hy => ?_)
  rw [decide_eq_true ⟨hx, hy⟩]; rfl
