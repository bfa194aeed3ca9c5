/-! cells that are metal, walls, counts -/
def mtl (v : Int32) : Bool := decide (v = 1 ∨ v = 5)
def gI (W H : Nat) (F : Nat → Int32) (a b : Int) : Bool := decide (0 ≤ a ∧ a < W ∧ 0 ≤ b ∧ b < H) && mtl (F (12 * b + a).toNat)
theorem gI_n {W H x y : Nat} {F : Nat → Int32} (hx : x < W) (hy : y < H) : gI W H F x y = mtl (F (12 * y + x)) := by
  unfold gI
  rw [decide_eq_true (by omega), show (12 * (y : Int) + (x : Int)).toNat = 12 * y + x by omega]; rfl
theorem gI_c {W H : Nat} {F F' : Nat → Int32} (h : ∀ x y, x < W → y < H → F (12 * y + x) = F' (12 * y + x)) (a b : Int) : gI W H F a b = gI W H F' a b := by
  unfold gI
  by_cases c : 0 ≤ a ∧ a < W ∧ 0 ≤ b ∧ b < H
  · have := h a.toNat b.toNat (by omega) (by omega)
    rw [show 12 * b.toNat + a.toNat = (12 * b + a).toNat by omega] at this
    rw [this]
  · rw [decide_eq_false c]; rfl
theorem has_I {W H : Nat} {a b : Int32} (hW : W ≤ 12) (hH : H ≤ 12) : hasB (nI W) (nI H) a b = decide (0 ≤ a.toInt ∧ a.toInt < W ∧ 0 ≤ b.toInt ∧ b.toInt < H) := by
  unfold hasB
  rw [nI_I (show W < 2 ^ 31 by omega), nI_I (show H < 2 ^ 31 by omega)]
theorem q_isMetal {N W H : Nat} {a b : Int32} {g : gFG} {f : gFF} {Q : Int32 → gFG → gFF → Prop} (h4 : g 4 = nI W) (h5 : g 5 = nI H) (hW : W ≤ 12) (hH : H ≤ 12) : wX1_isMetal N a b g f Q = Q (bi (gI W H (f 14) a.toInt b.toInt)) g f := by
  unfold wX1_isMetal wX1_isMetal_j36
  rw [q_has, h4, h5]
  cases hh : hasB (nI W) (nI H) a b with
  | false =>
    have := hh
    rw [has_I hW hH] at this
    unfold gI
    rw [this]
    simp [bi]
  | true =>
    obtain ⟨x, y, hx, hy, rfl, rfl⟩ := has_ex hW hH hh
    have hin : vp_in (nI (12 * y + x)) 144 := vp_in_nI (by omega) (by decide)
    rw [nI_I (show x < 2 ^ 31 by omega), nI_I (show y < 2 ^ 31 by omega), gI_n hx hy]
    simp only [forall_eq, xy_I, nI_clamp (show 12 * y + x < 2 ^ 31 by omega), hin, true_and, br1, br2, bi_0, Bool.true_eq_false, if_false, mtl]
    by_cases c1 : f 14 (12 * y + x) = 1
    · simp [c1, bi]
    · by_cases c5 : f 14 (12 * y + x) = 5
      · simp [c5, bi]
      · simp [c1, c5, bi]
theorem q_isCast {N W H : Nat} {a b : Int32} {g : gFG} {f : gFF} {w : Int64} {Q : Int32 → gFG → gFF → Int64 → Prop} (h2 : g 2 = nI W) (h3 : g 3 = nI H) (hW : W ≤ 12) (hH : H ≤ 12) : wX12_isCast N a b g f w Q = Q (bi (gI W H (f 3) a.toInt b.toInt)) g f w := by
  unfold wX12_isCast wX12_isCast_j39
  rw [q_isCell, h2, h3]
  cases hh : hasB (nI W) (nI H) a b with
  | false =>
    have := hh
    rw [has_I hW hH] at this
    unfold gI
    rw [this]
    simp [bi]
  | true =>
    obtain ⟨x, y, hx, hy, rfl, rfl⟩ := has_ex hW hH hh
    have hin : vp_in (nI (12 * y + x)) 144 := vp_in_nI (by omega) (by decide)
    rw [nI_I (show x < 2 ^ 31 by omega), nI_I (show y < 2 ^ 31 by omega), gI_n hx hy]
    simp only [forall_eq, yx_I, nI_clamp (show 12 * y + x < 2 ^ 31 by omega), hin, true_and, br1, br2, bi_0, Bool.true_eq_false, if_false, mtl]
    by_cases c1 : f 3 (12 * y + x) = 1
    · simp [c1, bi]
    · by_cases c5 : f 3 (12 * y + x) = 5
      · simp [c5, bi]
      · simp [c1, c5, bi]
/-- how long it goes on from s -/
def rl (P : Nat → Bool) : Nat → Nat → Nat
  | 0, _ => 0
  | n + 1, s => if P s = true then rl P n (s + 1) + 1 else 0
theorem rl_le (P : Nat → Bool) : ∀ n s, rl P n s ≤ n := by
  intro n
  induction n with
  | zero => intro s; exact Nat.le_refl 0
  | succ n ih => intro s; rw [rl]; have := ih (s + 1); split <;> omega
theorem rl_c {P P' : Nat → Bool} (h : ∀ s, P s = P' s) : ∀ n s, rl P n s = rl P' n s := by
  intro n
  induction n with
  | zero => intro s; rfl
  | succ n ih => intro s; rw [rl, rl, h, ih]
def pw (W H : Nat) (F : Nat → Int32) (x y : Nat) (dx dy : Int) (s : Nat) : Bool := gI W H F ((x : Int) + s * dx) ((y : Int) + s * dy)
def gwxi : Nat → Int := fun k => (gwx k).toInt
def gwyi : Nat → Int := fun k => (gwy k).toInt
theorem gw_r : ∀ j : Nat, j < 4 → (-1 ≤ (gwx j).toInt ∧ (gwx j).toInt ≤ 1) ∧ (-1 ≤ (gwy j).toInt ∧ (gwy j).toInt ≤ 1) := by decide
theorem smul_r {s : Nat} {d : Int} (hs : s ≤ 12) (hd : -1 ≤ d ∧ d ≤ 1) : -12 ≤ (s : Int) * d ∧ (s : Int) * d ≤ 12 := by
  have : d = -1 ∨ d = 0 ∨ d = 1 := by omega
  rcases this with rfl | rfl | rfl <;> omega
theorem co_I {x s : Nat} {d : Int32} (hx : x ≤ 12) (hs : s ≤ 12) (hd : -1 ≤ d.toInt ∧ d.toInt ≤ 1) : (nI x + nI s * d).toInt = (x : Int) + s * d.toInt := by
  have h0 := smul_r hs hd
  have h1 : (nI s * d).toInt = s * d.toInt := by
    rw [mul_I (by rw [nI_I (by omega)]; omega) (by rw [nI_I (by omega)]; omega), nI_I (by omega)]
  rw [add_I (by rw [h1, nI_I (by omega)]; omega) (by rw [h1, nI_I (by omega)]; omega), h1, nI_I (by omega)]
theorem q_stretch {N W H x y j : Nat} {g : gFG} {f : gFF} {Q : Int32 → gFG → gFF → Prop} (hN : 1000 ≤ N) (h4 : g 4 = nI W) (h5 : g 5 = nI H) (hW : W ≤ 12) (hH : H ≤ 12) (hx : x < W) (hy : y < H) (hj : j < 4) (h : Q (nI (rl (pw W H (f 14) x y (gwx j).toInt (gwy j).toInt) 11 1)) g f) : wX1_stretch N (nI x) (nI y) (nI j) g f Q := by
  obtain ⟨r1, r2⟩ := gw_r j hj
  have hin : vp_in (nI j) 4 := vp_in_nI hj (by decide)
  have key : ∀ m s r fu, s + m = 12 → 1 ≤ s → m < fu → (Q (nI (r + rl (pw W H (f 14) x y (gwx j).toInt (gwy j).toInt) m s)) g f) → wX1_stretch_l6 N (nI x) (nI y) (nI j) Q fu (nI r) (nI s) g f := by
    intro m
    induction m with
    | zero =>
      intro s r fu h1 h2 h3 hq
      obtain ⟨fu, rfl⟩ : ∃ k, fu = k + 1 := ⟨fu - 1, by omega⟩
      have : s = 12 := by omega
      subst this
      unfold wX1_stretch_l6
      exact ⟨fun _ => hq, fun c => absurd (nI_le (Nat.le_refl 12) (by decide)) c⟩
    | succ m ih =>
      intro s r fu h1 h2 h3 hq
      obtain ⟨fu, rfl⟩ : ∃ k, fu = k + 1 := ⟨fu - 1, by omega⟩
      unfold wX1_stretch_l6
      refine ⟨fun c => absurd c (nI_ge (show s < 12 by omega) (by decide)), fun _ => ⟨hin, hin, ?_⟩⟩
      rw [nI_clamp (by omega), q_isMetal h4 h5 hW hH, co_I (by omega) (by omega) r1, co_I (by omega) (by omega) r2]
      have e : gI W H (f 14) ((x : Int) + s * (gwx j).toInt) ((y : Int) + s * (gwy j).toInt) = pw W H (f 14) x y (gwx j).toInt (gwy j).toInt s := rfl
      rw [e]
      simp only [forall_eq, nI_1]
      rw [rl] at hq
      cases hp : pw W H (f 14) x y (gwx j).toInt (gwy j).toInt s with
      | false =>
        rw [hp, if_neg (by decide)] at hq
        exact ⟨fun c => absurd rfl c, fun _ => hq⟩
      | true =>
        rw [hp, if_pos rfl] at hq
        refine ⟨fun _ => ih (s + 1) (r + 1) fu (by omega) (by omega) (by omega) ?_, fun c => absurd c (by decide)⟩
        rw [show r + 1 + rl (pw W H (f 14) x y (gwx j).toInt (gwy j).toInt) m (s + 1) = r + (rl (pw W H (f 14) x y (gwx j).toInt (gwy j).toInt) m (s + 1) + 1) by omega]
        exact hq
  unfold wX1_stretch
  exact key 11 1 0 N rfl (by omega) (by omega) (by rw [Nat.zero_add]; exact h)
def rwl (W H : Nat) (F : Nat → Int32) (x y : Nat) : Nat := 1 + rl (pw W H F x y 1 0) 11 1 + rl (pw W H F x y (-1) 0) 11 1
def cwl (W H : Nat) (F : Nat → Int32) (x y : Nat) : Nat := 1 + rl (pw W H F x y 0 1) 11 1 + rl (pw W H F x y 0 (-1)) 11 1
def wvl (W H : Nat) (F : Nat → Int32) (x y : Nat) : Nat := if mtl (F (12 * y + x)) = true then min (rwl W H F x y) (cwl W H F x y) else 0
theorem rwl_r (W H : Nat) (F : Nat → Int32) (x y : Nat) : 1 ≤ rwl W H F x y ∧ rwl W H F x y ≤ 23 := by
  unfold rwl
  have h1 := rl_le (pw W H F x y 1 0) 11 1
  have h2 := rl_le (pw W H F x y (-1) 0) 11 1
  omega
theorem cwl_r (W H : Nat) (F : Nat → Int32) (x y : Nat) : 1 ≤ cwl W H F x y ∧ cwl W H F x y ≤ 23 := by
  unfold cwl
  have h1 := rl_le (pw W H F x y 0 1) 11 1
  have h2 := rl_le (pw W H F x y 0 (-1)) 11 1
  omega
theorem wvl_r (W H : Nat) (F : Nat → Int32) (x y : Nat) : wvl W H F x y ≤ 23 := by
  unfold wvl
  have := rwl_r W H F x y
  split <;> omega
theorem pw_c {W H x y : Nat} {F F' : Nat → Int32} (h : ∀ x y, x < W → y < H → F (12 * y + x) = F' (12 * y + x)) (dx dy : Int) (s : Nat) : pw W H F x y dx dy s = pw W H F' x y dx dy s := gI_c h _ _
theorem wvl_c {W H x y : Nat} {F F' : Nat → Int32} (h : ∀ x y, x < W → y < H → F (12 * y + x) = F' (12 * y + x)) (hx : x < W) (hy : y < H) : wvl W H F x y = wvl W H F' x y := by
  unfold wvl rwl cwl
  rw [h x y hx hy, rl_c (pw_c h 1 0), rl_c (pw_c h (-1) 0), rl_c (pw_c h 0 1), rl_c (pw_c h 0 (-1))]
theorem q_wallAtC {N W H x y : Nat} {g : gFG} {f : gFF} {Q : Int32 → gFG → gFF → Prop} (hN : 1000 ≤ N) (h4 : g 4 = nI W) (h5 : g 5 = nI H) (hW : W ≤ 12) (hH : H ≤ 12) (hx : x < W) (hy : y < H) (h : Q (nI (wvl W H (f 14) x y)) g f) : wX1_wallAt N (nI x) (nI y) g f Q := by
  unfold wX1_wallAt
  rw [q_isMetal h4 h5 hW hH, nI_I (by omega), nI_I (by omega), gI_n hx hy]
  unfold wvl at h
  cases hm : mtl (f 14 (12 * y + x)) with
  | false =>
    rw [hm, if_neg (by decide)] at h
    exact ⟨fun c => absurd rfl c, fun _ => h⟩
  | true =>
    rw [hm, if_pos rfl] at h
    refine ⟨fun _ => ?_, fun c => absurd c (by decide)⟩
    refine q_stretch (j := 0) hN h4 h5 hW hH hx hy (by omega) ?_
    refine q_stretch (j := 2) hN h4 h5 hW hH hx hy (by omega) ?_
    rintro _ rfl
    refine q_stretch (j := 1) hN h4 h5 hW hH hx hy (by omega) ?_
    refine q_stretch (j := 3) hN h4 h5 hW hH hx hy (by omega) ?_
    rintro _ rfl
    rw [q_min]
    have e1 : (1 : Int32) + nI (rl (pw W H (f 14) x y (gwx 0).toInt (gwy 0).toInt) 11 1) + nI (rl (pw W H (f 14) x y (gwx 2).toInt (gwy 2).toInt) 11 1) = nI (rwl W H (f 14) x y) := by
      have : (1 : Int32) = nI 1 := rfl
      rw [this, nI_add, nI_add]; rfl
    have e2 : (1 : Int32) + nI (rl (pw W H (f 14) x y (gwx 1).toInt (gwy 1).toInt) 11 1) + nI (rl (pw W H (f 14) x y (gwx 3).toInt (gwy 3).toInt) 11 1) = nI (cwl W H (f 14) x y) := by
      have : (1 : Int32) = nI 1 := rfl
      rw [this, nI_add, nI_add]; rfl
    rw [e1, e2]
    have r1 := rwl_r W H (f 14) x y
    have r2 := cwl_r W H (f 14) x y
    rw [nI_I (show rwl W H (f 14) x y < 2 ^ 31 by omega), nI_I (show cwl W H (f 14) x y < 2 ^ 31 by omega)]
    by_cases c : rwl W H (f 14) x y ≤ cwl W H (f 14) x y
    · rw [if_pos (by omega)]
      rw [Nat.min_eq_left c] at h; exact h
    · rw [if_neg (by omega)]
      rw [Nat.min_eq_right (by omega)] at h; exact h
/-- a run of the model along a line -/
theorem rl_run {W H : Nat} {F : Nat → Int32} {x y : Nat} (dx dy : Int) (G : Nat → Nat → Nat → Prop) (E : Nat → Prop) (hstep : ∀ fu r s, s ≤ 12 → (pw W H F x y dx dy s = true → G fu (r + 1) (s + 1)) → (pw W H F x y dx dy s = false → E r) → G (fu + 1) r s) : ∀ m s r fu, pw W H F x y dx dy (s + m) = false → s + m ≤ 12 → m < fu → E (r + rl (pw W H F x y dx dy) m s) → G fu r s := by
  intro m
  induction m with
  | zero =>
    intro s r fu h1 h2 h3 he
    obtain ⟨fu, rfl⟩ : ∃ k, fu = k + 1 := ⟨fu - 1, by omega⟩
    refine hstep fu r s (by omega) (fun c => ?_) (fun _ => he)
    rw [Nat.add_zero] at h1
    rw [h1] at c; contradiction
  | succ m ih =>
    intro s r fu h1 h2 h3 he
    obtain ⟨fu, rfl⟩ : ∃ k, fu = k + 1 := ⟨fu - 1, by omega⟩
    rw [rl] at he
    refine hstep fu r s (by omega) (fun c => ?_) (fun c => ?_)
    · rw [if_pos c] at he
      refine ih (s + 1) (r + 1) fu (by rw [show s + 1 + m = s + (m + 1) by omega]; exact h1) (by omega) (by omega) ?_
      rw [show r + 1 + rl (pw W H F x y dx dy) m (s + 1) = r + (rl (pw W H F x y dx dy) m (s + 1) + 1) by omega]
      exact he
    · rw [if_neg (by rw [c]; decide)] at he
      exact he
theorem pw_12 {W H x y : Nat} {F : Nat → Int32} {dx dy : Int} (hW : W ≤ 12) (hH : H ≤ 12) (hx : x < W) (hy : y < H) (hd : (dx = 1 ∧ dy = 0) ∨ (dx = -1 ∧ dy = 0) ∨ (dx = 0 ∧ dy = 1) ∨ (dx = 0 ∧ dy = -1)) : pw W H F x y dx dy 12 = false := by
  unfold pw gI
  rw [decide_eq_false]
  · rfl
  · rcases hd with ⟨rfl, rfl⟩ | ⟨rfl, rfl⟩ | ⟨rfl, rfl⟩ | ⟨rfl, rfl⟩ <;> omega
theorem q_wallAtM {N W H x y : Nat} {g : gFG} {f : gFF} {w : Int64} {Q : Int32 → gFG → gFF → Int64 → Prop} (hN : 1000 ≤ N) (h2 : g 2 = nI W) (h3 : g 3 = nI H) (hW : W ≤ 12) (hH : H ≤ 12) (hx : x < W) (hy : y < H) (h : Q (nI (min (rwl W H (f 3) x y) (cwl W H (f 3) x y))) g f w) : wX12_wallAt N (nI x) (nI y) g f w Q := by
  have zx : (nI x).toInt = (x : Int) := nI_I (by omega)
  have zy : (nI y).toInt = (y : Int) := nI_I (by omega)
  have mv : ∀ (z : Int) (d : Int32) (v : Int32) (s : Nat), s ≤ 12 → 0 ≤ z → z < 12 → (d.toInt = 1 ∨ d.toInt = -1) → v.toInt = z + s * d.toInt → (v + d).toInt = z + (s + 1 : Nat) * d.toInt := by
    intro z d v s hs z1 z2 hd hv
    rcases hd with hd | hd
    · rw [hd] at hv ⊢
      rw [add_I (by rw [hv, hd]; omega) (by rw [hv, hd]; omega), hv, hd]; omega
    · rw [hd] at hv ⊢
      rw [add_I (by rw [hv, hd]; omega) (by rw [hv, hd]; omega), hv, hd]; omega
  -- the loops from the last to the first
  have L82 : ∀ (r c : Nat), r ≤ 50 → c ≤ 23 → (Q (nI (min r (c + rl (pw W H (f 3) x y 0 1) 11 1))) g f w) → wX12_wallAt_l82 N (nI x) (nI r) Q N (nI c) (nI y + 1) g f w := by
    intro r c hr hc hq
    refine rl_run (W := W) (H := H) (F := f 3) (x := x) (y := y) 0 1 (fun fu c s => c ≤ s + 30 → ∀ v : Int32, v.toInt = (y : Int) + s * (1 : Int32).toInt → wX12_wallAt_l82 N (nI x) (nI r) Q fu (nI c) v g f w) (fun c => c ≤ 42 → Q (nI (min r c)) g f w) ?_ 11 1 c N (pw_12 hW hH hx hy (by omega)) (by omega) (by omega) (fun _ => hq) (by omega) _ (by rw [nI_1, nI_I (by omega), z_1]; omega)
    intro fu c s hs k1 k0 hc v hv
    unfold wX12_wallAt_l82
    rw [q_isCast h2 h3 hW hH, zx, hv]
    have ep : gI W H (f 3) (x : Int) ((y : Int) + s * (1 : Int32).toInt) = pw W H (f 3) x y 0 1 s := by unfold pw; rw [Int.mul_zero, Int.add_zero, z_1]
    rw [ep]
    cases hp : pw W H (f 3) x y 0 1 s with
    | false =>
      refine ⟨fun _ => ?_, fun c => absurd rfl c⟩
      have := k0 hp (by omega)
      refine ⟨fun q => ?_, fun q => ?_⟩
      · rw [nI_leI (by omega) (by omega)] at q
        rw [Nat.min_eq_right q] at this; exact this
      · rw [nI_leI (by omega) (by omega)] at q
        rw [Nat.min_eq_left (by omega)] at this; exact this
    | true =>
      refine ⟨fun c => absurd c (by decide), fun _ => ?_⟩
      rintro _ rfl _ rfl
      rw [nI_1]
      exact k1 hp (by omega) _ (mv _ _ _ _ hs (by omega) (by omega) (Or.inl rfl) hv)
  have L58 : ∀ r : Nat, r ≤ 50 → (Q (nI (min r (1 + rl (pw W H (f 3) x y 0 (-1)) 11 1 + rl (pw W H (f 3) x y 0 1) 11 1))) g f w) → wX12_wallAt_l58 N (nI x) (nI y) (nI r) Q N (nI 1) (nI y - 1) g f w := by
    intro r hr hq
    have hle := rl_le (pw W H (f 3) x y 0 (-1)) 11 1
    refine rl_run (W := W) (H := H) (F := f 3) (x := x) (y := y) 0 (-1) (fun fu c s => c ≤ s + 30 → ∀ v : Int32, v.toInt = (y : Int) + s * (-1 : Int32).toInt → wX12_wallAt_l58 N (nI x) (nI y) (nI r) Q fu (nI c) v g f w) (fun c => wX12_wallAt_l82 N (nI x) (nI r) Q N (nI c) (nI y + 1) g f w) ?_ 11 1 1 N (pw_12 hW hH hx hy (by omega)) (by omega) (by omega) (L82 r _ hr (by omega) hq) (by omega) _ (by rw [sub_I (by rw [zy, z_1]; omega) (by rw [zy, z_1]; omega), zy, z_1, z_m1]; omega)
    intro fu c s hs k1 k0 hc v hv
    unfold wX12_wallAt_l58
    rw [q_isCast h2 h3 hW hH, zx, hv]
    have ep : gI W H (f 3) (x : Int) ((y : Int) + s * (-1 : Int32).toInt) = pw W H (f 3) x y 0 (-1) s := by unfold pw; rw [Int.mul_zero, Int.add_zero, z_m1]
    rw [ep]
    cases hp : pw W H (f 3) x y 0 (-1) s with
    | false =>
      refine ⟨fun _ => ?_, fun c => absurd rfl c⟩
      rintro _ rfl
      exact k0 hp
    | true =>
      refine ⟨fun c => absurd c (by decide), fun _ => ?_⟩
      rintro _ rfl _ rfl
      rw [nI_1]
      exact k1 hp (by omega) _ (mv _ _ _ _ hs (by omega) (by omega) (Or.inr rfl) hv)
  have L31 : ∀ r : Nat, r ≤ 23 → (Q (nI (min (r + rl (pw W H (f 3) x y 1 0) 11 1) (1 + rl (pw W H (f 3) x y 0 (-1)) 11 1 + rl (pw W H (f 3) x y 0 1) 11 1))) g f w) → wX12_wallAt_l31 N (nI x) (nI y) Q N (nI r) (nI x + 1) g f w := by
    intro r hr hq
    have hle := rl_le (pw W H (f 3) x y 1 0) 11 1
    refine rl_run (W := W) (H := H) (F := f 3) (x := x) (y := y) 1 0 (fun fu c s => c ≤ s + 30 → ∀ v : Int32, v.toInt = (x : Int) + s * (1 : Int32).toInt → wX12_wallAt_l31 N (nI x) (nI y) Q fu (nI c) v g f w) (fun c => wX12_wallAt_l58 N (nI x) (nI y) (nI c) Q N (nI 1) (nI y - 1) g f w) ?_ 11 1 r N (pw_12 hW hH hx hy (by omega)) (by omega) (by omega) (L58 _ (by omega) hq) (by omega) _ (by rw [nI_1, nI_I (by omega), z_1]; omega)
    intro fu c s hs k1 k0 hc v hv
    unfold wX12_wallAt_l31
    rw [q_isCast h2 h3 hW hH, zy, hv]
    have ep : gI W H (f 3) ((x : Int) + s * (1 : Int32).toInt) (y : Int) = pw W H (f 3) x y 1 0 s := by unfold pw; rw [Int.mul_zero, Int.add_zero, z_1]
    rw [ep]
    cases hp : pw W H (f 3) x y 1 0 s with
    | false =>
      refine ⟨fun _ => ?_, fun c => absurd rfl c⟩
      rintro _ rfl
      exact k0 hp
    | true =>
      refine ⟨fun c => absurd c (by decide), fun _ => ?_⟩
      rintro _ rfl _ rfl
      rw [nI_1]
      exact k1 hp (by omega) _ (mv _ _ _ _ hs (by omega) (by omega) (Or.inl rfl) hv)
  unfold wX12_wallAt
  rintro _ rfl
  have hle := rl_le (pw W H (f 3) x y (-1) 0) 11 1
  refine rl_run (W := W) (H := H) (F := f 3) (x := x) (y := y) (-1) 0 (fun fu c s => c ≤ s + 30 → ∀ v : Int32, v.toInt = (x : Int) + s * (-1 : Int32).toInt → wX12_wallAt_l7 N (nI x) (nI y) Q fu (nI c) v g f w) (fun c => wX12_wallAt_l31 N (nI x) (nI y) Q N (nI c) (nI x + 1) g f w) ?_ 11 1 1 N (pw_12 hW hH hx hy (by omega)) (by omega) (by omega) (L31 _ (by omega) ?_) (by omega) _ (by rw [sub_I (by rw [zx, z_1]; omega) (by rw [zx, z_1]; omega), zx, z_1, z_m1]; omega)
  · intro fu c s hs k1 k0 hc v hv
    unfold wX12_wallAt_l7
    rw [q_isCast h2 h3 hW hH, zy, hv]
    have ep : gI W H (f 3) ((x : Int) + s * (-1 : Int32).toInt) (y : Int) = pw W H (f 3) x y (-1) 0 s := by unfold pw; rw [Int.mul_zero, Int.add_zero, z_m1]
    rw [ep]
    cases hp : pw W H (f 3) x y (-1) 0 s with
    | false =>
      refine ⟨fun _ => ?_, fun c => absurd rfl c⟩
      rintro _ rfl
      exact k0 hp
    | true =>
      refine ⟨fun c => absurd c (by decide), fun _ => ?_⟩
      rintro _ rfl _ rfl
      rw [nI_1]
      exact k1 hp (by omega) _ (mv _ _ _ _ hs (by omega) (by omega) (Or.inr rfl) hv)
  · have e1 : 1 + rl (pw W H (f 3) x y (-1) 0) 11 1 + rl (pw W H (f 3) x y 1 0) 11 1 = rwl W H (f 3) x y := by unfold rwl; omega
    have e2 : 1 + rl (pw W H (f 3) x y 0 (-1)) 11 1 + rl (pw W H (f 3) x y 0 1) 11 1 = cwl W H (f 3) x y := by unfold cwl; omega
    rw [e1, e2]; exact h
/-! the thinnest wall -/
def lst (l v : Nat) : Nat := if 0 < v ∧ (l = 0 ∨ v < l) then v else l
def lwr (V : Nat → Nat → Nat) (y l : Nat) : Nat → Nat
  | 0 => l
  | x + 1 => lst (lwr V y l x) (V x y)
def lwo (V : Nat → Nat → Nat) (W : Nat) : Nat → Nat
  | 0 => 0
  | y + 1 => lwr V y (lwo V W y) W
theorem lst_r {l v : Nat} (h1 : l ≤ 23) (h2 : v ≤ 23) : lst l v ≤ 23 := by unfold lst; split <;> omega
theorem lwr_r {V : Nat → Nat → Nat} (hV : ∀ x y, V x y ≤ 23) {y l : Nat} (hl : l ≤ 23) : ∀ x, lwr V y l x ≤ 23 := by
  intro x
  induction x with
  | zero => exact hl
  | succ x ih => exact lst_r ih (hV x y)
theorem lwo_r {V : Nat → Nat → Nat} (hV : ∀ x y, V x y ≤ 23) (W : Nat) : ∀ y, lwo V W y ≤ 23 := by
  intro y
  induction y with
  | zero => exact Nat.zero_le _
  | succ y ih => exact lwr_r hV ih W
theorem lwr_c {V V' : Nat → Nat → Nat} {y l W : Nat} (h : ∀ x, x < W → V x y = V' x y) : lwr V y l W = lwr V' y l W := by
  induction W with
  | zero => rfl
  | succ x ih => rw [lwr, lwr, ih (fun z hz => h z (by omega)), h x (by omega)]
theorem lwo_c {V V' : Nat → Nat → Nat} {W H : Nat} (h : ∀ x y, x < W → y < H → V x y = V' x y) : lwo V W H = lwo V' W H := by
  induction H with
  | zero => rfl
  | succ y ih => rw [lwo, lwo, ih (fun x z hx hz => h x z hx (by omega)), lwr_c (fun x hx => h x y hx (by omega))]
theorem lst_I {l v : Nat} (hl : l ≤ 23) (hv : v ≤ 23) (P : Int32 → Prop) : P (nI (lst l v)) ↔ ((nI v ≤ 0 → P (nI l)) ∧ (¬ nI v ≤ 0 → (nI l = 0 → P (nI v)) ∧ (¬ nI l = 0 → (nI l ≤ nI v → P (nI l)) ∧ (¬ nI l ≤ nI v → P (nI v))))) := by
  have e0 : (nI v ≤ 0) = (v = 0) := by rw [le_I, nI_I (by omega), z_0]; apply propext; omega
  have e1 : (nI l = 0) = (l = 0) := by rw [eq_I, nI_I (by omega), z_0]; apply propext; omega
  have e2 : (nI l ≤ nI v) = (l ≤ v) := propext (nI_leI (by omega) (by omega))
  rw [e0, e1, e2]
  unfold lst
  by_cases c : 0 < v ∧ (l = 0 ∨ v < l)
  · rw [if_pos c]
    exact ⟨fun h => ⟨fun q => by omega, fun _ => ⟨fun _ => h, fun _ => ⟨fun q => by omega, fun _ => h⟩⟩⟩, fun h => by
      by_cases d : l = 0
      · exact (h.2 (by omega)).1 d
      · exact ((h.2 (by omega)).2 d).2 (by omega)⟩
  · rw [if_neg c]
    exact ⟨fun h => ⟨fun _ => h, fun q => ⟨fun q2 => by omega, fun q2 => ⟨fun _ => h, fun q3 => by omega⟩⟩⟩, fun h => by
      by_cases d : v = 0
      · exact h.1 d
      · exact ((h.2 d).2 (by omega)).1 (by omega)⟩
theorem q_leastW {N W H : Nat} {g : gFG} {f : gFF} {Q : Int32 → gFG → gFF → Prop} (hN : 1000 ≤ N) (h4 : g 4 = nI W) (h5 : g 5 = nI H) (hW : W ≤ 12) (hH : H ≤ 12) (h : Q (nI (lwo (wvl W H (f 14)) W H)) g f) : wX1_leastWall N g f Q := by
  have hV : ∀ x y, wvl W H (f 14) x y ≤ 23 := wvl_r W H (f 14)
  unfold wX1_leastWall
  refine lpD (β := Nat) (fun fu y b => wX1_leastWall_l4 N Q fu (nI b) (nI y) g f) (fun fu y m x b => wX1_leastWall_l17 N (nI y) (wX1_leastWall_l4 N Q fu) Q m (nI b) (nI x) g f) (fun y x b => b = lwr (wvl W H (f 14)) y (lwo (wvl W H (f 14)) W y) x) 0 W H N (by omega) (by omega) ?_ ?_ ?_ ?_ 0 N 0 (by omega) (by omega) rfl
  · rintro fu _ rfl
    unfold wX1_leastWall_l4 wX2_height
    dsimp only
    rw [h5]
    exact ⟨fun _ => h, fun c => absurd (nI_le (Nat.le_refl H) (by omega)) c⟩
  · intro fu y b hy hb hi
    unfold wX1_leastWall_l4 wX2_height
    dsimp only
    rw [h5]
    exact ⟨fun c => absurd c (nI_ge hy (by omega)), fun _ => hi⟩
  · rintro fu y m _ hy rfl ih
    unfold wX1_leastWall_l17 wX2_width
    dsimp only
    rw [h4]
    refine ⟨fun _ => ?_, fun c => absurd (nI_le (Nat.le_refl W) (by omega)) c⟩
    rintro _ rfl
    rw [nI_1]
    exact ih _ rfl
  · rintro fu y m x _ hy _ hx rfl ih
    unfold wX1_leastWall_l17 wX2_width
    dsimp only
    rw [h4]
    refine ⟨fun c => absurd c (nI_ge hx (by omega)), fun _ => ?_⟩
    refine q_wallAtC hN h4 h5 hW hH hx hy ?_
    simp only [wX1_leastWall_j54, wX1_leastWall_j51, forall_eq, nI_1]
    exact (lst_I (lwr_r hV (lwo_r hV W y) x) (hV x y) (fun v => wX1_leastWall_l17 N (nI y) (wX1_leastWall_l4 N Q fu) Q m v (nI (x + 1)) g f)).mp (ih _ rfl)
theorem q_wallOfM {N W H : Nat} {g : gFG} {f : gFF} {w : Int64} {Q : Int32 → gFG → gFF → Int64 → Prop} (hN : 1000 ≤ N) (h2 : g 2 = nI W) (h3 : g 3 = nI H) (hW : W ≤ 12) (hH : H ≤ 12) (h : Q (nI (lwo (wvl W H (f 3)) W H)) g f w) : wX12_wallOf N g f w Q := by
  have hV : ∀ x y, wvl W H (f 3) x y ≤ 23 := wvl_r W H (f 3)
  unfold wX12_wallOf
  refine lpD (β := Nat) (fun fu y b => wX12_wallOf_l4 N Q fu (nI b) (nI y) g f w) (fun fu y m x b => wX12_wallOf_l14 N (nI y) (wX12_wallOf_l4 N Q fu) Q m (nI b) (nI x) g f w) (fun y x b => b = lwr (wvl W H (f 3)) y (lwo (wvl W H (f 3)) W y) x) 0 W H N (by omega) (by omega) ?_ ?_ ?_ ?_ 0 N 0 (by omega) (by omega) rfl
  · rintro fu _ rfl
    unfold wX12_wallOf_l4
    rw [h3]
    exact ⟨fun _ => h, fun c => absurd (nI_le (Nat.le_refl H) (by omega)) c⟩
  · intro fu y b hy hb hi
    unfold wX12_wallOf_l4
    rw [h3]
    exact ⟨fun c => absurd c (nI_ge hy (by omega)), fun _ => hi⟩
  · rintro fu y m _ hy rfl ih
    unfold wX12_wallOf_l14
    rw [h2]
    refine ⟨fun _ => ?_, fun c => absurd (nI_le (Nat.le_refl W) (by omega)) c⟩
    rintro _ rfl
    rw [nI_1]
    exact ih _ rfl
  · rintro fu y m x _ hy _ hx rfl ih
    unfold wX12_wallOf_l14
    rw [h2]
    refine ⟨fun c => absurd c (nI_ge hx (by omega)), fun _ => ?_⟩
    have fin : ∀ v : Nat, v = wvl W H (f 3) x y → wX12_wallOf_j41 N (wX12_wallOf_l4 N Q fu) (wX12_wallOf_l14 N (nI y) (wX12_wallOf_l4 N Q fu) Q m) Q (nI (lwr (wvl W H (f 3)) y (lwo (wvl W H (f 3)) W y) x)) (nI y) (nI x) (nI v) g f w := by
      rintro _ rfl
      simp only [wX12_wallOf_j41, wX12_wallOf_j63, wX12_wallOf_j58, wX12_wallOf_j64, forall_eq, nI_1]
      exact (lst_I (lwr_r hV (lwo_r hV W y) x) (hV x y) (fun v => wX12_wallOf_l14 N (nI y) (wX12_wallOf_l4 N Q fu) Q m v (nI (x + 1)) g f w)).mp (ih _ rfl)
    rw [q_isCast h2 h3 hW hH, nI_I (show x < 2 ^ 31 by omega), nI_I (show y < 2 ^ 31 by omega), gI_n hx hy]
    cases hm : mtl (f 3 (12 * y + x)) with
    | false =>
      refine ⟨fun _ => fin 0 (by unfold wvl; rw [hm, if_neg (by decide)]), fun c => absurd rfl c⟩
    | true =>
      refine ⟨fun c => absurd c (by decide), fun _ => ?_⟩
      refine q_wallAtM hN h2 h3 hW hH hx hy (fin _ ?_)
      unfold wvl; rw [hm, if_pos rfl]
/-! counts -/
theorem q_howC {N W H : Nat} {v : Int32} {g : gFG} {f : gFF} {Q : Int32 → gFG → gFF → Prop} (hN : 1000 ≤ N) (h4 : g 4 = nI W) (h5 : g 5 = nI H) (hW : W ≤ 12) (hH : H ≤ 12) (h : Q (nI (cg (fun x y => decide (f 14 (12 * y + x) = v)) W H)) g f) : wX1_howMany N v g f Q := by
  unfold wX1_howMany
  refine lpD (β := Nat) (fun fu y b => wX1_howMany_l4 N v Q fu (nI b) (nI y) g f) (fun fu y m x b => wX1_howMany_l18 N v (nI y) (wX1_howMany_l4 N v Q fu) Q m (nI b) (nI x) g f) (fun y x b => b = cg (fun x y => decide (f 14 (12 * y + x) = v)) W y + cr (fun x y => decide (f 14 (12 * y + x) = v)) y x) 0 W H N (by omega) (by omega) ?_ ?_ ?_ ?_ 0 N 0 (by omega) (by omega) rfl
  · rintro fu _ rfl
    unfold wX1_howMany_l4 wX2_height
    dsimp only
    rw [h5]
    exact ⟨fun _ => h, fun c => absurd (nI_le (Nat.le_refl H) (by omega)) c⟩
  · intro fu y b hy hb hi
    unfold wX1_howMany_l4 wX2_height
    dsimp only
    rw [h5]
    exact ⟨fun c => absurd c (nI_ge hy (by omega)), fun _ => hi⟩
  · rintro fu y m _ hy rfl ih
    unfold wX1_howMany_l18 wX2_width
    dsimp only
    rw [h4]
    refine ⟨fun _ => ?_, fun c => absurd (nI_le (Nat.le_refl W) (by omega)) c⟩
    rintro _ rfl
    rw [nI_1]
    exact ih _ rfl
  · rintro fu y m x _ hy _ hx rfl ih
    unfold wX1_howMany_l18 wX2_width
    dsimp only
    rw [h4]
    refine ⟨fun c => absurd c (nI_ge hx (by omega)), fun _ => ?_⟩
    rw [q_fatN h4 h5 hW hH hx hy]
    simp only [wX1_howMany_j44, forall_eq, nI_1]
    refine ⟨fun c => ih _ ?_, fun c => ih _ ?_⟩
    · rw [cr, decide_eq_false c]; rfl
    · rw [cr, decide_eq_true c]; rfl
theorem q_howG {N W H : Nat} {lo hi : Int32} {g : gFG} {f : gFF} {Q : Int32 → gFG → gFF → Prop} (hN : 1000 ≤ N) (h4 : g 4 = nI W) (h5 : g 5 = nI H) (hW : W ≤ 12) (hH : H ≤ 12) (h : Q (nI (cg (fun x y => decide (lo.toInt ≤ (f 13 (12 * y + x)).toInt ∧ (f 13 (12 * y + x)).toInt ≤ hi.toInt)) W H)) g f) : wX2_howMany N lo hi g f Q := by
  unfold wX2_howMany
  refine lpD (β := Nat) (fun fu y b => wX2_howMany_l5 N lo hi Q fu (nI b) (nI y) g f) (fun fu y m x b => wX2_howMany_l17 N lo hi (nI y) (wX2_howMany_l5 N lo hi Q fu) Q m (nI b) (nI x) g f) (fun y x b => b = cg (fun x y => decide (lo.toInt ≤ (f 13 (12 * y + x)).toInt ∧ (f 13 (12 * y + x)).toInt ≤ hi.toInt)) W y + cr (fun x y => decide (lo.toInt ≤ (f 13 (12 * y + x)).toInt ∧ (f 13 (12 * y + x)).toInt ≤ hi.toInt)) y x) 0 W H N (by omega) (by omega) ?_ ?_ ?_ ?_ 0 N 0 (by omega) (by omega) rfl
  · rintro fu _ rfl
    unfold wX2_howMany_l5
    rw [h5]
    exact ⟨fun _ => h, fun c => absurd (nI_le (Nat.le_refl H) (by omega)) c⟩
  · intro fu y b hy hb hi
    unfold wX2_howMany_l5
    rw [h5]
    exact ⟨fun c => absurd c (nI_ge hy (by omega)), fun _ => hi⟩
  · rintro fu y m _ hy rfl ih
    unfold wX2_howMany_l17
    rw [h4]
    refine ⟨fun _ => ?_, fun c => absurd (nI_le (Nat.le_refl W) (by omega)) c⟩
    rintro _ rfl
    rw [nI_1]
    exact ih _ rfl
  · rintro fu y m x _ hy _ hx rfl ih
    unfold wX2_howMany_l17
    rw [h4]
    refine ⟨fun c => absurd c (nI_ge hx (by omega)), fun _ => ?_⟩
    rw [q_srtN h4 h5 hW hH hx hy]
    simp only [wX2_howMany_j51, forall_eq, nI_1, lt_I]
    refine ⟨fun c => ih _ ?_, fun c => ⟨fun c2 => ih _ ?_, fun c2 => ih _ ?_⟩⟩
    · rw [cr, decide_eq_false (by omega)]; rfl
    · rw [cr, decide_eq_false (by omega)]; rfl
    · rw [cr, decide_eq_true (by omega)]; rfl
/-- what the model counts -/
def cpd (k : Nat) (S B : Nat → Int32) (x y : Nat) : Bool := if k = 0 then mtl (B (12 * y + x)) else if k = 1 then decide (B (12 * y + x) = 2) else if k = 2 then decide (B (12 * y + x) = 3) else if k = 3 then decide (S (12 * y + x) = 1) else if k = 4 then decide (S (12 * y + x) = 2) else if k = 5 then decide (B (12 * y + x) = 5) else decide (¬ S (12 * y + x) < 10)
theorem q_cellsM {N W H k : Nat} {g : gFG} {f : gFF} {w : Int64} {Q : Int32 → gFG → gFF → Int64 → Prop} (hN : 1000 ≤ N) (h2 : g 2 = nI W) (h3 : g 3 = nI H) (hW : W ≤ 12) (hH : H ≤ 12) (hk : k ≤ 6) (h : Q (nI (cg (cpd k (f 1) (f 3)) W H)) g f w) : wX12_cellsOf N (nI k) g f w Q := by
  unfold wX12_cellsOf
  refine lpD (β := Nat) (fun fu y b => wX12_cellsOf_l4 N (nI k) Q fu (nI b) (nI y) g f w) (fun fu y m x b => wX12_cellsOf_l15 N (nI k) (nI y) (wX12_cellsOf_l4 N (nI k) Q fu) Q m (nI b) (nI x) g f w) (fun y x b => b = cg (cpd k (f 1) (f 3)) W y + cr (cpd k (f 1) (f 3)) y x) 0 W H N (by omega) (by omega) ?_ ?_ ?_ ?_ 0 N 0 (by omega) (by omega) rfl
  · rintro fu _ rfl
    unfold wX12_cellsOf_l4
    rw [h3]
    exact ⟨fun _ => h, fun c => absurd (nI_le (Nat.le_refl H) (by omega)) c⟩
  · intro fu y b hy hb hi
    unfold wX12_cellsOf_l4
    rw [h3]
    exact ⟨fun c => absurd c (nI_ge hy (by omega)), fun _ => hi⟩
  · rintro fu y m _ hy rfl ih
    unfold wX12_cellsOf_l15
    rw [h2]
    refine ⟨fun _ => ?_, fun c => absurd (nI_le (Nat.le_refl W) (by omega)) c⟩
    rintro _ rfl
    rw [nI_1]
    exact ih _ rfl
  · rintro fu y m x _ hy _ hx rfl ih
    have hin : vp_in (nI (12 * y + x)) 144 := vp_in_nI (by omega) (by decide)
    have fin : ∀ b : Bool, b = cpd k (f 1) (f 3) x y → wX12_cellsOf_j184 N (wX12_cellsOf_l4 N (nI k) Q fu) (wX12_cellsOf_l15 N (nI k) (nI y) (wX12_cellsOf_l4 N (nI k) Q fu) Q m) Q (nI k) (nI (cg (cpd k (f 1) (f 3)) W y + cr (cpd k (f 1) (f 3)) y x)) (nI y) (nI x) (bi b) g f w := by
      rintro b hb
      have hi2 := ih _ rfl
      rw [cr, ← hb] at hi2
      simp only [wX12_cellsOf_j184, wX12_cellsOf_j197, forall_eq, nI_1]
      cases b with
      | false => exact ⟨fun _ => by rw [Int32.add_zero]; exact hi2, fun c => absurd rfl c⟩
      | true => exact ⟨fun c => absurd c (by decide), fun _ => hi2⟩
    have f0 := fin false
    have f1 := fin true
    have e : ∀ j : Nat, j ≤ 6 → (nI k = nI j) = (k = j) := fun j hj => propext ⟨fun q => nI_inj (by omega) (by omega) q, fun q => by rw [q]⟩
    unfold wX12_cellsOf_l15
    rw [h2]
    refine ⟨fun c => absurd c (nI_ge hx (by omega)), fun _ => ?_⟩
    rw [yx_I]
    rintro _ rfl
    rw [q_isCast h2 h3 hW hH, nI_I (show x < 2 ^ 31 by omega), nI_I (show y < 2 ^ 31 by omega), gI_n hx hy, nI_clamp (show 12 * y + x < 2 ^ 31 by omega)]
    refine ⟨fun c0 => ⟨fun c1 => ⟨fun c2 => ⟨fun c3 => ⟨fun c4 => ⟨fun c5 => ⟨hin, fun d => f0 ?_, fun d => f1 ?_⟩, fun c5 => ⟨hin, fun d => f0 ?_, fun d => f1 ?_⟩⟩, fun c4 => ⟨hin, fun d => f0 ?_, fun d => f1 ?_⟩⟩, fun c3 => ⟨hin, fun d => f0 ?_, fun d => f1 ?_⟩⟩, fun c2 => ⟨hin, fun d => f0 ?_, fun d => f1 ?_⟩⟩, fun c1 => ⟨hin, fun d => f0 ?_, fun d => f1 ?_⟩⟩, fun c0 => fin _ ?_⟩
    all_goals
      try have c0' : ¬ k = 0 := fun q => c0 (by rw [q]; rfl)
      try have c1' : ¬ k = 1 := fun q => c1 (by rw [q]; rfl)
      try have c2' : ¬ k = 2 := fun q => c2 (by rw [q]; rfl)
      try have c3' : ¬ k = 3 := fun q => c3 (by rw [q]; rfl)
      try have c4' : ¬ k = 4 := fun q => c4 (by rw [q]; rfl)
      try have c5' : ¬ k = 5 := fun q => c5 (by rw [q]; rfl)
      try have c0' : k = 0 := nI_inj (by omega) (by omega) c0
      try have c1' : k = 1 := nI_inj (by omega) (by omega) c1
      try have c2' : k = 2 := nI_inj (by omega) (by omega) c2
      try have c3' : k = 3 := nI_inj (by omega) (by omega) c3
      try have c4' : k = 4 := nI_inj (by omega) (by omega) c4
      try have c5' : k = 5 := nI_inj (by omega) (by omega) c5
      unfold cpd
      simp [*]
