/-! what becomes of the cells: the component -/
theorem gq_gq (g : gFG) (n s n' s' : Nat) : gq (gq g n s) n' s' = gq g n' s' := by
  funext j
  by_cases h1 : j = 7
  · subst h1; rfl
  · by_cases h2 : j = 8
    · subst h2; rfl
    · rw [gq_n _ _ _ h1 h2, gq_n _ _ _ h1 h2, gq_n _ _ _ h1 h2]
theorem fq_fq (f : gFF) (R q R' q' : Nat → Int32) : fq (fq f R q) R' q' = fq f R' q' := by
  funext j
  by_cases h1 : j = 15
  · subst h1; rfl
  · by_cases h2 : j = 16
    · subst h2; rfl
    · rw [fq_n _ _ _ h1 h2, fq_n _ _ _ h1 h2, fq_n _ _ _ h1 h2]
theorem fq_id (f : gFF) : fq f (f 15) (f 16) = f := by
  funext j
  by_cases h1 : j = 15
  · subst h1; rfl
  · by_cases h2 : j = 16
    · subst h2; rfl
    · rw [fq_n _ _ _ h1 h2]
theorem q_start {N : Nat} {g : gFG} {f : gFF} {Q : gFG → gFF → Prop} (hN : 1000 ≤ N) (h : Q (gq g 0 0) (fq f (fz (f 15) 0 144) (f 16))) : wX1_startFlood N g f Q := by
  unfold wX1_startFlood
  have hh := lpU (β := Unit) (fun n x _ => wX1_startFlood_l2 N Q n (nI x) g (fq f (fz (f 15) 0 x) (f 16))) (fun _ _ => True) 144 ?_ ?_ 0 N () (by omega) (by omega) trivial
  · rw [fz_0, fq_id] at hh; exact hh
  · intro n b _
    unfold wX1_startFlood_l2
    refine ⟨fun _ => ?_, fun c => absurd (nI_le (Nat.le_refl 144) (by decide)) c⟩
    simp only [forall_eq]
    exact h
  · intro n x b hx _ ih
    unfold wX1_startFlood_l2
    refine ⟨fun c => absurd c (nI_ge hx (by decide)), fun _ => ⟨vp_in_nI hx (by decide), ?_⟩⟩
    simp only [forall_eq, nI_1, nI_clamp (show x < 2 ^ 31 by omega), fq_15, fz_s, fq_u15]
    exact ih () trivial
theorem FI_0 {W H : Nat} {S R q : Nat → Int32} : FI W H S (fz R 0 144) q 0 := by
  have h0 : ∀ k, k < 144 → fz R 0 144 k = 0 := fun k hk => by simp [fz, hk]
  exact ⟨fun k hk => Or.inl (h0 k hk), cnt_0 h0, fun i hi => absurd hi (by omega), fun k hk q => absurd (h0 k hk) q⟩
noncomputable def metB (W H : Nat) (S : Nat → Int32) (x y : Nat) : Int32 := if hol (S (12 * y + x)) = true then (if pb (Gt W H S 0 3 (12 * y + x)) = true then 3 else 2) else if S (12 * y + x) = 2 then 1 else 0
/-- the fates with air in them -/
theorem q_l68 {N W H n s : Nat} {g : gFG} {f : gFF} {R q A0 : Nat → Int32} {Q : gFG → gFF → Prop} (hN : 1000 ≤ N) (h4 : g 4 = nI W) (h5 : g 5 = nI H) (hW : W ≤ 12) (hH : H ≤ 12) (hR : ∀ x y, x < W → y < H → hol (f 13 (12 * y + x)) = true → (R (12 * y + x) ≠ 0 ↔ Gt W H (f 13) 0 3 (12 * y + x))) (h : ∀ A, (∀ x y, x < W → y < H → A (12 * y + x) = metB W H (f 13) x y) → Q (gq g n s) (fq (va_up f 14 A) R q)) : wX1_letMetalCome_l68 N Q N 0 (gq g n s) (fq (va_up f 14 A0) R q) := by
  have h4' : gq g n s 4 = nI W := h4
  have h5' : gq g n s 5 = nI H := h5
  refine lpD (β := Nat → Int32) (fun fu y A => wX1_letMetalCome_l68 N Q fu (nI y) (gq g n s) (fq (va_up f 14 A) R q)) (fun fu y m x A => wX1_letMetalCome_l81 N (nI y) (wX1_letMetalCome_l68 N Q fu) Q m (nI x) (gq g n s) (fq (va_up f 14 A) R q)) (fun y x A => ∀ x' y', x' < W → y' < H → (y' < y ∨ (y' = y ∧ x' < x)) → A (12 * y' + x') = metB W H (f 13) x' y') 0 W H N (by omega) (by omega) ?_ ?_ ?_ ?_ 0 N A0 (by omega) (by omega) (fun x' y' _ _ h0 => by omega)
  · intro fu A hA
    unfold wX1_letMetalCome_l68 wX2_height
    rw [h5']
    exact ⟨fun _ => h A (fun x y hx hy => hA x y hx hy (Or.inl hy)), fun c => absurd (nI_le (Nat.le_refl H) (by omega)) c⟩
  · intro fu y A hy hA hi
    unfold wX1_letMetalCome_l68 wX2_height
    rw [h5']
    exact ⟨fun c => absurd c (nI_ge hy (by omega)), fun _ => hi⟩
  · intro fu y m A hy hA ih
    unfold wX1_letMetalCome_l81 wX2_width
    rw [h4']
    refine ⟨fun _ => ?_, fun c => absurd (nI_le (Nat.le_refl W) (by omega)) c⟩
    simp only [forall_eq, nI_1]
    exact ih A (fun x' y' hx' hy' h0 => hA x' y' hx' hy' (by omega))
  · intro fu y m x A hy _ hx hA ih
    unfold wX1_letMetalCome_l81 wX2_width
    rw [h4']
    refine ⟨fun c => absurd c (nI_ge hx (by omega)), fun _ => ?_⟩
    have hin : vp_in (nI (12 * y + x)) 144 := vp_in_nI (by omega) (by decide)
    have f13 : (fq (va_up f 14 A) R q) 13 = f 13 := rfl
    have f14 : (fq (va_up f 14 A) R q) 14 = A := rfl
    have put : ∀ v : Int32, v = metB W H (f 13) x y → wX1_letMetalCome_l81 N (nI y) (wX1_letMetalCome_l68 N Q fu) Q m (nI (x + 1)) (gq g n s) (fq (va_up f 14 (upd A (12 * y + x) v)) R q) := by
      intro v hv
      refine ih _ (fun x' y' hx' hy' h0 => ?_)
      by_cases e : 12 * y' + x' = 12 * y + x
      · have : x' = x ∧ y' = y := by omega
        obtain ⟨rfl, rfl⟩ := this
        rw [upd_at]; exact hv
      · rw [upd_ne _ _ e]; exact hA x' y' hx' hy' (by omega)
    simp only [wX1_fateWithAir, q_holN h4' h5' hW hH hx hy, q_srtN h4' h5' hW hH hx hy, q_rchN h4' h5' hW hH hx hy, f13, fq_15, br1, br2, bi_0, forall_eq, xy_I, nI_1, nI_clamp (show 12 * y + x < 2 ^ 31 by omega), hin, true_and, f14, fq_u14, up_up]
    cases hh : hol (f 13 (12 * y + x)) with
    | false =>
      rw [if_pos rfl]
      by_cases c2 : f 13 (12 * y + x) = 2
      · rw [if_pos c2]; exact put 1 (by unfold metB; rw [hh, if_neg (by decide), if_pos c2])
      · rw [if_neg c2]; exact put 0 (by unfold metB; rw [hh, if_neg (by decide), if_neg c2])
    | true =>
      rw [if_neg (by decide)]
      have hr := hR x y hx hy hh
      by_cases c2 : R (12 * y + x) = 0
      · rw [nz_f c2, if_pos rfl]
        refine put 2 ?_
        unfold metB
        rw [hh, if_pos rfl, if_neg]
        rw [pb_t, ← hr]; simpa using c2
      · rw [nz_t c2, if_neg (by decide)]
        refine put 3 ?_
        unfold metB
        rw [hh, if_pos rfl, if_pos]
        rw [pb_t, ← hr]; exact c2
theorem q_metal2 {N W H : Nat} {g : gFG} {f : gFF} {Q : gFG → gFF → Prop} (hN : 1000 ≤ N) (h4 : g 4 = nI W) (h5 : g 5 = nI H) (hW : W ≤ 12) (hH : H ≤ 12) (h : ∀ A R q n, (∀ x y, x < W → y < H → A (12 * y + x) = metB W H (f 13) x y) → Q (gq g n n) (fq (va_up f 14 A) R q)) : wX1_letMetalCome N g f Q := by
  unfold wX1_letMetalCome
  refine q_start hN ?_
  have hF0 : FI W H (f 13) (fz (f 15) 0 144) (f 16) 0 := FI_0
  have hz : ∀ k, k < 144 → fz (f 15) 0 144 k = 0 := fun k hk => by simp [fz, hk]
  refine lpD (β := (Nat → Int32) × (Nat → Int32) × Nat) (fun fu y b => wX1_letMetalCome_l6 N Q fu (nI y) (gq g b.2.2 0) (fq f b.1 b.2.1)) (fun fu y m x b => wX1_letMetalCome_l19 N (nI y) (wX1_letMetalCome_l6 N Q fu) Q m (nI x) (gq g b.2.2 0) (fq f b.1 b.2.1)) (fun y x b => RE W H (f 13) (fun k => ∃ x' y', x' < W ∧ y' < H ∧ (y' < y ∨ (y' = y ∧ x' < x)) ∧ k = 12 * y' + x' ∧ f 13 k = 3) (fz (f 15) 0 144) (f 16) 0 b.1 b.2.1 b.2.2) 0 W H N (by omega) (by omega) ?_ ?_ ?_ ?_ 0 N (fz (f 15) 0 144, f 16, 0) (by omega) (by omega) (RE_0 hF0 ?_)
  · rintro fu ⟨R, q, n⟩ hb
    have h5' : gq g n 0 5 = nI H := h5
    unfold wX1_letMetalCome_l6 wX2_height
    simp only
    rw [h5']
    refine ⟨fun _ => ?_, fun c => absurd (nI_le (Nat.le_refl H) (by omega)) c⟩
    refine q_flood (m := 0) hN h4 h5 hW hH hb.1 (by omega) (fun k hk h0 => ?_) (fun R' q' n' hl => ?_)
    · obtain ⟨-, x, y, h1, h2, h3, h6⟩ := hb.1.2.2.2 k hk h0
      exact ⟨x, y, h1, h2, by omega, h3, h6⟩
    · have e14 : fq f R' q' = fq (va_up f 14 (f 14)) R' q' := by rw [up_id]
      rw [e14]
      refine q_l68 hN h4 h5 hW hH (fun x y hx hy hho => ?_) (fun A hA => h A R' q' n' hA)
      obtain ⟨a1, a2, a3, a4, a5, a6⟩ := hl
      obtain ⟨b1, b2, b3, b4, b5, b6⟩ := hb
      constructor
      · intro h0
        obtain ⟨-, k0, z1, z2, z3⟩ := a5 _ (by omega) h0
        rcases b5 k0 z1 z2 with q0 | ⟨x', y', x1, y1, -, rfl, e3⟩
        · exact absurd (hz k0 z1) q0
        · exact ⟨_, ⟨x', y', x1, y1, by omega, rfl, e3⟩, z3⟩
      · rintro ⟨c, ⟨x', y', x1, y1, -, rfl, e3⟩, hC⟩
        have hc : R' (12 * y' + x') ≠ 0 := a4 _ (by omega) (b6 _ (by omega) ⟨x', y', x1, y1, Or.inl y1, rfl, e3⟩)
        have hcl : ∀ k l, edg W H (f 13) 0 k l ∨ edg W H (f 13) 0 l k → k < 144 → l < 144 → R' k ≠ 0 → R' l ≠ 0 := by
          intro k l he hk hl h0
          obtain ⟨⟨i, i1, i2⟩, -⟩ := a1.2.2.2 k hk h0
          exact a6 i (by omega) i1 k hk i2 l hl he
        have := hC (fun k => k < 144 ∧ R' k ≠ 0) (fun k l he => ?_)
        · exact (this.mp ⟨by omega, hc⟩).2
        · have hkl := edg_g he
          obtain ⟨⟨u1, v1, w1, w2, -, rfl, -⟩, ⟨u2, v2, w3, w4, -, rfl, -⟩⟩ := hkl
          constructor
          · rintro ⟨-, h0⟩
            exact ⟨by omega, hcl _ _ (Or.inl he) (by omega) (by omega) h0⟩
          · rintro ⟨-, h0⟩
            exact ⟨by omega, hcl _ _ (Or.inr he) (by omega) (by omega) h0⟩
  · rintro fu y ⟨R, q, n⟩ hy hb hi
    have h5' : gq g n 0 5 = nI H := h5
    unfold wX1_letMetalCome_l6 wX2_height
    simp only
    rw [h5']
    exact ⟨fun c => absurd c (nI_ge hy (by omega)), fun _ => hi⟩
  · rintro fu y m ⟨R, q, n⟩ hy hb ih
    have h4' : gq g n 0 4 = nI W := h4
    unfold wX1_letMetalCome_l19 wX2_width
    simp only
    rw [h4']
    refine ⟨fun _ => ?_, fun c => absurd (nI_le (Nat.le_refl W) (by omega)) c⟩
    simp only [forall_eq, nI_1]
    refine ih (R, q, n) (RE_t hb (p' := fun _ => False) (RE_0 hb.1 (fun _ _ h => absurd h id)) (fun k hk => ⟨?_, ?_⟩))
    · rintro ⟨x', y', h1, h2, h3, h6⟩
      exact Or.inl ⟨x', y', h1, h2, by omega, h6⟩
    · rintro (⟨x', y', h1, h2, h3, h6⟩ | h0)
      · exact ⟨x', y', h1, h2, by omega, h6⟩
      · exact absurd h0 id
  · rintro fu y m x ⟨R, q, n⟩ hy _ hx hb ih
    have h4' : gq g n 0 4 = nI W := h4
    have h5' : gq g n 0 5 = nI H := h5
    have f13 : (fq f R q) 13 = f 13 := rfl
    unfold wX1_letMetalCome_l19 wX2_width
    simp only
    rw [h4']
    refine ⟨fun c => absurd c (nI_ge hx (by omega)), fun _ => ?_⟩
    simp only [q_srtN h4' h5' hW hH hx hy, f13, wX1_letMetalCome_j49, forall_eq, nI_1]
    refine ⟨fun c => ?_, fun c => ?_⟩
    · refine ih (R, q, n) (RE_t hb (p' := fun _ => False) (RE_0 hb.1 (fun _ _ h => absurd h id)) (fun k hk => ⟨?_, ?_⟩))
      · rintro ⟨x', y', h1, h2, h3, h6, h7⟩
        by_cases e : y' = y ∧ x' = x
        · obtain ⟨rfl, rfl⟩ := e
          rw [h6] at h7
          exact absurd h7 c
        · exact Or.inl ⟨x', y', h1, h2, by omega, h6, h7⟩
      · rintro (⟨x', y', h1, h2, h3, h6⟩ | h0)
        · exact ⟨x', y', h1, h2, by omega, h6⟩
        · exact absurd h0 id
    · refine q_reach h4 h5 hW hH hb.1 (fun R' q' n' hr => ?_)
      refine ih (R', q', n') (RE_t hb hr (fun k hk => ⟨?_, ?_⟩))
      · rintro ⟨x', y', h1, h2, h3, h6, h7⟩
        by_cases e : y' = y ∧ x' = x
        · obtain ⟨rfl, rfl⟩ := e
          exact Or.inr ⟨x', y', h1, h2, rfl, rfl, h6, by rw [h7]; decide⟩
        · exact Or.inl ⟨x', y', h1, h2, by omega, h6, h7⟩
      · rintro (⟨x', y', h1, h2, h3, h6⟩ | ⟨x', y', h1, h2, ex, ey, rfl, h7⟩)
        · exact ⟨x', y', h1, h2, by omega, h6⟩
        · have e1 := nI_inj (by omega) (by omega) ex
          have e2 := nI_inj (by omega) (by omega) ey
          subst e1; subst e2
          exact ⟨x, y, hx, hy, by omega, rfl, c⟩
  · rintro k hk ⟨x', y', h1, h2, h3, -⟩
    omega
abbrev Ta (W H : Nat) (S : Nat → Int32) (m k : Nat) : Prop := Gt W H S m 3 k ∨ Gt W H S m 4 k
theorem sdl_g {W H m c : Nat} {S : Nat → Int32} {v : Int32} (hv : v = 3 ∨ v = 4) (h : sdl W H S m v c) : gd W H S m c := by
  obtain ⟨x, y, h1, h2, h3, h4, h5⟩ := h
  refine ⟨x, y, h1, h2, h3, h4, ?_⟩
  rw [h5]
  rcases hv with rfl | rfl <;> decide
theorem Ta_g {W H m k : Nat} {S : Nat → Int32} (h : Ta W H S m k) : gd W H S m k := by
  rcases h with ⟨c, h1, h2⟩ | ⟨c, h1, h2⟩
  · exact (Cs_g h2).mp (sdl_g (Or.inl rfl) h1)
  · exact (Cs_g h2).mp (sdl_g (Or.inr rfl) h1)
theorem sdl_m {W H m m' c : Nat} {S : Nat → Int32} {v : Int32} (hm : m' ≤ m) (h : sdl W H S m v c) : sdl W H S m' v c := by
  obtain ⟨x, y, h1, h2, h3, h4⟩ := h
  exact ⟨x, y, h1, h2, by omega, h4⟩
theorem Ta_m {W H m m' k : Nat} {S : Nat → Int32} (hm : m' ≤ m) (h : Ta W H S m k) : Ta W H S m' k := by
  rcases h with ⟨c, h1, h2⟩ | ⟨c, h1, h2⟩
  · exact Or.inl ⟨c, sdl_m hm h1, Cs_m hm h2⟩
  · exact Or.inr ⟨c, sdl_m hm h1, Cs_m hm h2⟩
theorem Ta_c {W H m k l : Nat} {S : Nat → Int32} (h : Ta W H S m k) (hc : Cs W H S m k l) : Ta W H S m l := by
  rcases h with ⟨c, h1, h2⟩ | ⟨c, h1, h2⟩
  · exact Or.inl ⟨c, h1, Cs_t h2 hc⟩
  · exact Or.inr ⟨c, h1, Cs_t h2 hc⟩
theorem gd_lt {W H m k : Nat} {S : Nat → Int32} (hW : W ≤ 12) (hH : H ≤ 12) (h : gd W H S m k) : k < 144 := by
  obtain ⟨x, y, h1, h2, h3, rfl, -⟩ := h
  omega
/-- what holds between two rows of the air -/
def AI (W H : Nat) (S : Nat → Int32) (y' : Nat) (A R q : Nat → Int32) (n : Nat) : Prop := FI W H S R q n ∧ (∀ k, k < 144 → (R k ≠ 0 ↔ Ta W H S y' k)) ∧ ∀ x y, x < W → y < H → A (12 * y + x) = if y < y' then metB W H S x y else pourB W H S x y
theorem cast1 {W H x y : Nat} {S : Nat → Int32} {r : Int32} (hr : r ≠ 0 ↔ Ta W H S y (12 * y + x)) : pourB W H S x y = if metB W H S x y = 3 ∧ ¬ r = 0 then 1 else metB W H S x y := by
  unfold pourB metB
  by_cases h2 : S (12 * y + x) = 2
  · have hh : hol 2 = false := by decide
    simp [h2, hh]
  · rw [if_neg h2]
    cases hh : hol (S (12 * y + x)) with
    | false => simp [h2]
    | true =>
      rw [if_pos rfl, if_pos rfl]
      cases hp : pb (Gt W H S 0 3 (12 * y + x)) with
      | false => simp
      | true =>
        rw [if_pos rfl, if_pos rfl]
        by_cases hr0 : r = 0
        · have : ¬ Ta W H S y (12 * y + x) := fun q => (hr.mpr q) hr0
          rw [if_neg (by rw [pb_t]; exact this), if_neg (by simp [hr0])]
        · rw [if_pos (by rw [pb_t]; exact hr.mp hr0), if_pos ⟨rfl, hr0⟩]
theorem q_castRow {N W H y n s : Nat} {g : gFG} {f : gFF} {A R q : Nat → Int32} {Q : gFG → gFF → Prop} (hN : 1000 ≤ N) (h4 : g 4 = nI W) (h5 : g 5 = nI H) (hW : W ≤ 12) (hH : H ≤ 12) (hy : y < H) (hR : ∀ k, k < 144 → (R k ≠ 0 ↔ Ta W H (f 13) y k)) (hA : ∀ x' y', x' < W → y' < H → A (12 * y' + x') = if y' < y + 1 then metB W H (f 13) x' y' else pourB W H (f 13) x' y') (h : ∀ A', (∀ x' y', x' < W → y' < H → A' (12 * y' + x') = if y' < y then metB W H (f 13) x' y' else pourB W H (f 13) x' y') → Q (gq g n s) (fq (va_up f 14 A') R q)) : wX1_castRow N (nI y) (gq g n s) (fq (va_up f 14 A) R q) Q := by
  have h4' : gq g n s 4 = nI W := h4
  have h5' : gq g n s 5 = nI H := h5
  unfold wX1_castRow
  refine lpU (β := Nat → Int32) (fun fu x A => wX1_castRow_l2 N (nI y) Q fu (nI x) (gq g n s) (fq (va_up f 14 A) R q)) (fun x A => ∀ x' y', x' < W → y' < H → A (12 * y' + x') = if y' < y ∨ (y' = y ∧ x ≤ x') then metB W H (f 13) x' y' else pourB W H (f 13) x' y') W ?_ ?_ 0 N A (by omega) (by omega) ?_
  · intro fu A' hA'
    unfold wX1_castRow_l2 wX2_width
    simp only
    rw [h4']
    refine ⟨fun _ => h A' (fun x' y' hx' hy' => ?_), fun c => absurd (nI_le (Nat.le_refl W) (by omega)) c⟩
    rw [hA' x' y' hx' hy']
    by_cases c : y' < y
    · rw [if_pos (Or.inl c), if_pos c]
    · rw [if_neg (by omega), if_neg c]
  · intro fu x A' hx hA' ih
    have f14 : (fq (va_up f 14 A') R q) 14 = A' := rfl
    have hin : vp_in (nI (12 * y + x)) 144 := vp_in_nI (by omega) (by decide)
    unfold wX1_castRow_l2 wX2_width
    simp only
    rw [h4']
    refine ⟨fun c => absurd c (nI_ge hx (by omega)), fun _ => ?_⟩
    have hv : A' (12 * y + x) = metB W H (f 13) x y := by rw [hA' x y hx hy, if_pos (Or.inr ⟨rfl, Nat.le_refl _⟩)]
    have hc1 := cast1 (hR (12 * y + x) (by omega))
    simp only [q_fatN h4' h5' hW hH hx hy, q_rchN h4' h5' hW hH hx hy, fq_15, f14, hv, wX1_castRow_j44, br1, br2, bi_0, forall_eq, xy_I, nI_1, nI_clamp (show 12 * y + x < 2 ^ 31 by omega), hin, true_and, fq_u14, up_up]
    have same : pourB W H (f 13) x y = metB W H (f 13) x y → wX1_castRow_l2 N (nI y) Q fu (nI (x + 1)) (gq g n s) (fq (va_up f 14 A') R q) := by
      intro he
      refine ih A' (fun x' y' hx' hy' => ?_)
      rw [hA' x' y' hx' hy']
      by_cases c : y' < y ∨ (y' = y ∧ x + 1 ≤ x')
      · rw [if_pos c, if_pos (by omega)]
      · rw [if_neg c]
        by_cases c2 : y' = y ∧ x' = x
        · obtain ⟨rfl, rfl⟩ := c2
          rw [if_pos (Or.inr ⟨rfl, Nat.le_refl _⟩), he]
        · rw [if_neg (by omega)]
    by_cases c3 : metB W H (f 13) x y = 3
    · rw [if_pos c3]
      by_cases c4 : R (12 * y + x) = 0
      · rw [nz_f c4, if_pos rfl]
        exact same (by rw [hc1, if_neg (fun q => q.2 c4)])
      · rw [nz_t c4, if_neg (by decide)]
        rw [if_pos ⟨c3, c4⟩] at hc1
        refine ih _ (fun x' y' hx' hy' => ?_)
        by_cases e : 12 * y' + x' = 12 * y + x
        · have : x' = x ∧ y' = y := by omega
          obtain ⟨rfl, rfl⟩ := this
          rw [upd_at, if_neg (by omega), hc1]
        · rw [upd_ne _ _ e, hA' x' y' hx' hy']
          by_cases c : y' < y ∨ (y' = y ∧ x + 1 ≤ x')
          · rw [if_pos c, if_pos (by omega)]
          · rw [if_neg c, if_neg (by omega)]
    · rw [if_neg c3]
      exact same (by rw [hc1, if_neg (fun q => c3 q.1)])
  · intro x' y' hx' hy'
    rw [hA x' y' hx' hy']
    by_cases c : y' < y + 1
    · rw [if_pos c, if_pos (by omega)]
    · rw [if_neg c, if_neg (by omega)]
theorem q_air {N W H n0 : Nat} {g : gFG} {f : gFF} {A0 R0 q0 : Nat → Int32} {Q : gFG → gFF → Prop} (hN : 1000 ≤ N) (h4 : g 4 = nI W) (h5 : g 5 = nI H) (hW : W ≤ 12) (hH : H ≤ 12) (hA0 : ∀ x y, x < W → y < H → A0 (12 * y + x) = metB W H (f 13) x y) (h : ∀ A R q n, (∀ x y, x < W → y < H → A (12 * y + x) = pourB W H (f 13) x y) → Q (gq g n n) (fq (va_up f 14 A) R q)) : wX1_letAirOut N (gq g n0 n0) (fq (va_up f 14 A0) R0 q0) Q := by
  unfold wX1_letAirOut
  refine q_start hN ?_
  rw [gq_gq, fq_fq]
  unfold wX2_height
  have h5' : gq g 0 0 5 = nI H := h5
  rw [h5']
  simp only [forall_eq]
  have key : ∀ y' fu A R q n, y' ≤ H → y' < fu → AI W H (f 13) y' A R q n → wX1_letAirOut_l14 N Q fu (nI y' - 1) (gq g n n) (fq (va_up f 14 A) R q) := by
    intro y'
    induction y' with
    | zero =>
      intro fu A R q n h1 h2 hI
      obtain ⟨fu, rfl⟩ : ∃ k, fu = k + 1 := ⟨fu - 1, by omega⟩
      unfold wX1_letAirOut_l14
      refine ⟨fun _ => h A R q n (fun x y hx hy => ?_), fun c => absurd (show nI 0 - 1 < 0 by decide) c⟩
      rw [hI.2.2 x y hx hy, if_neg (by omega)]
    | succ y ihy =>
      intro fu A R q n h1 h2 hI
      obtain ⟨fu, rfl⟩ : ∃ k, fu = k + 1 := ⟨fu - 1, by omega⟩
      obtain ⟨i1, i2, i3⟩ := hI
      have hy : y < H := by omega
      unfold wX1_letAirOut_l14
      rw [nI_pred]
      refine ⟨fun c => absurd c (by rw [lt_I, nI_I (by omega), z_0]; omega), fun _ => ?_⟩
      -- the seeds of the row
      refine lpU (β := (Nat → Int32) × (Nat → Int32) × Nat) (fun m x b => wX1_letAirOut_l20 N (nI y) (wX1_letAirOut_l14 N Q fu) Q m (nI x) (gq g b.2.2 n) (fq (va_up f 14 A) b.1 b.2.1)) (fun x b => RE W H (f 13) (fun k => ∃ x', x' < W ∧ x' < x ∧ k = 12 * y + x' ∧ hol (f 13 k) = true ∧ (f 13 k = 3 ∨ f 13 k = 4 ∨ (y + 1 < H ∧ Ta W H (f 13) (y + 1) (k + 12)))) R q n b.1 b.2.1 b.2.2) W ?_ ?_ 0 N (R, q, n) (by omega) (by omega) (RE_0 i1 ?_)
      · rintro m ⟨R1, q1, n1⟩ hb
        dsimp only at hb
        have h4' : gq g n1 n 4 = nI W := h4
        unfold wX1_letAirOut_l20 wX2_width
        simp only
        rw [h4']
        refine ⟨fun _ => ?_, fun c => absurd (nI_le (Nat.le_refl W) (by omega)) c⟩
        obtain ⟨b1, b2, b3, b4, b5, b6⟩ := hb
        -- all that is reached now is true
        have hT1 : ∀ k, k < 144 → R1 k ≠ 0 → Ta W H (f 13) y k := by
          intro k hk h0
          rcases b5 k hk h0 with r | ⟨x', w1, w2, rfl, w4, w5⟩
          · exact Ta_m (by omega) ((i2 k hk).mp r)
          · rcases w5 with w5 | w5 | ⟨w5, w6⟩
            · exact Or.inl ⟨_, ⟨x', y, w1, hy, Nat.le_refl _, rfl, w5⟩, Cs_r⟩
            · exact Or.inr ⟨_, ⟨x', y, w1, hy, Nat.le_refl _, rfl, w5⟩, Cs_r⟩
            · have hg := Ta_g w6
              obtain ⟨xx, yy, g1, g2, g3, g4, g5⟩ := hg
              exact Ta_c (Ta_m (by omega) w6) (Cs_s (Cs_e ⟨x', y, w1, hy, Nat.le_refl _, rfl, w4, g5, Or.inr ⟨rfl, w5⟩⟩))
        refine q_flood (f := va_up f 14 A) (m := y) hN h4 h5 hW hH b1 b2 (fun k hk h0 => Ta_g (hT1 k hk h0)) (fun R2 q2 n2 hl => ?_)
        obtain ⟨a1, a2, a3, a4, a5, a6⟩ := hl
        have hcl : ∀ k l, edg W H (f 13) y k l ∨ edg W H (f 13) y l k → k < 144 → l < 144 → R2 k ≠ 0 → R2 l ≠ 0 := by
          intro k l he hk hl h0
          obtain ⟨⟨i, j1, j2⟩, -⟩ := a1.2.2.2 k hk h0
          by_cases hi : i < n
          · -- an old one
            have ek : R k ≠ 0 := by
              obtain ⟨k', e1, e2, e3⟩ := i1.2.2.1 i hi
              rw [a3 i (by omega), b3 i hi, e2] at j2
              have := nI_inj (by omega) (by omega) j2
              subst this
              exact e3
            have hTk := (i2 k hk).mp ek
            obtain ⟨x0, y0, c1, c2, c3, c4, c5⟩ := Ta_g hTk
            have hgl : gd W H (f 13) y l := by
              rcases he with he | he
              · exact (edg_g he).2
              · exact (edg_g he).1
            obtain ⟨x2, y2, d1, d2, d3, d4, d5⟩ := hgl
            by_cases hrow : y + 1 ≤ y2
            · have he2 : edg W H (f 13) (y + 1) k l ∨ edg W H (f 13) (y + 1) l k := by
                rcases he with ⟨u, v, e1, e2, e3, e4, e5⟩ | ⟨u, v, e1, e2, e3, e4, e5⟩
                · exact Or.inl ⟨u, v, e1, e2, by omega, e4, e5⟩
                · exact Or.inr ⟨u, v, e1, e2, by omega, e4, e5⟩
              have : R l ≠ 0 := (i2 l hl).mpr (Ta_c hTk (Cs_e2 he2))
              exact a4 l hl (b4 l hl this)
            · -- the row itself
              have hk12 : k = l + 12 := by
                rcases he with ⟨u, v, e1, e2, e3, e4, e5, e6, ⟨e7, e8⟩ | ⟨e7, e8⟩⟩ | ⟨u, v, e1, e2, e3, e4, e5, e6, ⟨e7, e8⟩ | ⟨e7, e8⟩⟩
                · omega
                · omega
                · omega
                · exact e7
              have : R1 l ≠ 0 := b6 l hl ⟨x2, d1, d1, by omega, d5, Or.inr (Or.inr ⟨by omega, by rw [← hk12]; exact hTk⟩)⟩
              exact a4 l hl this
          · exact a6 i (by omega) j1 k hk j2 l hl he
        have hR2 : ∀ k, k < 144 → (R2 k ≠ 0 ↔ Ta W H (f 13) y k) := by
          intro k hk
          constructor
          · intro h0
            obtain ⟨-, k0, z1, z2, z3⟩ := a5 k hk h0
            exact Ta_c (hT1 k0 z1 z2) z3
          · intro hT
            have hseed : ∀ v, (v = 3 ∨ v = 4) → ∀ c, sdl W H (f 13) y v c → R2 c ≠ 0 := by
              rintro v hv c ⟨x', y', u1, u2, u3, rfl, u5⟩
              by_cases e : y' = y
              · subst e
                refine a4 _ (by omega) (b6 _ (by omega) ⟨x', u1, u1, rfl, ?_, ?_⟩)
                · rw [u5]; rcases hv with rfl | rfl <;> decide
                · rcases hv with rfl | rfl
                  · exact Or.inl u5
                  · exact Or.inr (Or.inl u5)
              · refine a4 _ (by omega) (b4 _ (by omega) ((i2 _ (by omega)).mpr ?_))
                rcases hv with rfl | rfl
                · exact Or.inl ⟨_, ⟨x', y', u1, u2, by omega, rfl, u5⟩, Cs_r⟩
                · exact Or.inr ⟨_, ⟨x', y', u1, u2, by omega, rfl, u5⟩, Cs_r⟩
            have hpush : ∀ c, c < 144 → R2 c ≠ 0 → Cs W H (f 13) y c k → R2 k ≠ 0 := by
              intro c hc h0 hC
              have := hC (fun k => k < 144 ∧ R2 k ≠ 0) (fun k l he => ?_)
              · exact (this.mp ⟨hc, h0⟩).2
              · have hkl := edg_g he
                have w1 := gd_lt hW hH hkl.1
                have w2 := gd_lt hW hH hkl.2
                exact ⟨fun ⟨_, h0⟩ => ⟨w2, hcl _ _ (Or.inl he) w1 w2 h0⟩, fun ⟨_, h0⟩ => ⟨w1, hcl _ _ (Or.inr he) w2 w1 h0⟩⟩
            rcases hT with ⟨c, hs, hC⟩ | ⟨c, hs, hC⟩
            · exact hpush c (gd_lt hW hH (sdl_g (Or.inl rfl) hs)) (hseed 3 (Or.inl rfl) c hs) hC
            · exact hpush c (gd_lt hW hH (sdl_g (Or.inr rfl) hs)) (hseed 4 (Or.inr rfl) c hs) hC
        refine q_castRow hN h4 h5 hW hH hy hR2 i3 (fun A' hA' => ?_)
        rintro _ rfl
        rw [sub_m1]
        exact ihy fu A' R2 q2 n2 (by omega) (by omega) ⟨a1, hR2, hA'⟩
      · rintro m x ⟨R1, q1, n1⟩ hx hb ih
        dsimp only at hb
        have h4' : gq g n1 n 4 = nI W := h4
        have h5' : gq g n1 n 5 = nI H := h5
        have f13 : (fq (va_up f 14 A) R1 q1) 13 = f 13 := rfl
        unfold wX1_letAirOut_l20 wX2_width
        simp only
        rw [h4']
        refine ⟨fun c => absurd c (nI_ge hx (by omega)), fun _ => ?_⟩
        have hob := hb
        obtain ⟨b1, b2, b3, b4, b5, b6⟩ := hb
        -- the cell above, as it is seen now
        have habove : y + 1 < H → (R1 (12 * (y + 1) + x) ≠ 0 ↔ Ta W H (f 13) (y + 1) (12 * y + x + 12)) := by
          intro hy1
          have e12 : 12 * (y + 1) + x = 12 * y + x + 12 := by omega
          rw [e12]
          constructor
          · intro h0
            rcases b5 _ (by omega) h0 with r | ⟨x', w1, w2, w3, -⟩
            · exact (i2 _ (by omega)).mp r
            · omega
          · intro hT
            exact b4 _ (by omega) ((i2 _ (by omega)).mpr hT)
        have yes : (f 13 (12 * y + x) = 3 ∨ f 13 (12 * y + x) = 4 ∨ (y + 1 < H ∧ Ta W H (f 13) (y + 1) (12 * y + x + 12))) → wX1_reach N (nI x) (nI y) (gq g n1 n) (fq (va_up f 14 A) R1 q1) (fun g65 f65 => wX1_letAirOut_l20 N (nI y) (wX1_letAirOut_l14 N Q fu) Q m (nI (x + 1)) g65 f65) := by
          intro hc
          refine q_reach (f := va_up f 14 A) h4 h5 hW hH b1 (fun R' q' n' hr => ?_)
          refine ih (R', q', n') (RE_t hob hr (fun k hk => ⟨?_, ?_⟩))
          · rintro ⟨x', w1, w2, w3, w4, w5⟩
            by_cases e : x' = x
            · subst e
              exact Or.inr ⟨x', y, w1, hy, rfl, rfl, w3, w4⟩
            · exact Or.inl ⟨x', w1, by omega, w3, w4, w5⟩
          · rintro (⟨x', w1, w2, w3, w4, w5⟩ | ⟨x', y', w1, w2, ex, ey, rfl, w4⟩)
            · exact ⟨x', w1, by omega, w3, w4, w5⟩
            · have e1 := nI_inj (by omega) (by omega) ex
              have e2 := nI_inj (by omega) (by omega) ey
              subst e1; subst e2
              exact ⟨x, hx, by omega, rfl, w4, hc⟩
        have no : ¬ (f 13 (12 * y + x) = 3 ∨ f 13 (12 * y + x) = 4 ∨ (y + 1 < H ∧ Ta W H (f 13) (y + 1) (12 * y + x + 12))) → wX1_letAirOut_l20 N (nI y) (wX1_letAirOut_l14 N Q fu) Q m (nI (x + 1)) (gq g n1 n) (fq (va_up f 14 A) R1 q1) := by
          intro hc
          refine ih (R1, q1, n1) (RE_t hob (p' := fun _ => False) (RE_0 b1 (fun _ _ h => absurd h id)) (fun k hk => ⟨?_, ?_⟩))
          · rintro ⟨x', w1, w2, rfl, w4, w5⟩
            by_cases e : x' = x
            · subst e
              exact absurd w5 hc
            · exact Or.inl ⟨x', w1, by omega, rfl, w4, w5⟩
          · rintro (⟨x', w1, w2, w3, w4, w5⟩ | h0)
            · exact ⟨x', w1, by omega, w3, w4, w5⟩
            · exact absurd h0 id
        simp only [q_srtN h4' h5' hW hH hx hy, f13, wX1_letAirOut_j62, wX1_letAirOut_j68, forall_eq, nI_1]
        refine ⟨fun c => yes (Or.inl c), fun c3 => ⟨fun c => yes (Or.inr (Or.inl c)), fun c4 => ?_⟩⟩
        by_cases hy1 : y + 1 < H
        · rw [q_rchN h4' h5' hW hH hx hy1, fq_15]
          by_cases hr : R1 (12 * (y + 1) + x) = 0
          · rw [nz_f hr]
            refine ⟨fun _ => no ?_, fun c => absurd rfl c⟩
            rintro (q | q | ⟨-, q⟩)
            · exact c3 q
            · exact c4 q
            · exact ((habove hy1).mpr q) hr
          · rw [nz_t hr]
            exact ⟨fun c => absurd c (by decide), fun _ => yes (Or.inr (Or.inr ⟨hy1, (habove hy1).mp hr⟩))⟩
        · rw [q_rchO h4' h5' (by rw [has_n hW hH (by omega) (by omega)]; exact decide_eq_false (by omega))]
          refine ⟨fun _ => no ?_, fun c => absurd rfl c⟩
          rintro (q | q | ⟨q, -⟩)
          · exact c3 q
          · exact c4 q
          · exact hy1 q
      · rintro k hk ⟨x', w1, w2, -⟩
        omega
  refine key H N A0 _ _ 0 (Nat.le_refl _) (by omega) ⟨FI_0, fun k hk => ⟨fun h0 => absurd (by simp [fz, hk]) h0, fun hT => ?_⟩, fun x y hx hy => ?_⟩
  · obtain ⟨x, y, g1, g2, g3, -⟩ := Ta_g hT
    omega
  · rw [if_pos hy]; exact hA0 x y hx hy
theorem q_refresh {N W H : Nat} {g : gFG} {f : gFF} {rep : Nat → Int32} {rc : Int32} {Q : gFG → gFF → Prop} (hN : 1000 ≤ N) (h4 : g 4 = nI W) (h5 : g 5 = nI H) (hW : W ≤ 12) (hH : H ≤ 12) (hI : gIC W H (f 13) rep (f 14) (g 9) (g 6) rc) (h : ∀ g' f', g' 9 = g 6 → (∀ j, j ≠ 7 → j ≠ 8 → j ≠ 9 → g' j = g j) → (∀ j, j ≠ 14 → j ≠ 15 → j ≠ 16 → f' j = f j) → (∀ x y, x < W → y < H → f' 14 (12 * y + x) = fateB W H (f 13) rep x y) → Q g' f') : wX1_refresh N g f Q := by
  unfold wX1_refresh wX2_edition
  refine ⟨fun c => ?_, fun c => ?_⟩
  · obtain ⟨-, -, -, ⟨e, -⟩ | ⟨-, hr⟩⟩ := hI
    · exact absurd e c
    · simp only [forall_eq]
      refine q_metal2 hN h4 h5 hW hH (fun A R q n hA => ?_)
      refine q_air hN h4 h5 hW hH hA (fun A' R' q' n' hA' => ?_)
      refine h _ _ rfl (fun j j1 j2 j3 => ?_) (fun j j1 j2 j3 => ?_) (fun x y hx hy => ?_)
      · rw [gq_n _ _ _ j1 j2, up_n _ _ j3]
      · rw [fq_n _ _ _ j2 j3, up_n _ _ j1]
      · show A' (12 * y + x) = _
        rw [hA' x y hx hy]
        unfold fateB
        rw [if_pos (hr _ (by omega))]
  · obtain ⟨-, -, -, ⟨-, hf⟩ | ⟨hl, -⟩⟩ := hI
    · exact h g f c (fun _ _ _ _ => rfl) (fun _ _ _ _ => rfl) hf
    · rw [c] at hl; omega
