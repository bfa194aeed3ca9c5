/-! floods -/
theorem sub_m1 (x : Int32) : x + (-1) = x - 1 := by rw [Int32.sub_eq_add_neg]
theorem q_srtN {N W H x y : Nat} {g : gFG} {f : gFF} {Q : Int32 → gFG → gFF → Prop} (h4 : g 4 = nI W) (h5 : g 5 = nI H) (hW : W ≤ 12) (hH : H ≤ 12) (hx : x < W) (hy : y < H) : wX2_sortAt N (nI x) (nI y) g f Q = Q (f 13 (12 * y + x)) g f := by
  have hin : vp_in (nI (12 * y + x)) 144 := vp_in_nI (by omega) (by decide)
  simp only [wX2_sortAt, q_has, h4, h5, has_t hW hH hx hy, br1, bi_0, Bool.true_eq_false, if_false, xy_I, forall_eq, nI_clamp (show 12 * y + x < 2 ^ 31 by omega), hin, true_and]
theorem q_srtO {N W H : Nat} {a b : Int32} {g : gFG} {f : gFF} {Q : Int32 → gFG → gFF → Prop} (h4 : g 4 = nI W) (h5 : g 5 = nI H) (h : hasB (nI W) (nI H) a b = false) : wX2_sortAt N a b g f Q = Q (-1) g f := by
  simp only [wX2_sortAt, q_has, h4, h5, h, br1, bi_0, if_true]
theorem q_fatN {N W H x y : Nat} {g : gFG} {f : gFF} {Q : Int32 → gFG → gFF → Prop} (h4 : g 4 = nI W) (h5 : g 5 = nI H) (hW : W ≤ 12) (hH : H ≤ 12) (hx : x < W) (hy : y < H) : wX1_fateAt N (nI x) (nI y) g f Q = Q (f 14 (12 * y + x)) g f := by
  have hin : vp_in (nI (12 * y + x)) 144 := vp_in_nI (by omega) (by decide)
  simp only [wX1_fateAt, q_has, h4, h5, has_t hW hH hx hy, br1, bi_0, Bool.true_eq_false, if_false, xy_I, forall_eq, nI_clamp (show 12 * y + x < 2 ^ 31 by omega), hin, true_and]
theorem q_fatO {N W H : Nat} {a b : Int32} {g : gFG} {f : gFF} {Q : Int32 → gFG → gFF → Prop} (h4 : g 4 = nI W) (h5 : g 5 = nI H) (h : hasB (nI W) (nI H) a b = false) : wX1_fateAt N a b g f Q = Q 0 g f := by
  simp only [wX1_fateAt, q_has, h4, h5, h, br1, bi_0, if_true]
theorem q_holN {N W H x y : Nat} {g : gFG} {f : gFF} {Q : Int32 → gFG → gFF → Prop} (h4 : g 4 = nI W) (h5 : g 5 = nI H) (hW : W ≤ 12) (hH : H ≤ 12) (hx : x < W) (hy : y < H) : wX2_isHollow N (nI x) (nI y) g f Q = Q (bi (hol (f 13 (12 * y + x)))) g f := by
  have hin : vp_in (nI (12 * y + x)) 144 := vp_in_nI (by omega) (by decide)
  simp only [wX2_isHollow, wX2_isHollow_j37, q_has, h4, h5, has_t hW hH hx hy, br1, br2, bi_0, Bool.true_eq_false, if_false, xy_I, forall_eq, nI_clamp (show 12 * y + x < 2 ^ 31 by omega), hin, true_and, hol]
  by_cases c1 : f 13 (12 * y + x) = 0
  · simp [c1, bi]
  · by_cases c2 : f 13 (12 * y + x) = 3
    · simp [c2, bi]
    · by_cases c3 : f 13 (12 * y + x) = 4
      · simp [c3, bi]
      · simp [c1, c2, c3, bi]
theorem q_holO {N W H : Nat} {a b : Int32} {g : gFG} {f : gFF} {Q : Int32 → gFG → gFF → Prop} (h4 : g 4 = nI W) (h5 : g 5 = nI H) (h : hasB (nI W) (nI H) a b = false) : wX2_isHollow N a b g f Q = Q 0 g f := by
  simp only [wX2_isHollow, q_has, h4, h5, h, br2, bi_0, if_true]
def nz (v : Int32) : Bool := decide (¬ v = 0)
theorem nz_f {v : Int32} (h : v = 0) : nz v = false := decide_eq_false (fun c => c h)
theorem nz_t {v : Int32} (h : ¬ v = 0) : nz v = true := decide_eq_true h
theorem q_rchN {N W H x y : Nat} {g : gFG} {f : gFF} {Q : Int32 → gFG → gFF → Prop} (h4 : g 4 = nI W) (h5 : g 5 = nI H) (hW : W ≤ 12) (hH : H ≤ 12) (hx : x < W) (hy : y < H) : wX1_isReached N (nI x) (nI y) g f Q = Q (bi (nz (f 15 (12 * y + x)))) g f := by
  have hin : vp_in (nI (12 * y + x)) 144 := vp_in_nI (by omega) (by decide)
  simp only [wX1_isReached, q_has, h4, h5, has_t hW hH hx hy, br1, bi_0, Bool.true_eq_false, if_false, xy_I, forall_eq, nI_clamp (show 12 * y + x < 2 ^ 31 by omega), hin, true_and]
  by_cases c : f 15 (12 * y + x) = 0
  · rw [nz_f c]; simp [c, bi]
  · rw [nz_t c]; simp [c, bi]
theorem q_rchO {N W H : Nat} {a b : Int32} {g : gFG} {f : gFF} {Q : Int32 → gFG → gFF → Prop} (h4 : g 4 = nI W) (h5 : g 5 = nI H) (h : hasB (nI W) (nI H) a b = false) : wX1_isReached N a b g f Q = Q 0 g f := by
  simp only [wX1_isReached, q_has, h4, h5, h, br1, bi_0, if_true]
/-- the states of a flood -/
def gq (g : gFG) (n s : Nat) : gFG := va_up (va_up g 7 (nI n)) 8 (nI s)
def fq (f : gFF) (R q : Nat → Int32) : gFF := va_up (va_up f 15 R) 16 q
theorem gq_7 (g : gFG) (n s : Nat) : gq g n s 7 = nI n := rfl
theorem gq_8 (g : gFG) (n s : Nat) : gq g n s 8 = nI s := rfl
theorem gq_n (g : gFG) (n s : Nat) {j : Nat} (h1 : j ≠ 7) (h2 : j ≠ 8) : gq g n s j = g j := by unfold gq; rw [up_n _ _ h2, up_n _ _ h1]
theorem fq_15 (f : gFF) (R q : Nat → Int32) : fq f R q 15 = R := rfl
theorem fq_16 (f : gFF) (R q : Nat → Int32) : fq f R q 16 = q := rfl
theorem fq_n (f : gFF) (R q : Nat → Int32) {j : Nat} (h1 : j ≠ 15) (h2 : j ≠ 16) : fq f R q j = f j := by unfold fq; rw [up_n _ _ h2, up_n _ _ h1]
theorem gq_u7 (g : gFG) (n s n' : Nat) : va_up (gq g n s) 7 (nI n') = gq g n' s := by
  funext j; unfold gq va_up
  by_cases h1 : j = 7
  · subst h1; simp
  · by_cases h2 : j = 8
    · subst h2; simp
    · simp [h1, h2]
theorem gq_u8 (g : gFG) (n s s' : Nat) : va_up (gq g n s) 8 (nI s') = gq g n s' := by
  funext j; unfold gq va_up
  by_cases h2 : j = 8
  · subst h2; simp
  · simp [h2]
theorem fq_u15 (f : gFF) (R q R' : Nat → Int32) : va_up (fq f R q) 15 R' = fq f R' q := by
  funext j; unfold fq va_up
  by_cases h1 : j = 15
  · subst h1; simp
  · by_cases h2 : j = 16
    · subst h2; simp
    · simp [h1, h2]
theorem fq_u16 (f : gFF) (R q q' : Nat → Int32) : va_up (fq f R q) 16 q' = fq f R q' := by
  funext j; unfold fq va_up
  by_cases h2 : j = 16
  · subst h2; simp
  · simp [h2]
theorem fq_u14 (f : gFF) (R q A : Nat → Int32) : va_up (fq f R q) 14 A = fq (va_up f 14 A) R q := by
  funext j; unfold fq va_up
  by_cases h0 : j = 14
  · subst h0; simp
  · by_cases h1 : j = 15
    · subst h1; simp
    · by_cases h2 : j = 16
      · subst h2; simp
      · simp [h0, h1, h2]
def FI (W H : Nat) (S R q : Nat → Int32) (n : Nat) : Prop := (∀ k, k < 144 → R k = 0 ∨ R k = 1) ∧ cnt R 144 = n ∧ (∀ i, i < n → ∃ k, k < 144 ∧ q i = nI k ∧ R k ≠ 0) ∧ (∀ k, k < 144 → R k ≠ 0 → (∃ i, i < n ∧ q i = nI k) ∧ ∃ x y, x < W ∧ y < H ∧ k = 12 * y + x ∧ hol (S k) = true)
def RE (W H : Nat) (S : Nat → Int32) (p : Nat → Prop) (R q : Nat → Int32) (n : Nat) (R' q' : Nat → Int32) (n' : Nat) : Prop := FI W H S R' q' n' ∧ n ≤ n' ∧ (∀ i, i < n → q' i = q i) ∧ (∀ k, k < 144 → R k ≠ 0 → R' k ≠ 0) ∧ (∀ k, k < 144 → R' k ≠ 0 → R k ≠ 0 ∨ p k) ∧ (∀ k, k < 144 → p k → R' k ≠ 0)
theorem RE_0 {W H : Nat} {S R q : Nat → Int32} {n : Nat} {p : Nat → Prop} (h : FI W H S R q n) (hp : ∀ k, k < 144 → p k → R k ≠ 0) : RE W H S p R q n R q n := ⟨h, Nat.le_refl _, fun _ _ => rfl, fun _ _ h => h, fun _ _ h => Or.inl h, hp⟩
theorem RE_t {W H : Nat} {S R q R' q' R'' q'' : Nat → Int32} {n n' n'' : Nat} {p p' p'' : Nat → Prop} (h1 : RE W H S p R q n R' q' n') (h2 : RE W H S p' R' q' n' R'' q'' n'') (hp : ∀ k, k < 144 → (p'' k ↔ p k ∨ p' k)) : RE W H S p'' R q n R'' q'' n'' := by
  obtain ⟨a1, a2, a3, a4, a5, a6⟩ := h1
  obtain ⟨b1, b2, b3, b4, b5, b6⟩ := h2
  refine ⟨b1, by omega, fun i hi => (b3 i (by omega)).trans (a3 i hi), fun k hk h => b4 k hk (a4 k hk h), fun k hk h => ?_, fun k hk h => ?_⟩
  · rcases b5 k hk h with q | q
    · rcases a5 k hk q with r | r
      · exact Or.inl r
      · exact Or.inr ((hp k hk).mpr (Or.inl r))
    · exact Or.inr ((hp k hk).mpr (Or.inr q))
  · rcases (hp k hk).mp h with q | q
    · exact b4 k hk (a6 k hk q)
    · exact b6 k hk q
def tg (W H : Nat) (S : Nat → Int32) (a b : Int32) (k : Nat) : Prop := ∃ x y, x < W ∧ y < H ∧ a = nI x ∧ b = nI y ∧ k = 12 * y + x ∧ hol (S k) = true
theorem nI_inj {a b : Nat} (ha : a < 2 ^ 31) (hb : b < 2 ^ 31) (h : nI a = nI b) : a = b := by
  have := congrArg Int32.toInt h
  rw [nI_I ha, nI_I hb] at this
  omega
theorem q_reach {N W H n s : Nat} {a b : Int32} {g : gFG} {f : gFF} {R q : Nat → Int32} {Q : gFG → gFF → Prop} (h4 : g 4 = nI W) (h5 : g 5 = nI H) (hW : W ≤ 12) (hH : H ≤ 12) (hF : FI W H (f 13) R q n) (h : ∀ R' q' n', RE W H (f 13) (tg W H (f 13) a b) R q n R' q' n' → Q (gq g n' s) (fq f R' q')) : wX1_reach N a b (gq g n s) (fq f R q) Q := by
  have h4' : gq g n s 4 = nI W := h4
  have h5' : gq g n s 5 = nI H := h5
  have f13 : fq f R q 13 = f 13 := rfl
  unfold wX1_reach
  cases hh : hasB (nI W) (nI H) a b with
  | false =>
    rw [q_holO h4' h5' hh]
    refine ⟨fun _ => h R q n (RE_0 hF ?_), fun c => absurd rfl c⟩
    rintro k hk ⟨x, y, hx, hy, rfl, rfl, -, -⟩
    rw [has_t hW hH hx hy] at hh
    contradiction
  | true =>
    obtain ⟨x, y, hx, hy, rfl, rfl⟩ := has_ex hW hH hh
    have uniq : ∀ k, tg W H (f 13) (nI x) (nI y) k → k = 12 * y + x ∧ hol (f 13 (12 * y + x)) = true := by
      rintro k ⟨x', y', hx', hy', ex, ey, rfl, hk⟩
      have e1 := nI_inj (by omega) (by omega) ex
      have e2 := nI_inj (by omega) (by omega) ey
      subst e1; subst e2
      exact ⟨rfl, hk⟩
    rw [q_holN h4' h5' hW hH hx hy, f13]
    cases hho : hol (f 13 (12 * y + x)) with
    | false =>
      refine ⟨fun _ => h R q n (RE_0 hF ?_), fun c => absurd rfl c⟩
      intro k hk ht
      have := (uniq k ht).2
      rw [hho] at this; contradiction
    | true =>
      refine ⟨fun c => absurd c (by decide), fun _ => ?_⟩
      rw [q_rchN h4' h5' hW hH hx hy, fq_15]
      by_cases hr : R (12 * y + x) = 0
      · rw [nz_f hr]
        refine ⟨fun c => absurd rfl c, fun _ => ?_⟩
        have hn : n < 144 := by rw [← hF.2.1]; exact cnt_lt (k := 12 * y + x) (by omega) hr
        rw [gq_7]
        refine ⟨fun _ => ?_, fun c => absurd (nI_lt hn (by decide)) c⟩
        simp only [forall_eq, xy_I, nI_clamp (show 12 * y + x < 2 ^ 31 by omega), nI_clamp (show n < 2 ^ 31 by omega), nI_1, gq_u7, fq_15, fq_u15, fq_16, fq_u16]
        refine ⟨vp_in_nI (by omega) (by decide), vp_in_nI hn (by decide), h _ _ _ ?_⟩
        obtain ⟨i1, i2, i3, i4⟩ := hF
        have mono : ∀ k, k < 144 → R k ≠ 0 → upd R (12 * y + x) 1 k ≠ 0 := by
          intro k hk h0
          rw [upd_ne _ _ (fun e => h0 (by rw [e]; exact hr))]; exact h0
        refine ⟨⟨fun k hk => ?_, ?_, fun i hi => ?_, fun k hk h0 => ?_⟩, by omega, fun i hi => upd_ne _ _ (by omega), mono, fun k hk h0 => ?_, fun k hk ht => ?_⟩
        · by_cases e : k = 12 * y + x
          · rw [e, upd_at]; exact Or.inr rfl
          · rw [upd_ne _ _ e]; exact i1 k hk
        · rw [cnt_up (by omega) hr (by decide), i2]
        · by_cases e : i = n
          · refine ⟨12 * y + x, by omega, by rw [e, upd_at], by rw [upd_at]; decide⟩
          · obtain ⟨k, k1, k2, k3⟩ := i3 i (by omega)
            exact ⟨k, k1, by rw [upd_ne _ _ e]; exact k2, mono k k1 k3⟩
        · by_cases e : k = 12 * y + x
          · exact ⟨⟨n, by omega, by rw [upd_at, e]⟩, x, y, hx, hy, e, by rw [e]; exact hho⟩
          · rw [upd_ne _ _ e] at h0
            obtain ⟨⟨i, j1, j2⟩, j3⟩ := i4 k hk h0
            exact ⟨⟨i, by omega, by rw [upd_ne _ _ (by omega)]; exact j2⟩, j3⟩
        · by_cases e : k = 12 * y + x
          · exact Or.inr ⟨x, y, hx, hy, rfl, rfl, e, by rw [e]; exact hho⟩
          · rw [upd_ne _ _ e] at h0; exact Or.inl h0
        · rw [(uniq k ht).1, upd_at]; decide
      · rw [nz_t hr]
        refine ⟨fun _ => h R q n (RE_0 hF ?_), fun c => absurd c (by decide)⟩
        intro k hk ht
        rw [(uniq k ht).1]; exact hr
/-- a step to the cells beside -/
def stp (W H : Nat) (S : Nat → Int32) (m x y j k : Nat) : Prop := ¬ (nI y + gwy j < nI m) ∧ tg W H S (nI x + gwx j) (nI y + gwy j) k
theorem q_l50 {N W H m x y n s : Nat} {g : gFG} {f : gFF} {R q : Nat → Int32} {K0 Q : gFG → gFF → Prop} (hN : 1000 ≤ N) (h4 : g 4 = nI W) (h5 : g 5 = nI H) (hW : W ≤ 12) (hH : H ≤ 12) (hF : FI W H (f 13) R q n) (h : ∀ R' q' n', RE W H (f 13) (fun k => ∃ j, j < 4 ∧ stp W H (f 13) m x y j k) R q n R' q' n' → K0 (gq g n' (s + 1)) (fq f R' q')) : wX1_flood_l50 N (nI m) (nI x) (nI y) K0 Q N 0 (gq g n s) (fq f R q) := by
  refine lpU (β := (Nat → Int32) × (Nat → Int32) × Nat) (fun fu j b => wX1_flood_l50 N (nI m) (nI x) (nI y) K0 Q fu (nI j) (gq g b.2.2 s) (fq f b.1 b.2.1)) (fun j b => RE W H (f 13) (fun k => ∃ i, i < j ∧ stp W H (f 13) m x y i k) R q n b.1 b.2.1 b.2.2) 4 ?_ ?_ 0 N (R, q, n) (by omega) (by omega) (RE_0 hF ?_)
  · rintro fu ⟨R', q', n'⟩ hb
    unfold wX1_flood_l50
    refine ⟨fun _ => ?_, fun c => absurd (nI_le (Nat.le_refl 4) (by decide)) c⟩
    simp only [forall_eq, gq_8, nI_1, gq_u8]
    exact h R' q' n' hb
  · rintro fu j ⟨R', q', n'⟩ hj hb ih
    unfold wX1_flood_l50
    have hin : vp_in (nI j) 4 := vp_in_nI hj (by decide)
    refine ⟨fun c => absurd c (nI_ge hj (by decide)), fun _ => ⟨hin, ?_⟩⟩
    simp only [wX1_flood_j88, forall_eq, nI_1, nI_clamp (show j < 2 ^ 31 by omega)]
    refine ⟨fun c => ?_, fun c => ⟨hin, hin, ?_⟩⟩
    · refine ih (R', q', n') (RE_t hb (p' := fun _ => False) (RE_0 hb.1 (fun _ _ h => absurd h id)) (fun k hk => ?_))
      constructor
      · rintro ⟨i, hi, hs⟩
        by_cases e : i = j
        · subst e; exact absurd c hs.1
        · exact Or.inl ⟨i, by omega, hs⟩
      · rintro (⟨i, hi, hs⟩ | h0)
        · exact ⟨i, by omega, hs⟩
        · exact absurd h0 id
    · refine q_reach h4 h5 hW hH hb.1 (fun R'' q'' n'' hr => ?_)
      refine ih (R'', q'', n'') (RE_t hb hr (fun k hk => ?_))
      constructor
      · rintro ⟨i, hi, hs⟩
        by_cases e : i = j
        · subst e; exact Or.inr hs.2
        · exact Or.inl ⟨i, by omega, hs⟩
      · rintro (⟨i, hi, hs⟩ | h0)
        · exact ⟨i, by omega, hs⟩
        · exact ⟨j, by omega, c, h0⟩
  · rintro k hk ⟨j, hj, -⟩
    omega
theorem stp_e {W H m x y : Nat} {S : Nat → Int32} (hW : W ≤ 12) (hH : H ≤ 12) (hx : x < W) (hy : y < H) (hm : m ≤ y) (hh : hol (S (12 * y + x)) = true) (l : Nat) : (∃ j, j < 4 ∧ stp W H S m x y j l) ↔ (edg W H S m (12 * y + x) l ∨ edg W H S m l (12 * y + x)) := by
  constructor
  · rintro ⟨j, hj, hs, x', y', hx', hy', ex, ey, rfl, hl⟩
    have : j = 0 ∨ j = 1 ∨ j = 2 ∨ j = 3 := by omega
    rcases this with rfl | rfl | rfl | rfl
    · have e1 : x + 1 = x' := nI_inj (by omega) (by omega) (by rw [← nI_1]; exact ex)
      have e2 : y = y' := nI_inj (by omega) (by omega) (by have : nI y + 0 = nI y' := ey; rw [Int32.add_zero] at this; exact this)
      subst e1; subst e2
      exact Or.inl ⟨x, y, hx, hy, hm, rfl, hh, hl, Or.inl ⟨by omega, hx'⟩⟩
    · have e1 : x = x' := nI_inj (by omega) (by omega) (by have : nI x + 0 = nI x' := ex; rw [Int32.add_zero] at this; exact this)
      have e2 : y + 1 = y' := nI_inj (by omega) (by omega) (by rw [← nI_1]; exact ey)
      subst e1; subst e2
      exact Or.inl ⟨x, y, hx, hy, hm, rfl, hh, hl, Or.inr ⟨by omega, hy'⟩⟩
    · have e2 : y = y' := nI_inj (by omega) (by omega) (by have : nI y + 0 = nI y' := ey; rw [Int32.add_zero] at this; exact this)
      have ex2 : nI x + (-1) = nI x' := ex
      rw [eq_I, add_I (by rw [nI_I (by omega), z_m1]; omega) (by rw [nI_I (by omega), z_m1]; omega), nI_I (by omega), nI_I (by omega), z_m1] at ex2
      subst e2
      refine Or.inr ⟨x', y, hx', hy, hm, rfl, hl, hh, Or.inl ⟨by omega, by omega⟩⟩
    · have e1 : x = x' := nI_inj (by omega) (by omega) (by have : nI x + 0 = nI x' := ex; rw [Int32.add_zero] at this; exact this)
      have ey2 : nI y + (-1) = nI y' := ey
      have hs2 : ¬ (nI y' < nI m) := by
        have : ¬ (nI y + gwy 3 < nI m) := hs
        rw [ey] at this; exact this
      rw [nI_ltI (by omega) (by omega)] at hs2
      rw [eq_I, add_I (by rw [nI_I (by omega), z_m1]; omega) (by rw [nI_I (by omega), z_m1]; omega), nI_I (by omega), nI_I (by omega), z_m1] at ey2
      subst e1
      refine Or.inr ⟨x, y', hx, hy', by omega, rfl, hl, hh, Or.inr ⟨by omega, by omega⟩⟩
  · rintro (⟨x', y', hx', hy', hm', e, -, hl, ⟨rfl, h1⟩ | ⟨rfl, h1⟩⟩ | ⟨x', y', hx', hy', hm', rfl, hl, -, ⟨e, h1⟩ | ⟨e, h1⟩⟩)
    · have : x = x' ∧ y = y' := by omega
      obtain ⟨rfl, rfl⟩ := this
      refine ⟨0, by omega, ?_, x + 1, y, h1, hy, nI_1 x, Int32.add_zero _, by omega, hl⟩
      show ¬ (nI y + 0 < nI m)
      rw [Int32.add_zero, nI_ltI (by omega) (by omega)]; omega
    · have : x = x' ∧ y = y' := by omega
      obtain ⟨rfl, rfl⟩ := this
      refine ⟨1, by omega, ?_, x, y + 1, hx, h1, Int32.add_zero _, nI_1 y, by omega, hl⟩
      show ¬ (nI y + 1 < nI m)
      rw [nI_1, nI_ltI (by omega) (by omega)]; omega
    · have : x = x' + 1 ∧ y = y' := by omega
      obtain ⟨rfl, rfl⟩ := this
      refine ⟨2, by omega, ?_, x', y, hx', hy, ?_, Int32.add_zero _, by omega, hl⟩
      · show ¬ (nI y + 0 < nI m)
        rw [Int32.add_zero, nI_ltI (by omega) (by omega)]; omega
      · show nI (x' + 1) + (-1) = nI x'
        rw [sub_m1, nI_pred]
    · have : x = x' ∧ y = y' + 1 := by omega
      obtain ⟨rfl, rfl⟩ := this
      refine ⟨3, by omega, ?_, x, y', hx, hy', Int32.add_zero _, ?_, by omega, hl⟩
      · show ¬ (nI (y' + 1) + (-1) < nI m)
        rw [sub_m1, nI_pred, nI_ltI (by omega) (by omega)]; omega
      · show nI (y' + 1) + (-1) = nI y'
        rw [sub_m1, nI_pred]
theorem Cs_r {W H m a : Nat} {S : Nat → Int32} : Cs W H S m a a := fun _ _ => Iff.rfl
theorem Cs_s {W H m a b : Nat} {S : Nat → Int32} (h : Cs W H S m a b) : Cs W H S m b a := fun F hF => (h F hF).symm
theorem Cs_t {W H m a b c : Nat} {S : Nat → Int32} (h : Cs W H S m a b) (h2 : Cs W H S m b c) : Cs W H S m a c := fun F hF => (h F hF).trans (h2 F hF)
theorem Cs_e {W H m a b : Nat} {S : Nat → Int32} (h : edg W H S m a b) : Cs W H S m a b := fun _ hF => hF _ _ h
theorem Cs_e2 {W H m a b : Nat} {S : Nat → Int32} (h : edg W H S m a b ∨ edg W H S m b a) : Cs W H S m a b := by
  rcases h with h | h
  · exact Cs_e h
  · exact Cs_s (Cs_e h)
theorem edg_m {W H m m' a b : Nat} {S : Nat → Int32} (hm : m' ≤ m) (h : edg W H S m a b) : edg W H S m' a b := by
  obtain ⟨x, y, h1, h2, h3, h4⟩ := h
  exact ⟨x, y, h1, h2, by omega, h4⟩
theorem Cs_m {W H m m' a b : Nat} {S : Nat → Int32} (hm : m' ≤ m) (h : Cs W H S m a b) : Cs W H S m' a b := fun F hF => h F (fun k l he => hF k l (edg_m hm he))
/-- both ends of an edge are hollow cells of the rows -/
def gd (W H : Nat) (S : Nat → Int32) (m k : Nat) : Prop := ∃ x y, x < W ∧ y < H ∧ m ≤ y ∧ k = 12 * y + x ∧ hol (S k) = true
theorem edg_g {W H m k l : Nat} {S : Nat → Int32} (h : edg W H S m k l) : gd W H S m k ∧ gd W H S m l := by
  obtain ⟨x, y, h1, h2, h3, rfl, h5, h6, ⟨rfl, h7⟩ | ⟨rfl, h7⟩⟩ := h
  · exact ⟨⟨x, y, h1, h2, h3, rfl, h5⟩, ⟨x + 1, y, h7, h2, h3, by omega, h6⟩⟩
  · exact ⟨⟨x, y, h1, h2, h3, rfl, h5⟩, ⟨x, y + 1, h1, h7, by omega, by omega, h6⟩⟩
theorem Cs_g {W H m a b : Nat} {S : Nat → Int32} (h : Cs W H S m a b) : gd W H S m a ↔ gd W H S m b := h (gd W H S m) (fun k l he => ⟨fun _ => (edg_g he).2, fun _ => (edg_g he).1⟩)
def FL (W H : Nat) (S : Nat → Int32) (m s e : Nat) (R q : Nat → Int32) (n : Nat) (R' q' : Nat → Int32) (n' : Nat) : Prop := FI W H S R' q' n' ∧ n ≤ n' ∧ (∀ i, i < n → q' i = q i) ∧ (∀ k, k < 144 → R k ≠ 0 → R' k ≠ 0) ∧ (∀ k, k < 144 → R' k ≠ 0 → gd W H S m k ∧ ∃ k0, k0 < 144 ∧ R k0 ≠ 0 ∧ Cs W H S m k0 k) ∧ (∀ i, s ≤ i → i < e → ∀ c, c < 144 → q' i = nI c → ∀ l, l < 144 → (edg W H S m c l ∨ edg W H S m l c) → R' l ≠ 0)
theorem q_flood {N W H m s n : Nat} {g : gFG} {f : gFF} {R q : Nat → Int32} {Q : gFG → gFF → Prop} (hN : 1000 ≤ N) (h4 : g 4 = nI W) (h5 : g 5 = nI H) (hW : W ≤ 12) (hH : H ≤ 12) (hF : FI W H (f 13) R q n) (hs : s ≤ n) (hrow : ∀ k, k < 144 → R k ≠ 0 → gd W H (f 13) m k) (h : ∀ R' q' n', FL W H (f 13) m s n' R q n R' q' n' → Q (gq g n' n') (fq f R' q')) : wX1_flood N (nI m) (gq g n s) (fq f R q) Q := by
  have key : ∀ d s' R' q' n' fu, 144 - s' ≤ d → d < fu → s ≤ s' → s' ≤ n' → FL W H (f 13) m s s' R q n R' q' n' → wX1_flood_l0 N (nI m) Q fu (gq g n' s') (fq f R' q') := by
    intro d
    induction d with
    | zero =>
      intro s' R' q' n' fu h1 h2 h3 h3' hb
      obtain ⟨fu, rfl⟩ : ∃ k, fu = k + 1 := ⟨fu - 1, by omega⟩
      have hn : n' ≤ 144 := by rw [← hb.1.2.1]; exact cnt_le _ _
      have : s' = n' := by omega
      subst this
      unfold wX1_flood_l0
      rw [gq_7, gq_8]
      exact ⟨fun _ => h R' q' s' hb, fun c => absurd (nI_le (Nat.le_refl _) (by omega)) c⟩
    | succ d ih =>
      intro s' R' q' n' fu h1 h2 h3 h3' hb
      obtain ⟨fu, rfl⟩ : ∃ k, fu = k + 1 := ⟨fu - 1, by omega⟩
      have hn : n' ≤ 144 := by rw [← hb.1.2.1]; exact cnt_le _ _
      unfold wX1_flood_l0
      rw [gq_7, gq_8]
      refine ⟨fun c => ?_, fun c => ?_⟩
      · rw [nI_leI (by omega) (by omega)] at c
        have : s' = n' := by omega
        subst this
        exact h R' q' s' hb
      · rw [nI_leI (by omega) (by omega)] at c
        refine ⟨fun c2 => absurd c2 (nI_ge (show s' < 144 by omega) (by decide)), fun _ => ?_⟩
        have hin : vp_in (nI s') 144 := vp_in_nI (by omega) (by decide)
        obtain ⟨k, k1, k2, k3⟩ := hb.1.2.2.1 s' (by omega)
        obtain ⟨-, x, y, x1, y1, rfl, hk⟩ := hb.1.2.2.2 k k1 k3
        have hg := hb.2.2.2.2.1 _ k1 k3
        obtain ⟨⟨xx, yy, g1, g2, g3, g4, -⟩, k0, z1, z2, z3⟩ := hg
        have hm : m ≤ y := by omega
        simp only [forall_eq, hin, true_and, nI_clamp (show s' < 2 ^ 31 by omega), fq_16, k2]
        have r1 : nI (12 * y + x) - nI (12 * y + x) / 12 * 12 = nI x := by
          have : nI (12 * y + x) - nI (12 * y + x) / nI 12 * nI 12 = nI ((12 * y + x) % 12) := pk_rem (by omega) (by decide) (by decide)
          rw [show (12 * y + x) % 12 = x by omega] at this
          exact this
        have r2 : nI (12 * y + x) / 12 = nI y := by
          have : nI (12 * y + x) / nI 12 = nI ((12 * y + x) / 12) := pk_div (by omega) (by decide) (by decide)
          rw [show (12 * y + x) / 12 = y by omega] at this
          exact this
        rw [r1, r2]
        refine q_l50 hN h4 h5 hW hH hb.1 (fun R2 q2 n2 hr => ?_)
        have hst := stp_e (S := f 13) hW hH x1 y1 hm hk
        obtain ⟨a1, a2, a3, a4, a5, a6⟩ := hr
        obtain ⟨b1, b2, b3, b4, b5, b6⟩ := hb
        refine ih (s' + 1) R2 q2 n2 fu (by omega) (by omega) (by omega) (by omega) ⟨a1, by omega, fun i hi => (a3 i (by omega)).trans (b3 i hi), fun k hk h0 => a4 k hk (b4 k hk h0), fun k hk h0 => ?_, fun i hi1 hi2 c hc hqc l hl he => ?_⟩
        · rcases a5 k hk h0 with q0 | q0
          · exact b5 k hk q0
          · have he := (hst k).mp q0
            refine ⟨?_, k0, z1, z2, Cs_t z3 (Cs_e2 he)⟩
            rcases he with he | he
            · exact (edg_g he).2
            · exact (edg_g he).1
        · by_cases e : i = s'
          · subst e
            rw [a3 i (by omega), k2] at hqc
            have := nI_inj (by omega) (by omega) hqc
            subst this
            exact a6 l hl ((hst l).mpr he)
          · rw [a3 i (by omega)] at hqc
            exact a4 l hl (b6 i hi1 (by omega) c hc hqc l hl he)
  unfold wX1_flood
  exact key 144 s R q n N (by omega) (by omega) (Nat.le_refl _) hs ⟨hF, Nat.le_refl _, fun _ _ => rfl, fun _ _ h => h, fun k hk h0 => ⟨hrow k hk h0, k, hk, h0, Cs_r⟩, fun i hi1 hi2 => by omega⟩
