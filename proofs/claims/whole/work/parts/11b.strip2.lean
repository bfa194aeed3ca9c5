/-! the pieces: the order in which they come off -/
def Blk (W H : Nat) (S : Nat → Int32) (p j q : Nat) : Prop := ∃ x y : Nat, x < W ∧ y < H ∧ S (12 * y + x) = nI (10 + p) ∧ ∃ s : Nat, 1 ≤ s ∧ ing W H ((x : Int) + s * dX j) ((y : Int) + s * dY j) ∧ mb (sv S ((x : Int) + s * dX j) ((y : Int) + s * dY j)) q
def thP (W H : Nat) (S : Nat → Int32) (q : Nat) : Prop := q < 8 ∧ ∃ x y : Nat, x < W ∧ y < H ∧ S (12 * y + x) = nI (10 + q)
theorem sv_t {S : Nat → Int32} {W H : Nat} {a b : Int} (h : ing W H a b) : sv S a b = S (12 * b.toNat + a.toNat) := by
  unfold sv ing at *
  rw [show (12 * b + a).toNat = 12 * b.toNat + a.toNat by omega]
theorem CE_B {W H j p q : Nat} {S : Nat → Int32} (hj : j < 4) : (∃ x y : Nat, x < W ∧ y < H ∧ ¬ ing W H ((x : Int) + dX j) ((y : Int) + dY j) ∧ CE W H S x y j p q) ↔ Blk W H S p j q := by
  constructor
  · rintro ⟨x, y, hx, hy, -, s, t, hts, hi, hp, hm⟩
    have h0 : ing W H (x : Int) (y : Int) := by unfold ing; omega
    have ht := ing_cv hj h0 hi (show t ≤ s by omega)
    refine ⟨((x : Int) - s * dX j).toNat, ((y : Int) - s * dY j).toNat, by unfold ing at hi; omega, by unfold ing at hi; omega, by rw [sv_t hi] at hp; exact hp, s - t, by omega, ?_⟩
    have e1 : ((((x : Int) - s * dX j).toNat : Nat) : Int) + ((s - t : Nat) : Int) * dX j = (x : Int) - t * dX j := by
      rcases d_4 hj with ⟨e1, e2⟩ | ⟨e1, e2⟩ | ⟨e1, e2⟩ | ⟨e1, e2⟩ <;> (rw [e1, e2] at hi; rw [e1]; unfold ing at hi; omega)
    have e2 : ((((y : Int) - s * dY j).toNat : Nat) : Int) + ((s - t : Nat) : Int) * dY j = (y : Int) - t * dY j := by
      rcases d_4 hj with ⟨e1, e2⟩ | ⟨e1, e2⟩ | ⟨e1, e2⟩ | ⟨e1, e2⟩ <;> (rw [e1, e2] at hi; rw [e2]; unfold ing at hi; omega)
    rw [e1, e2]
    exact ⟨ht, hm⟩
  · rintro ⟨x, y, hx, hy, hp, s, hs, hi, hm⟩
    -- the edge, and how far it is
    have ex : ∃ X Y m : Nat, X < W ∧ Y < H ∧ ¬ ing W H ((X : Int) + dX j) ((Y : Int) + dY j) ∧ s ≤ m ∧ (X : Int) - m * dX j = x ∧ (Y : Int) - m * dY j = y := by
      rcases d_4 hj with ⟨e1, e2⟩ | ⟨e1, e2⟩ | ⟨e1, e2⟩ | ⟨e1, e2⟩
      · rw [e1, e2] at hi ⊢
        exact ⟨W - 1, y, W - 1 - x, by omega, hy, by unfold ing; omega, by unfold ing at hi; omega, by omega, by omega⟩
      · rw [e1, e2] at hi ⊢
        exact ⟨x, H - 1, H - 1 - y, hx, by omega, by unfold ing; omega, by unfold ing at hi; omega, by omega, by omega⟩
      · rw [e1, e2] at hi ⊢
        exact ⟨0, y, x, by omega, hy, by unfold ing; omega, by unfold ing at hi; omega, by omega, by omega⟩
      · rw [e1, e2] at hi ⊢
        exact ⟨x, 0, y, hx, by omega, by unfold ing; omega, by unfold ing at hi; omega, by omega, by omega⟩
    obtain ⟨X, Y, m, hX, hY, hE, hsm, eX, eY⟩ := ex
    refine ⟨X, Y, hX, hY, hE, m, m - s, by omega, ?_⟩
    rw [eX, eY]
    have e3 : (X : Int) - ((m - s : Nat) : Int) * dX j = (x : Int) + s * dX j := by
      rcases d_4 hj with ⟨e1, e2⟩ | ⟨e1, e2⟩ | ⟨e1, e2⟩ | ⟨e1, e2⟩ <;> (rw [e1] at eX ⊢; omega)
    have e4 : (Y : Int) - ((m - s : Nat) : Int) * dY j = (y : Int) + s * dY j := by
      rcases d_4 hj with ⟨e1, e2⟩ | ⟨e1, e2⟩ | ⟨e1, e2⟩ | ⟨e1, e2⟩ <;> (rw [e2] at eY ⊢; omega)
    rw [e3, e4]
    exact ⟨by unfold ing; omega, by rw [sv_n]; exact hp, hm⟩
theorem UE_t {W H j q : Nat} {S : Nat → Int32} (hj : j < 4) : (∃ x y : Nat, x < W ∧ y < H ∧ ¬ ing W H ((x : Int) + dX j) ((y : Int) + dY j) ∧ UE W H S x y j q) ↔ thP W H S q := by
  constructor
  · rintro ⟨x, y, hx, hy, -, hq, s, hi, hp⟩
    refine ⟨hq, ((x : Int) - s * dX j).toNat, ((y : Int) - s * dY j).toNat, by unfold ing at hi; omega, by unfold ing at hi; omega, by rw [sv_t hi] at hp; exact hp⟩
  · rintro ⟨hq, x, y, hx, hy, hp⟩
    have ex : ∃ X Y m : Nat, X < W ∧ Y < H ∧ ¬ ing W H ((X : Int) + dX j) ((Y : Int) + dY j) ∧ (X : Int) - m * dX j = x ∧ (Y : Int) - m * dY j = y := by
      rcases d_4 hj with ⟨e1, e2⟩ | ⟨e1, e2⟩ | ⟨e1, e2⟩ | ⟨e1, e2⟩
      · rw [e1, e2]
        exact ⟨W - 1, y, W - 1 - x, by omega, hy, by unfold ing; omega, by omega, by omega⟩
      · rw [e1, e2]
        exact ⟨x, H - 1, H - 1 - y, hx, by omega, by unfold ing; omega, by omega, by omega⟩
      · rw [e1, e2]
        exact ⟨0, y, x, by omega, hy, by unfold ing; omega, by omega, by omega⟩
      · rw [e1, e2]
        exact ⟨x, 0, y, hx, by omega, by unfold ing; omega, by omega, by omega⟩
    obtain ⟨X, Y, m, hX, hY, hE, eX, eY⟩ := ex
    refine ⟨X, Y, hX, hY, hE, hq, m, ?_⟩
    rw [eX, eY]
    exact ⟨by unfold ing; omega, by rw [sv_n]; exact hp⟩
theorem q_edge {N W H j : Nat} {g : gFG} {f : gFF} {T : Nat → Nat → Nat → Prop} {U : Nat → Prop} {th0 : Int32} {M0 : Nat → Int32} {Q : gFG → gFF → Prop} (hN : 1000 ≤ N) (h4 : g 4 = nI W) (h5 : g 5 = nI H) (hW : W ≤ 12) (hH : H ≤ 12) (hj : j < 4) (hS : ∀ k, k < 144 → isSortB (f 13 k) = true) (hM : AccM M0 T) (hU : AccT th0 U) (h : ∀ th M, AccM M (fun p j' q => T p j' q ∨ (j' = j ∧ Blk W H (f 13) p j q)) → AccT th (fun q => U q ∨ thP W H (f 13) q) → Q (va_up g 10 th) (va_up f 17 M)) : wX8_lookFromEdge N (nI j) (va_up g 10 th0) (va_up f 17 M0) Q := by
  obtain ⟨r1, r2⟩ := gw_r j hj
  have hin : vp_in (nI j) 4 := vp_in_nI hj (by decide)
  unfold wX8_lookFromEdge
  refine lpD (β := Int32 × (Nat → Int32)) (fun fu y b => wX8_lookFromEdge_l2 N (nI j) Q fu (nI y) (va_up g 10 b.1) (va_up f 17 b.2)) (fun fu y m x b => wX8_lookFromEdge_l15 N (nI j) (nI y) (wX8_lookFromEdge_l2 N (nI j) Q fu) Q m (nI x) (va_up g 10 b.1) (va_up f 17 b.2)) (fun y x b => AccM b.2 (fun p j' q => T p j' q ∨ (j' = j ∧ ∃ x' y' : Nat, x' < W ∧ y' < H ∧ (y' < y ∨ (y' = y ∧ x' < x)) ∧ ¬ ing W H ((x' : Int) + dX j) ((y' : Int) + dY j) ∧ CE W H (f 13) x' y' j p q)) ∧ AccT b.1 (fun q => U q ∨ ∃ x' y' : Nat, x' < W ∧ y' < H ∧ (y' < y ∨ (y' = y ∧ x' < x)) ∧ ¬ ing W H ((x' : Int) + dX j) ((y' : Int) + dY j) ∧ UE W H (f 13) x' y' j q)) 0 W H N (by omega) (by omega) ?_ ?_ ?_ ?_ 0 N (th0, M0) (by omega) (by omega) ⟨fun p j' q a1 a2 a3 => (hM p j' q a1 a2 a3).trans ?_, fun q a1 => (hU q a1).trans ?_⟩
  · rintro fu ⟨th, M⟩ ⟨hM', hU'⟩
    have h5' : (va_up g 10 th) 5 = nI H := h5
    unfold wX8_lookFromEdge_l2 wX2_height
    dsimp only
    rw [h5']
    refine ⟨fun _ => h th M (fun p j' q a1 a2 a3 => (hM' p j' q a1 a2 a3).trans ?_) (fun q a1 => (hU' q a1).trans ?_), fun c => absurd (nI_le (Nat.le_refl H) (by omega)) c⟩
    · dsimp only
      rw [← CE_B hj]
      constructor
      · rintro (c | ⟨c, x', y', b1, b2, b3, b4⟩)
        · exact Or.inl c
        · exact Or.inr ⟨c, x', y', b1, b2, b4⟩
      · rintro (c | ⟨c, x', y', b1, b2, b4⟩)
        · exact Or.inl c
        · exact Or.inr ⟨c, x', y', b1, b2, Or.inl b2, b4⟩
    · dsimp only
      rw [← UE_t hj]
      constructor
      · rintro (c | ⟨x', y', b1, b2, b3, b4⟩)
        · exact Or.inl c
        · exact Or.inr ⟨x', y', b1, b2, b4⟩
      · rintro (c | ⟨x', y', b1, b2, b4⟩)
        · exact Or.inl c
        · exact Or.inr ⟨x', y', b1, b2, Or.inl b2, b4⟩
  · rintro fu y ⟨th, M⟩ hy hb hi
    have h5' : (va_up g 10 th) 5 = nI H := h5
    unfold wX8_lookFromEdge_l2 wX2_height
    dsimp only
    rw [h5']
    exact ⟨fun c => absurd c (nI_ge hy (by omega)), fun _ => hi⟩
  · rintro fu y m ⟨th, M⟩ hy ⟨hM', hU'⟩ ih
    have h4' : (va_up g 10 th) 4 = nI W := h4
    unfold wX8_lookFromEdge_l15 wX2_width
    dsimp only
    rw [h4']
    refine ⟨fun _ => ?_, fun c => absurd (nI_le (Nat.le_refl W) (by omega)) c⟩
    rintro _ rfl
    rw [nI_1]
    refine ih (th, M) ⟨fun p j' q a1 a2 a3 => (hM' p j' q a1 a2 a3).trans ?_, fun q a1 => (hU' q a1).trans ?_⟩
    · constructor
      · rintro (c | ⟨c, x', y', b1, b2, b3, b4⟩)
        · exact Or.inl c
        · exact Or.inr ⟨c, x', y', b1, b2, by omega, b4⟩
      · rintro (c | ⟨c, x', y', b1, b2, b3, b4⟩)
        · exact Or.inl c
        · exact Or.inr ⟨c, x', y', b1, b2, by omega, b4⟩
    · constructor
      · rintro (c | ⟨x', y', b1, b2, b3, b4⟩)
        · exact Or.inl c
        · exact Or.inr ⟨x', y', b1, b2, by omega, b4⟩
      · rintro (c | ⟨x', y', b1, b2, b3, b4⟩)
        · exact Or.inl c
        · exact Or.inr ⟨x', y', b1, b2, by omega, b4⟩
  · rintro fu y m x ⟨th, M⟩ hy _ hx ⟨hM', hU'⟩ ih
    have h4' : (va_up g 10 th) 4 = nI W := h4
    have h5' : (va_up g 10 th) 5 = nI H := h5
    unfold wX8_lookFromEdge_l15 wX2_width
    dsimp only
    rw [h4']
    refine ⟨fun c => absurd c (nI_ge hx (by omega)), fun _ => ⟨hin, hin, ?_⟩⟩
    rw [nI_clamp (show j < 2 ^ 31 by omega), q_has, h4', h5', has_I hW hH]
    have e1 : (nI x + gwx j).toInt = (x : Int) + dX j := by rw [add_I (by rw [nI_I (by omega)]; omega) (by rw [nI_I (by omega)]; omega), nI_I (by omega)]
    have e2 : (nI y + gwy j).toInt = (y : Int) + dY j := by rw [add_I (by rw [nI_I (by omega)]; omega) (by rw [nI_I (by omega)]; omega), nI_I (by omega)]
    rw [e1, e2]
    simp only [wX8_lookFromEdge_j57, forall_eq, nI_1]
    by_cases hi : ing W H ((x : Int) + dX j) ((y : Int) + dY j)
    · rw [decide_eq_true (show 0 ≤ (x : Int) + dX j ∧ (x : Int) + dX j < W ∧ 0 ≤ (y : Int) + dY j ∧ (y : Int) + dY j < H from hi)]
      refine ⟨fun _ => ?_, fun c => absurd c (by decide)⟩
      refine ih (th, M) ⟨fun p j' q a1 a2 a3 => (hM' p j' q a1 a2 a3).trans ?_, fun q a1 => (hU' q a1).trans ?_⟩
      · constructor
        · rintro (c | ⟨c, x', y', b1, b2, b3, b4⟩)
          · exact Or.inl c
          · exact Or.inr ⟨c, x', y', b1, b2, by omega, b4⟩
        · rintro (c | ⟨c, x', y', b1, b2, b3, b4, b5⟩)
          · exact Or.inl c
          · by_cases e : y' = y ∧ x' = x
            · obtain ⟨rfl, rfl⟩ := e; exact absurd hi b4
            · exact Or.inr ⟨c, x', y', b1, b2, by omega, b4, b5⟩
      · constructor
        · rintro (c | ⟨x', y', b1, b2, b3, b4⟩)
          · exact Or.inl c
          · exact Or.inr ⟨x', y', b1, b2, by omega, b4⟩
        · rintro (c | ⟨x', y', b1, b2, b3, b4, b5⟩)
          · exact Or.inl c
          · by_cases e : y' = y ∧ x' = x
            · obtain ⟨rfl, rfl⟩ := e; exact absurd hi b4
            · exact Or.inr ⟨x', y', b1, b2, by omega, b4, b5⟩
    · rw [decide_eq_false (show ¬ (0 ≤ (x : Int) + dX j ∧ (x : Int) + dX j < W ∧ 0 ≤ (y : Int) + dY j ∧ (y : Int) + dY j < H) from hi)]
      refine ⟨fun c => absurd rfl c, fun _ => ?_⟩
      refine q_look hN h4 h5 hW hH hj hx hy hS hM' hU' (fun th' M' hM2 hU2 => ?_)
      refine ih (th', M') ⟨fun p j' q a1 a2 a3 => (hM2 p j' q a1 a2 a3).trans ?_, fun q a1 => (hU2 q a1).trans ?_⟩
      · constructor
        · rintro ((c | ⟨c, x', y', b1, b2, b3, b4⟩) | ⟨c, b⟩)
          · exact Or.inl c
          · exact Or.inr ⟨c, x', y', b1, b2, by omega, b4⟩
          · exact Or.inr ⟨c, x, y, hx, hy, by omega, hi, b⟩
        · rintro (c | ⟨c, x', y', b1, b2, b3, b4, b5⟩)
          · exact Or.inl (Or.inl c)
          · by_cases e : y' = y ∧ x' = x
            · obtain ⟨rfl, rfl⟩ := e; exact Or.inr ⟨c, b5⟩
            · exact Or.inl (Or.inr ⟨c, x', y', b1, b2, by omega, b4, b5⟩)
      · constructor
        · rintro ((c | ⟨x', y', b1, b2, b3, b4⟩) | b)
          · exact Or.inl c
          · exact Or.inr ⟨x', y', b1, b2, by omega, b4⟩
          · exact Or.inr ⟨x, y, hx, hy, by omega, hi, b⟩
        · rintro (c | ⟨x', y', b1, b2, b3, b4, b5⟩)
          · exact Or.inl (Or.inl c)
          · by_cases e : y' = y ∧ x' = x
            · obtain ⟨rfl, rfl⟩ := e; exact Or.inr b5
            · exact Or.inl (Or.inr ⟨x', y', b1, b2, by omega, b4, b5⟩)
  · exact ⟨fun c => Or.inl c, fun c => c.elim id (fun ⟨_, x', y', _, _, b3, _⟩ => absurd b3 (by omega))⟩
  · exact ⟨fun c => Or.inl c, fun c => c.elim id (fun ⟨x', y', _, _, b3, _⟩ => absurd b3 (by omega))⟩
theorem q_looks {N W H : Nat} {g : gFG} {f : gFF} {Q : gFG → gFF → Prop} (hN : 1000 ≤ N) (h4 : g 4 = nI W) (h5 : g 5 = nI H) (hW : W ≤ 12) (hH : H ≤ 12) (hS : ∀ k, k < 144 → isSortB (f 13 k) = true) {M0 : Nat → Int32} (hz : ∀ k, k < 32 → M0 k = 0) (h : ∀ th M, AccM M (fun p j q => Blk W H (f 13) p j q) → AccT th (thP W H (f 13)) → wX8_refresh_l64 N Q N 0 (va_up g 10 th) (va_up f 17 M)) : wX8_refresh_l46 N Q N 0 (va_up g 10 0) (va_up f 17 M0) := by
  refine lpU (β := Int32 × (Nat → Int32)) (fun fu j b => wX8_refresh_l46 N Q fu (nI j) (va_up g 10 b.1) (va_up f 17 b.2)) (fun j b => AccM b.2 (fun p j' q => j' < j ∧ Blk W H (f 13) p j' q) ∧ AccT b.1 (fun q => 0 < j ∧ thP W H (f 13) q)) 4 ?_ ?_ 0 N (0, M0) (by omega) (by omega) ⟨fun p j q a1 a2 a3 => ?_, fun q a1 => ?_⟩
  · rintro fu ⟨th, M⟩ ⟨hM, hU⟩
    unfold wX8_refresh_l46
    refine ⟨fun _ => h th M (fun p j q a1 a2 a3 => (hM p j q a1 a2 a3).trans ⟨fun c => c.2, fun c => ⟨a2, c⟩⟩) (fun q a1 => (hU q a1).trans ⟨fun c => c.2, fun c => ⟨by omega, c⟩⟩), fun c => absurd (nI_le (Nat.le_refl 4) (by decide)) c⟩
  · rintro fu j ⟨th, M⟩ hj ⟨hM, hU⟩ ih
    unfold wX8_refresh_l46
    refine ⟨fun c => absurd c (nI_ge hj (by decide)), fun _ => ?_⟩
    refine q_edge hN h4 h5 hW hH hj hS hM hU (fun th' M' hM2 hU2 => ?_)
    rintro _ rfl
    rw [nI_1]
    refine ih (th', M') ⟨fun p j' q a1 a2 a3 => (hM2 p j' q a1 a2 a3).trans ?_, fun q a1 => (hU2 q a1).trans ?_⟩
    · constructor
      · rintro (c | ⟨rfl, c⟩)
        · exact ⟨by omega, c.2⟩
        · exact ⟨by omega, c⟩
      · rintro ⟨c1, c2⟩
        by_cases e : j' = j
        · subst e; exact Or.inr ⟨rfl, c2⟩
        · exact Or.inl ⟨by omega, c2⟩
    · constructor
      · rintro (c | c)
        · exact ⟨by omega, c.2⟩
        · exact ⟨by omega, c⟩
      · rintro ⟨c1, c2⟩
        exact Or.inr c2
  · dsimp only
    rw [hz _ (by omega), b_0]
    exact ⟨fun c => by contradiction, fun c => absurd c.1 (by omega)⟩
  · rw [b_0]
    exact ⟨fun c => by contradiction, fun c => absurd c.1 (by omega)⟩
/-! the process -/
def canP (W H : Nat) (S : Nat → Int32) (p j : Nat) (G : Nat → Bool) : Prop := ∀ q, q < 32 → Blk W H S p j q → q = p ∨ (q < 8 ∧ G q = true)
noncomputable def Pb (W H : Nat) (S : Nat → Int32) (G : Nat → Bool) (i : Nat) : Bool := pb (thP W H S (i / 4) ∧ G (i / 4) = false ∧ canP W H S (i / 4) (i % 4) G)
def ff (P : Nat → Bool) : Nat → Nat → Nat
  | 0, i => i
  | n + 1, i => if P i = true then i else ff P n (i + 1)
theorem ff_s (P : Nat → Bool) : ∀ n i, (i ≤ ff P n i ∧ ff P n i ≤ i + n) ∧ (∀ k, i ≤ k → k < ff P n i → P k = false) ∧ (ff P n i < i + n → P (ff P n i) = true) := by
  intro n
  induction n with
  | zero => intro i; simp only [ff]; exact ⟨by omega, fun k h1 h2 => by omega, fun h => by omega⟩
  | succ n ih =>
    intro i
    simp only [ff]
    cases hp : P i with
    | true => rw [if_pos rfl]; exact ⟨by omega, fun k h1 h2 => by omega, fun _ => hp⟩
    | false =>
      rw [if_neg (by decide)]
      obtain ⟨a1, a2, a3⟩ := ih (i + 1)
      refine ⟨by omega, fun k h1 h2 => ?_, fun h => a3 (by omega)⟩
      by_cases e : k = i
      · rw [e]; exact hp
      · exact a2 k (by omega) h2
noncomputable def nxt (W H : Nat) (S : Nat → Int32) (G : Nat → Bool) : Nat := ff (Pb W H S G) 32 0
theorem nxt_is {W H : Nat} {S : Nat → Int32} {G : Nat → Bool} {j : Nat} (hj : j < 32) (h1 : Pb W H S G j = true) (h2 : ∀ k, k < j → Pb W H S G k = false) : nxt W H S G = j := by
  obtain ⟨a1, a2, a3⟩ := ff_s (Pb W H S G) 32 0
  unfold nxt
  rcases Nat.lt_trichotomy (ff (Pb W H S G) 32 0) j with h | h | h
  · have := h2 _ h
    rw [a3 (by omega)] at this; contradiction
  · exact h
  · have := a2 j (by omega) h
    rw [h1] at this; contradiction
theorem nxt_no {W H : Nat} {S : Nat → Int32} {G : Nat → Bool} (h2 : ∀ k, k < 32 → Pb W H S G k = false) : nxt W H S G = 32 := by
  obtain ⟨a1, a2, a3⟩ := ff_s (Pb W H S G) 32 0
  unfold nxt
  by_cases h : ff (Pb W H S G) 32 0 < 32
  · have := h2 _ h
    rw [a3 (by omega)] at this; contradiction
  · omega
theorem nxt_p {W H : Nat} {S : Nat → Int32} {G : Nat → Bool} (h : nxt W H S G < 32) : thP W H S (nxt W H S G / 4) ∧ G (nxt W H S G / 4) = false := by
  obtain ⟨a1, a2, a3⟩ := ff_s (Pb W H S G) 32 0
  have := pb_t.mp (a3 (by unfold nxt at h; omega))
  exact ⟨this.1, this.2.1⟩
noncomputable def Gs (W H : Nat) (S : Nat → Int32) : Nat → Nat → Bool
  | 0 => fun _ => false
  | i + 1 => fun q => Gs W H S i q || decide (nxt W H S (Gs W H S i) < 32 ∧ q = nxt W H S (Gs W H S i) / 4)
def cB (b : Nat → Bool) : Nat → Nat
  | 0 => 0
  | n + 1 => cB b n + if b n = true then 1 else 0
theorem cB_c {b b' : Nat → Bool} {n : Nat} (h : ∀ k, k < n → b k = b' k) : cB b n = cB b' n := by
  induction n with
  | zero => rfl
  | succ n ih => rw [cB, cB, ih (fun k hk => h k (by omega)), h n (by omega)]
theorem cB_le (b : Nat → Bool) (n : Nat) : cB b n ≤ n := by
  induction n with
  | zero => exact Nat.le_refl 0
  | succ n ih => rw [cB]; split <;> omega
theorem cB_up {b : Nat → Bool} {k n : Nat} (hk : k < n) (h0 : b k = false) : cB (fun q => b q || decide (q = k)) n = cB b n + 1 := by
  induction n with
  | zero => omega
  | succ n ih =>
    by_cases e : k = n
    · subst e
      rw [cB, cB, cB_c (b := fun q => b q || decide (q = k)) (b' := b) (fun j hj => by simp; omega)]
      simp [h0]
    · rw [cB, cB, ih (by omega)]
      have : (b n || decide (n = k)) = b n := by rw [decide_eq_false (by omega)]; simp
      rw [this]; omega
theorem cB_all {b : Nat → Bool} {n : Nat} (h : cB b n = n) : ∀ k, k < n → b k = true := by
  intro k hk
  cases hb : b k with
  | true => rfl
  | false =>
    have h1 := cB_up hk hb
    have h2 := cB_le (fun q => b q || decide (q = k)) n
    omega
theorem Gs_n {W H : Nat} {S : Nat → Int32} : ∀ i, (∀ k, k < i → nxt W H S (Gs W H S k) < 32) → cB (Gs W H S i) 8 = i := by
  intro i
  induction i with
  | zero => intro _; rfl
  | succ i ih =>
    intro h
    have h1 := ih (fun k hk => h k (by omega))
    have h2 := h i (by omega)
    obtain ⟨h3, h4⟩ := nxt_p h2
    have e : Gs W H S (i + 1) = fun q => Gs W H S i q || decide (q = nxt W H S (Gs W H S i) / 4) := by
      funext q
      show (Gs W H S i q || decide (nxt W H S (Gs W H S i) < 32 ∧ q = nxt W H S (Gs W H S i) / 4)) = _
      congr 1
      rw [decide_eq_decide]
      exact ⟨fun c => c.2, fun c => ⟨h2, c⟩⟩
    rw [e, cB_up (by omega) h4, h1]
theorem Gs_8 {W H : Nat} {S : Nat → Int32} (h : ∀ k, k < 8 → nxt W H S (Gs W H S k) < 32) : nxt W H S (Gs W H S 8) = 32 := by
  have h1 := cB_all (Gs_n 8 h)
  refine nxt_no (fun k hk => pb_f.mpr (fun c => ?_))
  rw [h1 (k / 4) (by omega)] at c
  exact absurd c.2.1 (by decide)
def SPd : gSP := fun W H S th gm od wy => ∃ n, n ≤ 8 ∧ (∀ k, k < n → nxt W H S (Gs W H S k) < 32) ∧ nxt W H S (Gs W H S n) = 32 ∧ AccT th (thP W H S) ∧ AccT gm (fun q => q < 8 ∧ Gs W H S n q = true) ∧ ∀ k, k < n → od k = nI (nxt W H S (Gs W H S k) / 4) ∧ wy k = nI (nxt W H S (Gs W H S k) % 4)
theorem q_bit {x : Int32} {p : Nat} (hp : p < 32) : (x >>> (nI p &&& 31)) &&& 1 = bi (bt x p) := by
  apply b_ext
  intro i hi
  have h1 : ∀ i, i < 32 → bt 1 i = decide (i = 0) := by decide +kernel
  rw [b_and, b_sshr p hp x hi, h1 i hi]
  by_cases e : i = 0
  · subst e
    rw [if_pos (by omega)]
    cases hb : bt x p with
    | false => rfl
    | true => rfl
  · rw [decide_eq_false e, Bool.and_false]
    cases hb : bt x p with
    | false => rw [bi_f, b_0]
    | true => rw [bi_t, h1 i hi, decide_eq_false e]
theorem q_mask {M v : Int32} : (M &&& (v ^^^ (-1)) = 0) ↔ ∀ q, q < 32 → bt M q = true → bt v q = true := by
  constructor
  · intro h q hq hM
    have : bt (M &&& (v ^^^ (-1))) q = false := by rw [h, b_0]
    rw [b_and, b_xor, b_m1 q hq, hM] at this
    simpa using this
  · intro h
    apply b_ext
    intro i hi
    rw [b_and, b_xor, b_m1 i hi, b_0]
    cases hM : bt M i with
    | false => rfl
    | true => rw [h i hi hM]; rfl
theorem q_low {N W H p : Nat} {S : Nat → Int32} {G : Nat → Bool} {g : gFG} {f : gFF} {Q : Int32 → gFG → gFF → Prop} (hN : 1000 ≤ N) (hp : p < 8) (hM : AccM (f 17) (fun p j q => Blk W H S p j q)) (hG : AccT (g 11) (fun q => q < 8 ∧ G q = true)) (h1 : ∀ j, j < 4 → canP W H S p j G → (∀ k, k < j → ¬ canP W H S p k G) → Q (nI j) g f) (h2 : (∀ k, k < 4 → ¬ canP W H S p k G) → Q (-1) g f) : wX8_lowestWay N (nI p) g f Q := by
  unfold wX8_lowestWay
  rintro _ rfl
  have test : ∀ j, j < 4 → ((f 17 (4 * p + j) &&& ((g 11 ||| 1 <<< (nI p &&& 31)) ^^^ (-1)) = 0) ↔ canP W H S p j G) := by
    intro j hj
    rw [q_mask]
    unfold canP
    constructor
    · intro h q hq hb
      have := h q hq ((hM p j q hp hj hq).mpr hb)
      rw [b_or, Bool.or_eq_true, hG q hq, bt_shl p q (by omega) hq, decide_eq_true_iff] at this
      exact this.symm
    · intro h q hq hb
      rw [b_or, Bool.or_eq_true, hG q hq, bt_shl p q (by omega) hq, decide_eq_true_iff]
      exact (h q hq ((hM p j q hp hj hq).mp hb)).symm
  refine lpU (β := Unit) (fun fu j _ => wX8_lowestWay_l11 N (nI p) (g 11 ||| 1 <<< (nI p &&& 31)) Q fu (nI j) g f) (fun j _ => ∀ k, k < j → ¬ canP W H S p k G) 4 ?_ ?_ 0 N () (by omega) (by omega) (fun k hk => absurd hk (by omega))
  · intro fu _ hb
    unfold wX8_lowestWay_l11
    exact ⟨fun _ => h2 hb, fun c => absurd (nI_le (Nat.le_refl 4) (by decide)) c⟩
  · intro fu j _ hj hb ih
    unfold wX8_lowestWay_l11
    refine ⟨fun c => absurd c (nI_ge hj (by decide)), fun _ => ?_⟩
    have e4 : nI p * 4 + nI j = nI (4 * p + j) := by
      have : nI p * nI 4 = nI (p * 4) := (Int32.ofNat_mul p 4).symm
      have e4 : nI p * 4 = nI (4 * p) := by rw [Nat.mul_comm] at this; exact this
      rw [e4, nI_add]
    rw [e4]
    simp only [forall_eq, nI_1, nI_clamp (show 4 * p + j < 2 ^ 31 by omega)]
    refine ⟨vp_in_nI (by omega) (by decide), fun c => ih () (fun k hk => ?_), fun c => h1 j hj ((test j hj).mp c) hb⟩
    by_cases e : k = j
    · rw [e]; exact fun q => c ((test j hj).mpr q)
    · exact hb k (by omega)
theorem q_takeL {N W H i : Nat} {S : Nat → Int32} {G : Nat → Bool} {g : gFG} {f : gFF} {Q : Int32 → gFG → gFF → Prop} (hN : 1000 ≤ N) (hi : i < 8) (hM : AccM (f 17) (fun p j q => Blk W H S p j q)) (hT : AccT (g 10) (thP W H S)) (hG : AccT (g 11) (fun q => q < 8 ∧ G q = true)) (h1 : ∀ j, nxt W H S G = j → j < 32 → Q 1 (va_up g 11 (g 11 ||| 1 <<< (nI (j / 4) &&& 31))) (va_up (va_up f 18 (upd (f 18) i (nI (j / 4)))) 19 (upd (f 19) i (nI (j % 4))))) (h2 : nxt W H S G = 32 → Q 0 g f) : wX8_takeLowestOff N (nI i) g f Q := by
  unfold wX8_takeLowestOff
  refine lpU (β := Unit) (fun fu p _ => wX8_takeLowestOff_l2 N (nI i) Q fu (nI p) g f) (fun p _ => ∀ k, k < 4 * p → Pb W H S G k = false) 8 ?_ ?_ 0 N () (by omega) (by omega) (fun k hk => absurd hk (by omega))
  · intro fu _ hb
    unfold wX8_takeLowestOff_l2
    exact ⟨fun _ => h2 (nxt_no hb), fun c => absurd (nI_le (Nat.le_refl 8) (by decide)) c⟩
  · intro fu p _ hp hb ih
    have hin : vp_in (nI i) 8 := vp_in_nI hi (by decide)
    have hT' := hT p (by omega)
    have hG' := hG p (by omega)
    -- no way for this piece
    have no : (∀ k, k < 4 → Pb W H S G (4 * p + k) = false) → wX8_takeLowestOff_j50 N (wX8_takeLowestOff_l2 N (nI i) Q fu) Q (nI i) (nI p) (-1) g f := by
      intro hk
      unfold wX8_takeLowestOff_j50
      refine ⟨fun _ => ?_, fun c => absurd rfl c⟩
      rintro _ rfl
      rw [nI_1]
      refine ih () (fun k hk2 => ?_)
      by_cases c : k < 4 * p
      · exact hb k c
      · have := hk (k - 4 * p) (by omega)
        rw [show 4 * p + (k - 4 * p) = k by omega] at this
        exact this
    have stays : ¬ (thP W H S p ∧ G p = false) → wX8_takeLowestOff_j35 N (wX8_takeLowestOff_l2 N (nI i) Q fu) Q (nI i) (nI p) g f := by
      intro hn
      unfold wX8_takeLowestOff_j35 wX8_takeLowestOff_j36
      refine ⟨fun _ => no (fun k hk => pb_f.mpr (fun c => hn ?_)), fun c => absurd rfl c⟩
      rw [show (4 * p + k) / 4 = p by omega] at c
      exact ⟨c.1, c.2.1⟩
    unfold wX8_takeLowestOff_l2
    refine ⟨fun c => absurd c (nI_ge hp (by decide)), fun _ => ?_⟩
    rw [q_bit (show p < 32 by omega), q_bit (show p < 32 by omega)]
    refine ⟨fun c => stays (fun q => c (by rw [hT'.mpr q.1]; rfl)), fun c => ⟨fun c2 => stays (fun q => c2 ?_), fun c2 => ?_⟩⟩
    · have : bt (g 11) p = false := by
        cases hb2 : bt (g 11) p with
        | false => rfl
        | true => rw [(hG'.mp hb2).2] at q; exact absurd q.2 (by decide)
      rw [this]; rfl
    · have hth : thP W H S p := hT'.mp (by rw [bi_1] at c; exact c)
      have hg : G p = false := by
        rw [bi_0] at c2
        cases hgp : G p with
        | false => rfl
        | true => rw [hG'.mpr ⟨hp, hgp⟩] at c2; contradiction
      have hPb : ∀ k, k < 4 → (Pb W H S G (4 * p + k) = true ↔ canP W H S p k G) := by
        intro k hk
        unfold Pb
        rw [pb_t, show (4 * p + k) / 4 = p by omega, show (4 * p + k) % 4 = k by omega]
        exact ⟨fun q => q.2.2, fun q => ⟨hth, hg, q⟩⟩
      unfold wX8_takeLowestOff_j36
      refine ⟨fun c => absurd c (by decide), fun _ => ?_⟩
      refine q_low hN hp hM hG (fun j hj hc hmin => ?_) (fun hno => ?_)
      · unfold wX8_takeLowestOff_j50
        refine ⟨fun c => ?_, fun _ => ?_⟩
        · rw [eq_I, nI_I (by omega), z_m1] at c; omega
        simp only [forall_eq, nI_clamp (show i < 2 ^ 31 by omega), hin, true_and, up_n _ _ (show (19 : Nat) ≠ 18 by decide)]
        have hn : nxt W H S G = 4 * p + j := by
          refine nxt_is (by omega) ((hPb j hj).mpr hc) (fun k hk => ?_)
          by_cases c : k < 4 * p
          · exact hb k c
          · have h0 : ¬ Pb W H S G (4 * p + (k - 4 * p)) = true := fun q => hmin (k - 4 * p) (by omega) ((hPb (k - 4 * p) (by omega)).mp q)
            rw [show 4 * p + (k - 4 * p) = k by omega] at h0
            cases hh : Pb W H S G k with
            | false => rfl
            | true => exact absurd hh h0
        have := h1 (4 * p + j) hn (by omega)
        rw [show (4 * p + j) / 4 = p by omega, show (4 * p + j) % 4 = j by omega] at this
        exact this
      · refine no (fun k hk => ?_)
        cases hh : Pb W H S G (4 * p + k) with
        | false => rfl
        | true => exact absurd ((hPb k hk).mp hh) (hno k hk)
