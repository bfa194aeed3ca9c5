/-! the component's stripping, whole -/
theorem up_cm {α : Type} (f : Nat → α) {a b : Nat} (x y : α) (h : a ≠ b) : va_up (va_up f a x) b y = va_up (va_up f b y) a x := by
  funext j
  by_cases h1 : j = a
  · subst h1
    rw [up_n _ _ h, up_s, up_s]
  · by_cases h2 : j = b
    · subst h2
      rw [up_s, up_n _ _ h1, up_s]
    · rw [up_n _ _ h2, up_n _ _ h1, up_n _ _ h1, up_n _ _ h2]
theorem q_64 {N W H : Nat} {S M : Nat → Int32} {th : Int32} {g : gFG} {f : gFF} {Q : gFG → gFF → Prop} (hN : 1000 ≤ N) (hM : AccM (f 17) (fun p j q => Blk W H S p j q)) (hT : AccT (g 10) (thP W H S)) (h11 : g 11 = 0) (h : ∀ gm od wy, SPd W H S (g 10) gm od wy → Q (va_up g 11 gm) (va_up (va_up f 18 od) 19 wy)) : wX8_refresh_l64 N Q N 0 g f := by
  have hh := lpU (β := Int32 × (Nat → Int32) × (Nat → Int32)) (fun fu i b => wX8_refresh_l64 N Q fu (nI i) (va_up g 11 b.1) (va_up (va_up f 18 b.2.1) 19 b.2.2)) (fun i b => (∀ k, k < i → nxt W H S (Gs W H S k) < 32) ∧ AccT b.1 (fun q => q < 8 ∧ Gs W H S i q = true) ∧ ∀ k, k < i → b.2.1 k = nI (nxt W H S (Gs W H S k) / 4) ∧ b.2.2 k = nI (nxt W H S (Gs W H S k) % 4)) 8 ?_ ?_ 0 N (0, f 18, f 19) (by omega) (by omega) ⟨fun k hk => absurd hk (by omega), fun q hq => ?_, fun k hk => absurd hk (by omega)⟩
  · have e1 : va_up g 11 0 = g := by
      have : (0 : Int32) = g 11 := h11.symm
      rw [this, up_id]
    have e2 : va_up (va_up f 18 (f 18)) 19 (f 19) = f := by rw [up_id, up_id]
    dsimp only at hh
    rw [e1, e2] at hh
    exact hh
  · rintro fu ⟨gm, od, wy⟩ ⟨i1, i2, i3⟩
    unfold wX8_refresh_l64
    exact ⟨fun _ => h gm od wy ⟨8, Nat.le_refl 8, i1, Gs_8 i1, hT, i2, i3⟩, fun c => absurd (nI_le (Nat.le_refl 8) (by decide)) c⟩
  · rintro fu i ⟨gm, od, wy⟩ hi ⟨i1, i2, i3⟩ ih
    unfold wX8_refresh_l64
    refine ⟨fun c => absurd c (nI_ge hi (by decide)), fun _ => ?_⟩
    refine q_takeL (W := W) (H := H) (S := S) (G := Gs W H S i) hN hi hM hT i2 (fun j hj hj32 => ?_) (fun hno => ?_)
    · refine ⟨fun _ => ?_, fun c => absurd c (by decide)⟩
      rintro _ rfl
      rw [nI_1]
      have g11 : (va_up g 11 gm) 11 = gm := rfl
      have f18 : (va_up (va_up f 18 od) 19 wy) 18 = od := rfl
      have f19 : (va_up (va_up f 18 od) 19 wy) 19 = wy := rfl
      dsimp only
      rw [g11, f18, f19, up_up, up_cm (va_up f 18 od) wy _ (show (19 : Nat) ≠ 18 by decide), up_up, up_up]
      refine ih (gm ||| 1 <<< (nI (j / 4) &&& 31), upd od i (nI (j / 4)), upd wy i (nI (j % 4))) ⟨fun k hk => ?_, fun q hq => ?_, fun k hk => ?_⟩
      · by_cases e : k = i
        · rw [e, hj]; exact hj32
        · exact i1 k (by omega)
      · dsimp only at i2 ⊢
        rw [b_or, Bool.or_eq_true, i2 q hq, bt_shl (j / 4) q (by omega) hq, decide_eq_true_iff]
        show _ ↔ q < 8 ∧ (Gs W H S i q || decide (nxt W H S (Gs W H S i) < 32 ∧ q = nxt W H S (Gs W H S i) / 4)) = true
        rw [Bool.or_eq_true, decide_eq_true_iff, hj]
        constructor
        · rintro (⟨c1, c2⟩ | c)
          · exact ⟨c1, Or.inl c2⟩
          · exact ⟨by omega, Or.inr ⟨hj32, c⟩⟩
        · rintro ⟨c1, c2 | ⟨-, c2⟩⟩
          · exact Or.inl ⟨c1, c2⟩
          · exact Or.inr c2
      · dsimp only at i3 ⊢
        by_cases e : k = i
        · subst e
          rw [upd_at, upd_at, hj]; exact ⟨rfl, rfl⟩
        · rw [upd_ne _ _ e, upd_ne _ _ e]; exact i3 k (by omega)
    · refine ⟨fun c => absurd rfl c, fun _ => ?_⟩
      exact h gm od wy ⟨i, by omega, i1, hno, hT, i2, i3⟩
  · dsimp only
    rw [b_0]
    exact ⟨fun c => by contradiction, fun c => absurd (show (false : Bool) = true from c.2) (by decide)⟩
theorem q_strip {N W H : Nat} {g : gFG} {f : gFF} {Q : gFG → gFF → Prop} (hN : 1000 ≤ N) (h4 : g 4 = nI W) (h5 : g 5 = nI H) (hW : W ≤ 12) (hH : H ≤ 12) (hS : ∀ k, k < 144 → isSortB (f 13 k) = true) (hI : (g 12 = g 6 ∧ SPd W H (f 13) (g 10) (g 11) (f 18) (f 19)) ∨ (g 12).toInt < (g 6).toInt) (h : ∀ g' f', g' 12 = g 6 → (∀ j, j ≠ 10 → j ≠ 11 → j ≠ 12 → g' j = g j) → (∀ j, j ≠ 17 → j ≠ 18 → j ≠ 19 → f' j = f j) → SPd W H (f 13) (g' 10) (g' 11) (f' 18) (f' 19) → Q g' f') : wX8_refresh N g f Q := by
  unfold wX8_refresh wX2_edition
  refine ⟨fun c => ?_, fun c => ?_⟩
  · simp only [forall_eq]
    refine q_fill hN (by decide) rfl (show lnC 17 = 32 from rfl) (by decide) ?_
    rw [up_cm (va_up g 12 (g 6)) 0 0 (show (10 : Nat) ≠ 11 by decide)]
    refine q_looks (g := va_up (va_up g 12 (g 6)) 11 0) hN h4 h5 hW hH hS (fun k hk => by simp [fz, hk]) (fun th M hM hT => ?_)
    refine q_64 (W := W) (H := H) (S := f 13) (M := M) (th := th) hN hM hT rfl (fun gm od wy hSP => ?_)
    refine h _ _ rfl (fun j j1 j2 j3 => ?_) (fun j j1 j2 j3 => ?_) hSP
    · rw [up_n _ _ j2, up_n _ _ j1, up_n _ _ j2, up_n _ _ j3]
    · rw [up_n _ _ j3, up_n _ _ j2, up_n _ _ j1]
  · rcases hI with ⟨-, hI⟩ | hI
    · exact h g f c (fun _ _ _ _ => rfl) (fun _ _ _ _ => rfl) hI
    · rw [c] at hI; omega
/-! the model's stripping -/
def okv (v : Int32) (p : Nat) (G : Nat → Bool) : Prop := v = nI (10 + p) ∨ v = 3 ∨ v = 4 ∨ ∃ q, q < 8 ∧ v = nI (10 + q) ∧ G q = true
def canM (W H : Nat) (S : Nat → Int32) (p j : Nat) (G : Nat → Bool) : Prop := ∀ x y : Nat, x < W → y < H → S (12 * y + x) = nI (10 + p) → ∀ s : Nat, 1 ≤ s → ing W H ((x : Int) + s * dX j) ((y : Int) + s * dY j) → okv (sv S ((x : Int) + s * dX j) ((y : Int) + s * dY j)) p G
theorem nI_34 {q : Nat} (hq : q < 8) : ¬ nI (10 + q) = 3 ∧ ¬ nI (10 + q) = 4 := by
  constructor
  · intro e
    have := congrArg Int32.toInt e
    rw [nI_I (by omega)] at this
    have e3 : (3 : Int32).toInt = 3 := rfl
    omega
  · intro e
    have := congrArg Int32.toInt e
    rw [nI_I (by omega)] at this
    have e3 : (4 : Int32).toInt = 4 := rfl
    omega
theorem can_PM {W H p j : Nat} {S : Nat → Int32} {G : Nat → Bool} (hp : p < 8) : canP W H S p j G ↔ canM W H S p j G := by
  constructor
  · intro h x y hx hy hS s hs hi
    generalize hv : sv S ((x : Int) + s * dX j) ((y : Int) + s * dY j) = v
    unfold okv
    cases hc : isClayB v with
    | true =>
      obtain ⟨q, hq, rfl⟩ := clay_ex hc
      rcases h q (by omega) ⟨x, y, hx, hy, hS, s, hs, hi, by rw [hv]; exact Or.inl ⟨hq, rfl⟩⟩ with e | ⟨-, e⟩
      · rw [e]; exact Or.inl rfl
      · exact Or.inr (Or.inr (Or.inr ⟨q, hq, rfl, e⟩))
    | false =>
      by_cases c3 : v = 3
      · exact Or.inr (Or.inl c3)
      · by_cases c4 : v = 4
        · exact Or.inr (Or.inr (Or.inl c4))
        · rcases h 8 (by omega) ⟨x, y, hx, hy, hS, s, hs, hi, by rw [hv]; exact Or.inr ⟨hc, c3, c4, rfl⟩⟩ with e | ⟨e, -⟩
          · omega
          · omega
  · rintro h q hq ⟨x, y, hx, hy, hS, s, hs, hi, hm⟩
    have ho := h x y hx hy hS s hs hi
    generalize sv S ((x : Int) + s * dX j) ((y : Int) + s * dY j) = v at hm ho
    rcases hm with ⟨q8, rfl⟩ | ⟨hc, c3, c4, rfl⟩
    · rcases ho with e | e | e | ⟨q', hq', e, hG⟩
      · have := nI_inj (by omega) (by omega) e
        exact Or.inl (by omega)
      · exact absurd e (nI_34 q8).1
      · exact absurd e (nI_34 q8).2
      · have := nI_inj (by omega) (by omega) e
        have : q' = q := by omega
        subst this
        exact Or.inr ⟨q8, hG⟩
    · rcases ho with e | e | e | ⟨q', hq', e, hG⟩
      · rw [e, clay_n hp] at hc; contradiction
      · exact absurd e c3
      · exact absurd e c4
      · rw [e, clay_n hq'] at hc; contradiction
theorem ing_cv2 {W H j : Nat} {ex ey : Int} (hj : j < 4) {s r : Nat} (h0 : ing W H ex ey) (hs : ing W H (ex + s * dX j) (ey + s * dY j)) (hr : r ≤ s) : ing W H (ex + r * dX j) (ey + r * dY j) := by
  rcases d_4 hj with ⟨e1, e2⟩ | ⟨e1, e2⟩ | ⟨e1, e2⟩ | ⟨e1, e2⟩ <;> (rw [e1, e2] at hs ⊢; unfold ing at *; omega)
theorem ing_13 {W H j : Nat} {ex ey : Int} (hW : W ≤ 12) (hH : H ≤ 12) (hj : j < 4) {s : Nat} (h0 : ing W H ex ey) (hs : ing W H (ex + s * dX j) (ey + s * dY j)) : s < 12 := by
  rcases d_4 hj with ⟨e1, e2⟩ | ⟨e1, e2⟩ | ⟨e1, e2⟩ | ⟨e1, e2⟩ <;> (rw [e1, e2] at hs; unfold ing at *; omega)
theorem q_103 {N W H p j x y : Nat} {S : Nat → Int32} {G : Nat → Bool} {b0 : Bool} {g : gFG} {f : gFF} {w : Int64} {K46 K58 : Int32 → Int32 → gFG → gFF → Int64 → Prop} {Q : Int32 → gFG → gFF → Int64 → Prop} (hN : 1000 ≤ N) (h2 : g 2 = nI W) (h3 : g 3 = nI H) (hW : W ≤ 12) (hH : H ≤ 12) (hp : p < 8) (hj : j < 4) (hx : x < W) (hy : y < H) (hS : ∀ k, k < 144 → f 1 k = S k ∧ isSortB (S k) = true) (hG : ∀ q, q < 8 → f 6 q = bi (G q)) (h : K58 (bi (b0 && pb (∀ s : Nat, 1 ≤ s → ing W H ((x : Int) + s * dX j) ((y : Int) + s * dY j) → okv (sv S ((x : Int) + s * dX j) ((y : Int) + s * dY j)) p G))) (nI (x + 1)) g f w) : wX12_canGo_l103 N (nI p) (gwx j) (gwy j) (nI y) (nI x) K46 K58 Q N (bi b0) (nI x + gwx j) (nI y + gwy j) g f w := by
  obtain ⟨r1, r2⟩ := gw_r j hj
  have h0 : ing W H (x : Int) (y : Int) := by unfold ing; omega
  have key : ∀ (m s fu : Nat) (bo : Bool) (v8 v9 : Int32), s + m = 13 → 1 ≤ s → m < fu → v8.toInt = (x : Int) + s * dX j → v9.toInt = (y : Int) + s * dY j → (bo = (b0 && pb (∀ s' : Nat, 1 ≤ s' → s' < s → ing W H ((x : Int) + s' * dX j) ((y : Int) + s' * dY j) → okv (sv S ((x : Int) + s' * dX j) ((y : Int) + s' * dY j)) p G))) → wX12_canGo_l103 N (nI p) (gwx j) (gwy j) (nI y) (nI x) K46 K58 Q fu (bi bo) v8 v9 g f w := by
    intro m
    induction m with
    | zero =>
      intro s fu bo v8 v9 h1 hs hf e8 e9 hb
      obtain ⟨fu, rfl⟩ : ∃ k, fu = k + 1 := ⟨fu - 1, by omega⟩
      have hno : ¬ ing W H ((x : Int) + s * dX j) ((y : Int) + s * dY j) := fun q => by have := ing_13 hW hH hj h0 q; omega
      unfold wX12_canGo_l103 wX12_canGo_j198
      rw [q_isCell, h2, h3, has_I hW hH, e8, e9, decide_eq_false hno]
      refine ⟨fun _ => ?_, fun c => absurd rfl c⟩
      rintro _ rfl
      rw [nI_1, hb]
      have : pb (∀ s' : Nat, 1 ≤ s' → s' < s → ing W H ((x : Int) + s' * dX j) ((y : Int) + s' * dY j) → okv (sv S ((x : Int) + s' * dX j) ((y : Int) + s' * dY j)) p G) = pb (∀ s : Nat, 1 ≤ s → ing W H ((x : Int) + s * dX j) ((y : Int) + s * dY j) → okv (sv S ((x : Int) + s * dX j) ((y : Int) + s * dY j)) p G) := by
        refine pb_c ⟨fun q s' c1 c2 => q s' c1 ?_ c2, fun q s' c1 _ c2 => q s' c1 c2⟩
        have := ing_13 hW hH hj h0 c2; omega
      rw [this]; exact h
    | succ m ih =>
      intro s fu bo v8 v9 h1 hs hf e8 e9 hb
      obtain ⟨fu, rfl⟩ : ∃ k, fu = k + 1 := ⟨fu - 1, by omega⟩
      unfold wX12_canGo_l103
      rw [q_isCell, h2, h3, has_I hW hH, e8, e9]
      by_cases hi : ing W H ((x : Int) + s * dX j) ((y : Int) + s * dY j)
      · rw [decide_eq_true (show 0 ≤ (x : Int) + s * dX j ∧ (x : Int) + s * dX j < W ∧ 0 ≤ (y : Int) + s * dY j ∧ (y : Int) + s * dY j < H from hi)]
        refine ⟨fun c => absurd c (by decide), fun _ => ?_⟩
        cases bo with
        | false =>
          refine ⟨fun _ => ?_, fun c => absurd rfl c⟩
          unfold wX12_canGo_j198
          rintro _ rfl
          rw [nI_1]
          have : (b0 && pb (∀ s : Nat, 1 ≤ s → ing W H ((x : Int) + s * dX j) ((y : Int) + s * dY j) → okv (sv S ((x : Int) + s * dX j) ((y : Int) + s * dY j)) p G)) = false := by
            cases b0 with
            | false => rfl
            | true =>
              rw [Bool.true_and] at hb ⊢
              exact pb_f.mpr (fun q => pb_f.mp hb.symm (fun s' c1 _ c2 => q s' c1 c2))
          rw [this] at h; exact h
        | true =>
          refine ⟨fun c => absurd c (by decide), fun _ => ?_⟩
          have hb0 : b0 = true := by cases b0 with
            | false => simp at hb
            | true => rfl
          subst hb0
          rw [Bool.true_and] at hb
          have hbt := pb_t.mp hb.symm
          obtain ⟨X, hX⟩ : ∃ X : Nat, (X : Int) = (x : Int) + s * dX j := ⟨((x : Int) + s * dX j).toNat, by unfold ing at hi; omega⟩
          obtain ⟨Y, hY⟩ : ∃ Y : Nat, (Y : Int) = (y : Int) + s * dY j := ⟨((y : Int) + s * dY j).toNat, by unfold ing at hi; omega⟩
          have hXW : X < W := by unfold ing at hi; omega
          have hYH : Y < H := by unfold ing at hi; omega
          have q8 : v8 = nI X := by rw [eq_I, e8, nI_I (by omega), hX]
          have q9 : v9 = nI Y := by rw [eq_I, e9, nI_I (by omega), hY]
          have hsv : sv S ((x : Int) + s * dX j) ((y : Int) + s * dY j) = S (12 * Y + X) := by rw [← hX, ← hY, sv_n]
          rw [q8, q9, yx_I]
          rintro _ rfl
          refine ⟨vp_in_nI (by omega) (by decide), ?_⟩
          rw [nI_clamp (show 12 * Y + X < 2 ^ 31 by omega), (hS (12 * Y + X) (by omega)).1]
          rintro _ rfl
          have e10 : (10 : Int32) + nI p = nI (10 + p) := nI_add 10 p
          rw [e10]
          have hsort := (hS (12 * Y + X) (by omega)).2
          generalize hvv : S (12 * Y + X) = vv at hsort hsv
          -- one step on
          have on : ∀ b1 : Bool, (b1 = true ↔ okv vv p G) → wX12_canGo_j180 N K46 K58 (wX12_canGo_l103 N (nI p) (gwx j) (gwy j) (nI y) (nI x) K46 K58 Q fu) Q (nI p) (gwx j) (gwy j) (nI y) (nI x) (nI X) (nI Y) (bi b1) g f w := by
            intro b1 hb1
            unfold wX12_canGo_j180
            rintro _ rfl _ rfl
            refine ih (s + 1) fu b1 _ _ (by omega) (by omega) (by omega) ?_ ?_ ?_
            · rw [add_I (by rw [nI_I (by omega)]; omega) (by rw [nI_I (by omega)]; omega), nI_I (by omega), hX]
              rcases d_4 hj with ⟨c1, c2⟩ | ⟨c1, c2⟩ | ⟨c1, c2⟩ | ⟨c1, c2⟩ <;> (rw [c1]; have := c1; unfold dX at this; rw [this]; omega)
            · rw [add_I (by rw [nI_I (by omega)]; omega) (by rw [nI_I (by omega)]; omega), nI_I (by omega), hY]
              rcases d_4 hj with ⟨c1, c2⟩ | ⟨c1, c2⟩ | ⟨c1, c2⟩ | ⟨c1, c2⟩ <;> (rw [c2]; have := c2; unfold dY at this; rw [this]; omega)
            · rw [Bool.true_and]
              have : b1 = true ↔ pb (∀ s' : Nat, 1 ≤ s' → s' < s + 1 → ing W H ((x : Int) + s' * dX j) ((y : Int) + s' * dY j) → okv (sv S ((x : Int) + s' * dX j) ((y : Int) + s' * dY j)) p G) = true := by
                rw [pb_t, hb1]
                constructor
                · intro q s' c1 c2 c3
                  by_cases e : s' = s
                  · rw [e, hsv]; exact q
                  · exact hbt s' c1 (by omega) c3
                · intro q
                  have := q s hs (by omega) hi
                  rw [hsv] at this; exact this
              cases b1 <;> cases hpb : pb (∀ s' : Nat, 1 ≤ s' → s' < s + 1 → ing W H ((x : Int) + s' * dX j) ((y : Int) + s' * dY j) → okv (sv S ((x : Int) + s' * dX j) ((y : Int) + s' * dY j)) p G) <;> simp_all
          have yes : okv vv p G → wX12_canGo_j175 N K46 K58 (wX12_canGo_l103 N (nI p) (gwx j) (gwy j) (nI y) (nI x) K46 K58 Q fu) Q (nI p) (gwx j) (gwy j) (nI y) (nI x) (nI X) (nI Y) g f w := fun q => on true ⟨fun _ => q, fun _ => rfl⟩
          have no : ¬ okv vv p G → wX12_canGo_j179 N K46 K58 (wX12_canGo_l103 N (nI p) (gwx j) (gwy j) (nI y) (nI x) K46 K58 Q fu) Q (nI p) (gwx j) (gwy j) (nI y) (nI x) (nI X) (nI Y) g f w := fun q => on false ⟨fun c => by contradiction, fun c => absurd c q⟩
          refine ⟨fun c => yes (Or.inl c), fun c1 => ⟨fun c => yes (Or.inr (Or.inl c)), fun c2 => ⟨fun c => yes (Or.inr (Or.inr (Or.inl c))), fun c3 => ⟨fun c => no ?_, fun c => ?_⟩⟩⟩⟩
          · rintro (e | e | e | ⟨q, hq, e, -⟩)
            · exact c1 e
            · exact c2 e
            · exact c3 e
            · rw [e, lt_I, nI_I (by omega), show (10 : Int32).toInt = 10 from rfl] at c; omega
          · have hcl : isClayB vv = true := by
              have h1 := of_decide_eq_true hsort
              rw [lt_I, show (10 : Int32).toInt = 10 from rfl] at c
              exact decide_eq_true (by omega)
            obtain ⟨q, hq, rfl⟩ := clay_ex hcl
            rw [nI_sub10]
            rintro _ rfl
            refine ⟨vp_in_nI hq (by decide), ?_⟩
            rw [nI_clamp (show q < 2 ^ 31 by omega), hG q hq, bi_0]
            refine ⟨fun c4 => no ?_, fun c4 => yes (Or.inr (Or.inr (Or.inr ⟨q, hq, rfl, by simpa using c4⟩)))⟩
            rintro (e | e | e | ⟨q', hq', e, hg⟩)
            · exact c1 e
            · exact c2 e
            · exact c3 e
            · have := nI_inj (by omega) (by omega) e
              have : q' = q := by omega
              subst this
              rw [hg] at c4; contradiction
      · rw [decide_eq_false (show ¬ (0 ≤ (x : Int) + s * dX j ∧ (x : Int) + s * dX j < W ∧ 0 ≤ (y : Int) + s * dY j ∧ (y : Int) + s * dY j < H) from hi)]
        refine ⟨fun _ => ?_, fun c => absurd rfl c⟩
        unfold wX12_canGo_j198
        rintro _ rfl
        rw [nI_1, hb]
        have : pb (∀ s' : Nat, 1 ≤ s' → s' < s → ing W H ((x : Int) + s' * dX j) ((y : Int) + s' * dY j) → okv (sv S ((x : Int) + s' * dX j) ((y : Int) + s' * dY j)) p G) = pb (∀ s : Nat, 1 ≤ s → ing W H ((x : Int) + s * dX j) ((y : Int) + s * dY j) → okv (sv S ((x : Int) + s * dX j) ((y : Int) + s * dY j)) p G) := by
          refine pb_c ⟨fun q s' c1 c2 => q s' c1 ?_ c2, fun q s' c1 _ c2 => q s' c1 c2⟩
          by_cases c : s' < s
          · exact c
          · exact absurd (ing_cv2 hj h0 c2 (show s ≤ s' by omega)) hi
        rw [this]; exact h
  refine key 12 1 N b0 _ _ rfl (by omega) (by omega) ?_ ?_ ?_
  · rw [add_I (by rw [nI_I (by omega)]; omega) (by rw [nI_I (by omega)]; omega), nI_I (by omega)]; unfold dX; omega
  · rw [add_I (by rw [nI_I (by omega)]; omega) (by rw [nI_I (by omega)]; omega), nI_I (by omega)]; unfold dY; omega
  · rw [pb_t.mpr (fun s' c1 c2 => by omega), Bool.and_true]
theorem q_canGo {N W H p j : Nat} {S : Nat → Int32} {G : Nat → Bool} {g : gFG} {f : gFF} {w : Int64} {Q : Int32 → gFG → gFF → Int64 → Prop} (hN : 1000 ≤ N) (h2 : g 2 = nI W) (h3 : g 3 = nI H) (hW : W ≤ 12) (hH : H ≤ 12) (hp : p < 8) (hj : j < 4) (hS : ∀ k, k < 144 → f 1 k = S k ∧ isSortB (S k) = true) (hG : ∀ q, q < 8 → f 6 q = bi (G q)) (h : Q (bi (pb (canP W H S p j G))) g f w) : wX12_canGo N (nI p) (nI j) g f w Q := by
  have l46 : wX12_canGo_l46 N (nI p) (gwx j) (gwy j) Q N 1 0 g f w := by
    refine lpD (β := Bool) (fun fu y b => wX12_canGo_l46 N (nI p) (gwx j) (gwy j) Q fu (bi b) (nI y) g f w) (fun fu y m x b => wX12_canGo_l58 N (nI p) (gwx j) (gwy j) (nI y) (wX12_canGo_l46 N (nI p) (gwx j) (gwy j) Q fu) Q m (bi b) (nI x) g f w) (fun y x b => b = true ↔ ∀ x' y' : Nat, x' < W → y' < H → (y' < y ∨ (y' = y ∧ x' < x)) → S (12 * y' + x') = nI (10 + p) → ∀ s : Nat, 1 ≤ s → ing W H ((x' : Int) + s * dX j) ((y' : Int) + s * dY j) → okv (sv S ((x' : Int) + s * dX j) ((y' : Int) + s * dY j)) p G) 0 W H N (by omega) (by omega) ?_ ?_ ?_ ?_ 0 N true (by omega) (by omega) ⟨fun _ x' y' _ _ c => by omega, fun _ => rfl⟩
    · intro fu b hb
      unfold wX12_canGo_l46
      rw [h3]
      refine ⟨fun _ => ⟨gz_bi b, ?_⟩, fun c => absurd (nI_le (Nat.le_refl H) (by omega)) c⟩
      have e : b = pb (canP W H S p j G) := by
        have : b = true ↔ pb (canP W H S p j G) = true := by
          rw [pb_t, can_PM hp, hb]
          exact ⟨fun q x y hx hy => q x y hx hy (Or.inl hy), fun q x y hx hy _ => q x y hx hy⟩
        cases b <;> cases hpb : pb (canP W H S p j G) <;> simp_all
      rw [e]; exact h
    · intro fu y b hy hb hi
      unfold wX12_canGo_l46
      rw [h3]
      exact ⟨fun c => absurd c (nI_ge hy (by omega)), fun _ => hi⟩
    · intro fu y m b hy hb ih
      unfold wX12_canGo_l58
      rw [h2]
      refine ⟨fun _ => ?_, fun c => absurd (nI_le (Nat.le_refl W) (by omega)) c⟩
      rintro _ rfl
      rw [nI_1]
      refine ih b (hb.trans ⟨fun q x' y' c1 c2 c3 => q x' y' c1 c2 (by omega), fun q x' y' c1 c2 c3 => q x' y' c1 c2 (by omega)⟩)
    · intro fu y m x b hy _ hx hb ih
      unfold wX12_canGo_l58
      rw [h2]
      refine ⟨fun c => absurd c (nI_ge hx (by omega)), fun _ => ?_⟩
      rw [yx_I]
      rintro _ rfl
      refine ⟨vp_in_nI (by omega) (by decide), ?_⟩
      have e10 : (10 : Int32) + nI p = nI (10 + p) := nI_add 10 p
      rw [nI_clamp (show 12 * y + x < 2 ^ 31 by omega), (hS (12 * y + x) (by omega)).1, e10]
      refine ⟨fun c => ?_, fun c => ?_⟩
      · rintro _ rfl _ rfl
        refine q_103 hN h2 h3 hW hH hp hj hx hy hS hG ?_
        refine ih _ ?_
        rw [Bool.and_eq_true, hb, pb_t]
        constructor
        · rintro ⟨q1, q2⟩ x' y' c1 c2 c3 c4
          by_cases e : y' = y ∧ x' = x
          · obtain ⟨rfl, rfl⟩ := e; exact q2
          · exact q1 x' y' c1 c2 (by omega) c4
        · intro q
          exact ⟨fun x' y' c1 c2 c3 => q x' y' c1 c2 (by omega), q x y hx hy (by omega) c⟩
      · unfold wX12_canGo_j198
        rintro _ rfl
        rw [nI_1]
        refine ih b (hb.trans ⟨fun q x' y' c1 c2 c3 c4 => ?_, fun q x' y' c1 c2 c3 => q x' y' c1 c2 (by omega)⟩)
        by_cases e : y' = y ∧ x' = x
        · obtain ⟨rfl, rfl⟩ := e; exact absurd c4 c
        · exact q x' y' c1 c2 (by omega) c4
  have : j = 0 ∨ j = 1 ∨ j = 2 ∨ j = 3 := by omega
  unfold wX12_canGo wX12_canGo_j18 wX12_canGo_j38
  rcases this with rfl | rfl | rfl | rfl
  · exact ⟨fun c => absurd rfl c, fun _ => ⟨fun _ => ⟨fun _ => l46, fun c => absurd c (by decide)⟩, fun c => absurd c (by decide)⟩⟩
  · exact ⟨fun _ => ⟨fun _ => ⟨fun c => absurd rfl c, fun _ => l46⟩, fun c => absurd c (by decide)⟩, fun c => absurd c (by decide)⟩
  · exact ⟨fun _ => ⟨fun c => absurd rfl c, fun _ => ⟨fun _ => ⟨fun _ => l46, fun c => absurd c (by decide)⟩, fun c => absurd c (by decide)⟩⟩, fun c => absurd c (by decide)⟩
  · exact ⟨fun _ => ⟨fun _ => ⟨fun _ => ⟨fun c => absurd rfl c, fun _ => l46⟩, fun c => absurd c (by decide)⟩, fun c => absurd c (by decide)⟩, fun c => absurd c (by decide)⟩
